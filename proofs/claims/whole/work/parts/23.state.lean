/-! the cells of both objects (printed by wip/whole/gen_state.py), and what of them never changes -/
def SH : List Sh := [.inr 11, .inr 8, .inl (0, 8000), .inr 8, .inl (0, 8000), .inr 8, .inl (0, 8000), .inr 8, .inl (0, 4000), .inr 8, .inl (0, 2048), .inr 10, .inr 8, .inl (0, 1536), .inr 10, .inr 8, .inl (0, 1536), .inr 10, .inr 8, .inl (0, 1536), .inr 4, .inl (1, 8), .inl (1, 8000), .inr 0, .inl (1, 32), .inl (1, 4096), .inr 5, .inr 3, .inr 8, .inl (0, 6048), .inl (1, 1024), .inl (1, 6048), .inr 6, .inl (1, 1024), .inl (1, 1024), .inl (1, 1024), .inr 1, .inl (1, 256), .inl (1, 256), .inr 0, .inl (1, 32), .inl (1, 4096), .inr 8, .inl (0, 2048), .inr 8, .inl (0, 3072), .inr 8, .inl (0, 2048), .inr 7, .inr 2, .inr 8, .inl (0, 0), .inr 2, .inr 8, .inl (0, 0), .inr 2, .inr 8, .inl (0, 0), .inr 2, .inr 8, .inl (0, 0), .inr 2, .inr 8, .inl (0, 0), .inr 9, .inr 8, .inl (0, 0), .inr 8, .inl (0, 0), .inr 7, .inr 0, .inl (1, 4), .inl (1, 768), .inr 4, .inl (1, 8), .inl (1, 0), .inr 2, .inr 8, .inl (0, 0), .inr 2, .inr 8, .inl (0, 0), .inr 2, .inr 8, .inl (0, 0), .inr 2, .inr 8, .inl (0, 0), .inr 2, .inr 8, .inl (0, 0), .inr 9, .inr 8, .inl (0, 0), .inr 8, .inl (0, 0), .inr 12, .inl (0, 8000), .inl (0, 8000), .inl (0, 4000), .inl (1, 6144), .inl (1, 4), .inl (1, 4), .inl (0, 1536), .inl (0, 8000), .inl (0, 8000), .inl (0, 16000), .inl (2, 32), .inl (2, 4096), .inl (1, 8), .inl (1, 2000), .inl (1, 2000), .inl (1, 2000), .inl (1, 2000), .inl (0, 40000), .inl (0, 40000), .inl (0, 1536), .inl (0, 30000), .inl (1, 2100), .inl (1, 2100), .inl (1, 2100), .inl (1, 2100), .inl (1, 32), .inl (1, 4096), .inl (0, 16000)]
def FINS : List (Nat × Nat × Nat) := [(1, 3, 8), (1, 4, 10), (1, 5, 12), (1, 6, 15), (1, 7, 18), (1, 8, 21), (1, 9, 24), (1, 10, 49), (1, 11, 70), (1, 12, 27), (2, 0, 3), (4, 0, 5), (6, 0, 7), (8, 0, 9), (10, 0, 11), (12, 0, 13), (13, 0, 14), (15, 0, 16), (16, 0, 17), (18, 0, 19), (19, 0, 20), (21, 0, 22), (21, 1, 23), (24, 0, 25), (24, 1, 26), (27, 0, 28), (27, 1, 33), (27, 2, 37), (27, 3, 40), (27, 4, 43), (27, 5, 45), (27, 6, 47), (28, 0, 29), (28, 1, 31), (28, 2, 32), (29, 0, 30), (33, 0, 34), (33, 1, 35), (33, 2, 36), (37, 0, 38), (37, 1, 39), (40, 0, 41), (40, 1, 42), (43, 0, 44), (45, 0, 46), (47, 0, 48), (49, 0, 18), (49, 1, 24), (49, 2, 21), (49, 4, 50), (49, 5, 53), (49, 6, 56), (49, 7, 59), (49, 8, 62), (49, 9, 65), (51, 0, 52), (54, 0, 55), (57, 0, 58), (60, 0, 61), (63, 0, 64), (66, 0, 67), (68, 0, 69), (70, 0, 12), (70, 1, 71), (70, 2, 74), (70, 4, 77), (70, 5, 80), (70, 6, 83), (70, 7, 86), (70, 8, 89), (70, 9, 92), (71, 0, 72), (71, 1, 73), (74, 0, 75), (74, 1, 76), (78, 0, 79), (81, 0, 82), (84, 0, 85), (87, 0, 88), (90, 0, 91), (93, 0, 94), (95, 0, 96), (97, 0, 98), (97, 2, 99), (97, 4, 100), (97, 9, 101), (97, 10, 102), (97, 11, 103), (97, 12, 104), (97, 20, 105), (97, 21, 106), (97, 24, 107), (97, 27, 108), (97, 28, 109), (97, 30, 110), (97, 32, 111), (97, 33, 112), (97, 34, 113), (97, 35, 114), (97, 42, 115), (97, 44, 116), (97, 46, 117), (97, 47, 118), (97, 52, 119), (97, 53, 120), (97, 54, 121), (97, 55, 122), (97, 56, 123), (97, 57, 124), (97, 58, 125)]
def Fin (h : Hp) : Prop := ∀ q ∈ FINS, h.2.1 q.1 q.2.1 = q.2.2
theorem Fin.fr {h h1 : Hp} {S : List Nat} (f : Fin h) (F : Fr S h h1) : Fin h1 := fun q hq => by rw [F.1]; exact f q hq
/-- what is outside the cells S is as it was -/
def Ag (S : List Nat) (h h1 : Hp) : Prop := ∀ c, c ∉ S → h1.1 c = h.1 c ∧ h1.2.1 c = h.2.1 c ∧ h1.2.2 c = h.2.2 c
theorem Fr.ag {S T : List Nat} {h h1 : Hp} (F : Fr S h h1) (hs : ∀ c, c ∈ S → c ∈ T) : Ag T h h1 := fun c hc => ⟨F.2.2 c (fun q => hc (hs c q)), by rw [F.1], by rw [F.2.1]⟩
theorem Ag.rf {S : List Nat} {h : Hp} : Ag S h h := fun _ _ => ⟨rfl, rfl, rfl⟩
theorem Ag.tr {S : List Nat} {h h1 h2 : Hp} (a : Ag S h h1) (b : Ag S h1 h2) : Ag S h h2 := fun c hc => ⟨(b c hc).1.trans (a c hc).1, (b c hc).2.1.trans (a c hc).2.1, (b c hc).2.2.trans (a c hc).2.2⟩
def XCells : List Nat := List.range 97
def MCells : List Nat := (List.range 29).map (· + 97)
abbrev Tb : Type := List Nat × Nat × Nat
abbrev OI : Type := Tb × (Nat → Nat) × List (Nat × Nat × Int32 × Nat) × (Nat → Nat) × (Nat → Nat) × Int32
abbrev St : Type := List Nat × List Nat × List Nat × Tb × OI
/-- the usual table's code c: KIND, SIZE, MODE of the first, then of the second -/
def uE (c : Nat) : Nat × Nat × Nat × Nat × Nat × Nat :=
  if c = 0 then (2, 0, 0, 0, 0, 0) else if c < 19 then (1, c - 1, 0, 0, 0, 0) else if c < 163 then (3, (if (c - 19) % 16 = 0 then 0 else (c - 19) % 16 + 3), (c - 19) / 16, 0, 0, 0)
  else if c < 235 then (1, (c - 163) % 12 / 3 + 1, 0, 3, (c - 163) % 3 + 4, (c - 163) / 12) else if c < 247 then (1, (c - 235) % 4 + 1, 0, 3, 4, 6 + (c - 235) / 4) else (3, 4, c - 247, 1, 1, 0)
/-- place k of the usual table AS BYTES -/
def uAt (k : Nat) : Nat := match k / 256 with
  | 0 => (uE (k % 256)).1
  | 1 => (uE (k % 256)).2.2.2.1
  | 2 => (uE (k % 256)).2.1
  | 3 => (uE (k % 256)).2.2.2.2.1
  | 4 => (uE (k % 256)).2.2.1
  | _ => (uE (k % 256)).2.2.2.2.2
theorem UBy_ex : ∃ l : List Nat, l = (List.range 1536).map uAt := ⟨_, rfl⟩
/-- the usual table AS BYTES (kept closed) -/
noncomputable def UBy : List Nat := UBy_ex.choose
theorem UBy_eq : UBy = (List.range 1536).map uAt := UBy_ex.choose_spec
theorem UBy_len : UBy.length = 1536 := by rw [UBy_eq]; simp
def TabV (h : Hp) (t r a : Nat) (T : Tb) : Prop := shAt SH t = some (.inr 10) ∧ h.2.1 t 0 = r ∧ RowV SH h r a 1536 T.1 false ∧ T.1.length = 1536 ∧ h.1 t 1 = nI T.2.1 ∧ h.1 t 2 = nI T.2.2 ∧ T.2.1 ≤ 32 ∧ T.2.2 ≤ 16
def LogV (h : Hp) (tl : Nat → Nat) (ac : List (Nat × Nat × Int32 × Nat)) : Prop := (∀ j, j < 8 → h.1 22 j = nI (tl j) ∧ True) ∧ h.1 21 2 = nI ac.length ∧ ac.length ≤ 2000 ∧ ∀ i (hi : i < ac.length), h.1 23 (4 * i) = nI ac[i].1 ∧ h.1 23 (4 * i + 1) = nI ac[i].2.1 ∧ h.1 23 (4 * i + 2) = ac[i].2.2.1 ∧ h.1 23 (4 * i + 3) = nI ac[i].2.2.2
def CacV (h : Hp) (N S : Nat) (nr sm : Nat → Nat) : Prop := h.1 24 2 = nI N ∧ h.1 24 3 = nI (256 * S) ∧ N ≤ 32 ∧ S ≤ 16 ∧ (∀ i, i < N → h.1 25 i = nI (nr i)) ∧ (∀ i, i < 256 * S → h.1 26 i = nI (sm i))
def PermR (q : Nat × Nat × Nat) : Prop := q ∈ [(2, 4, 6), (2, 6, 4), (4, 2, 6), (4, 6, 2), (6, 2, 4), (6, 4, 2)]
/-- the class's rows -/
def XA (h : Hp) (row came old : List Nat) : Prop := ∃ ra rc rs, PermR (ra, rc, rs) ∧ h.2.1 1 0 = ra ∧ h.2.1 1 1 = rc ∧ h.2.1 1 2 = rs ∧ RowV SH h ra (ra + 1) 8000 row false ∧ RowV SH h rc (rc + 1) 8000 came false ∧ (∃ sp lo, RowV SH h rs (rs + 1) 8000 sp lo) ∧ RowV SH h 8 9 4000 old false
/-- what else the class holds: the cells 10 .. 96 -/
def XO (h : Hp) (g : Tb) (o : OI) : Prop := TabV h 12 13 14 (UBy, 4, 3) ∧ TabV h 15 16 17 g ∧ TabV h 18 19 20 o.1 ∧ (∃ tf lo, RowV SH h 10 11 2048 tf lo) ∧ LogV h o.2.1 o.2.2.1 ∧ CacV h o.1.2.1 o.1.2.2 o.2.2.2.1 o.2.2.2.2.1 ∧ h.1 49 13 = o.2.2.2.2.2 ∧ h.1 49 3 = 6 ∧ h.1 70 3 = 4 ∧ (∃ b l, RowV SH h 29 30 6048 b l) ∧ (∃ b l, RowV SH h 43 44 2048 b l) ∧ (∃ b l, RowV SH h 45 46 3072 b l) ∧ (∃ b l, RowV SH h 47 48 2048 b l)
def XS (h : Hp) (s : St) : Prop := Fin h ∧ XA h s.1 s.2.1 s.2.2.1 ∧ XO h s.2.2.2.1 s.2.2.2.2
theorem RowV.ag {sh : List Sh} {h h1 : Hp} {r a N : Nat} {bs : List Nat} {lo : Bool} (R : RowV sh h r a N bs lo) (hr : h1.1 r = h.1 r ∧ h1.2.1 r = h.2.1 r) (ha : h1.1 a = h.1 a) : RowV sh h1 r a N bs lo := by
  obtain ⟨q1, q2, q3, q4, q5, q6, q7, q8⟩ := R
  exact ⟨q1, q2, by rw [hr.2]; exact q3, q4, q5, by rw [hr.1]; exact q6, fun j hj => by rw [ha]; exact q7 j hj, by rw [hr.1]; exact q8⟩
theorem TabV.ag {h h1 : Hp} {t r a : Nat} {T : Tb} (R : TabV h t r a T) (ht : h1.1 t = h.1 t ∧ h1.2.1 t = h.2.1 t) (hr : h1.1 r = h.1 r ∧ h1.2.1 r = h.2.1 r) (ha : h1.1 a = h.1 a) : TabV h1 t r a T := by
  obtain ⟨q1, q2, q3, q4, q5, q6, q7, q8⟩ := R
  exact ⟨q1, by rw [ht.2]; exact q2, q3.ag hr ha, q4, by rw [ht.1]; exact q5, by rw [ht.1]; exact q6, q7, q8⟩
theorem XO.cong {h h1 : Hp} {g : Tb} {o : OI} (R : XO h g o) (e : ∀ c, 10 ≤ c → c ≤ 96 → h1.1 c = h.1 c ∧ h1.2.1 c = h.2.1 c) : XO h1 g o := by
  obtain ⟨q1, q2, q3, ⟨tf, ltf, q4⟩, q5, q6, q7, q8, q9, ⟨b1, l1, q10⟩, ⟨b2, l2, q11⟩, ⟨b3, l3, q12⟩, ⟨b4, l4, q13⟩⟩ := R
  have E := fun c h1 h2 => e c h1 h2
  refine ⟨q1.ag (E 12 (by decide) (by decide)) (E 13 (by decide) (by decide)) (E 14 (by decide) (by decide)).1, q2.ag (E 15 (by decide) (by decide)) (E 16 (by decide) (by decide)) (E 17 (by decide) (by decide)).1, q3.ag (E 18 (by decide) (by decide)) (E 19 (by decide) (by decide)) (E 20 (by decide) (by decide)).1, ⟨tf, ltf, q4.ag (E 10 (by decide) (by decide)) (E 11 (by decide) (by decide)).1⟩, ?_, ?_, ?_, ?_, ?_, ⟨b1, l1, q10.ag (E 29 (by decide) (by decide)) (E 30 (by decide) (by decide)).1⟩, ⟨b2, l2, q11.ag (E 43 (by decide) (by decide)) (E 44 (by decide) (by decide)).1⟩, ⟨b3, l3, q12.ag (E 45 (by decide) (by decide)) (E 46 (by decide) (by decide)).1⟩, ⟨b4, l4, q13.ag (E 47 (by decide) (by decide)) (E 48 (by decide) (by decide)).1⟩⟩
  · unfold LogV; rw [(E 22 (by decide) (by decide)).1, (E 21 (by decide) (by decide)).1, (E 23 (by decide) (by decide)).1]; exact q5
  · unfold CacV; rw [(E 24 (by decide) (by decide)).1, (E 25 (by decide) (by decide)).1, (E 26 (by decide) (by decide)).1]; exact q6
  · rw [(E 49 (by decide) (by decide)).1]; exact q7
  · rw [(E 49 (by decide) (by decide)).1]; exact q8
  · rw [(E 70 (by decide) (by decide)).1]; exact q9
theorem XO.fr {h h1 : Hp} {g : Tb} {o : OI} {S : List Nat} (R : XO h g o) (F : Fr S h h1) (hs : ∀ c, c ∈ S → c < 10) : XO h1 g o := R.cong fun c h1 h2 => ⟨F.2.2 c (fun q => by have := hs c q; omega), by rw [F.1]⟩
theorem PermR.cs {ra rc rs : Nat} (p : PermR (ra, rc, rs)) : (ra = 2 ∧ rc = 4 ∧ rs = 6) ∨ (ra = 2 ∧ rc = 6 ∧ rs = 4) ∨ (ra = 4 ∧ rc = 2 ∧ rs = 6) ∨ (ra = 4 ∧ rc = 6 ∧ rs = 2) ∨ (ra = 6 ∧ rc = 2 ∧ rs = 4) ∨ (ra = 6 ∧ rc = 4 ∧ rs = 2) := by
  simp [PermR] at p
  omega
theorem PermR.b {ra rc rs : Nat} (p : PermR (ra, rc, rs)) : 2 ≤ ra ∧ ra ≤ 6 ∧ 2 ≤ rc ∧ rc ≤ 6 ∧ 2 ≤ rs ∧ rs ≤ 6 ∧ ra ≠ rc ∧ ra ≠ rs ∧ rc ≠ rs ∧ ra ≠ rc + 1 ∧ ra ≠ rs + 1 ∧ rc ≠ rs + 1 ∧ rc ≠ ra + 1 ∧ rs ≠ ra + 1 ∧ rs ≠ rc + 1 := by
  have := p.cs
  omega
/-- the row alone has changed -/
theorem XS.row {h h1 : Hp} {s : St} {ra : Nat} {row' : List Nat} (X : XS h s) (e : h.2.1 1 0 = ra) (F : Fr [ra, ra + 1] h h1) (R : RowV SH h1 ra (ra + 1) 8000 row' false) : XS h1 (row', s.2) := by
  obtain ⟨f, ⟨ra', rc, rs, pm, e1, e2, e3, r1, r2, ⟨sp, lo, r3⟩, r4⟩, o⟩ := X
  have : ra' = ra := e1.symm.trans e
  subst this
  have b := pm.b
  refine ⟨f.fr F, ⟨ra', rc, rs, pm, by rw [F.1]; exact e1, by rw [F.1]; exact e2, by rw [F.1]; exact e3, R, r2.fr F ?_ ?_, ⟨sp, lo, r3.fr F ?_ ?_⟩, r4.fr F ?_ ?_⟩, o.fr F ?_⟩
  all_goals simp
  all_goals omega
/-- the class's row, from its state -/
theorem XS.get {h : Hp} {s : St} (X : XS h s) : ∃ ra, h.2.1 1 0 = ra ∧ 2 ≤ ra ∧ ra ≤ 6 ∧ RowV SH h ra (ra + 1) 8000 s.1 false := by
  obtain ⟨f, ⟨ra', rc, rs, pm, e1, e2, e3, r1, r2, ⟨sp, lo, r3⟩, r4⟩, o⟩ := X
  exact ⟨ra', e1, pm.b.1, pm.b.2.1, r1⟩
theorem XS.getC {h : Hp} {s : St} (X : XS h s) : ∃ rc, h.2.1 1 1 = rc ∧ 2 ≤ rc ∧ rc ≤ 6 ∧ RowV SH h rc (rc + 1) 8000 s.2.1 false := by
  obtain ⟨f, ⟨ra', rc, rs, pm, e1, e2, e3, r1, r2, ⟨sp, lo, r3⟩, r4⟩, o⟩ := X
  exact ⟨rc, e2, pm.b.2.2.1, pm.b.2.2.2.1, r2⟩
theorem mem_X {c : Nat} (h : c < 97) : c ∈ XCells := List.mem_range.mpr h
theorem FrX {h h1 : Hp} {ra : Nat} (F : Fr [ra, ra + 1] h h1) (hb : ra ≤ 6) : Ag XCells h h1 := F.ag fun c hc => mem_X (by simp at hc; omega)
