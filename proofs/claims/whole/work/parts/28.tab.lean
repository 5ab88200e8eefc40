/-! tables on both sides; what is told of an opening -/
theorem cellT_lt {i what : Nat} (hi : i < 256) (hw : what < 6) : cellT i what < 1536 := by unfold cellT; omega
theorem cellT_inj {i what i' what' : Nat} (hi : i < 256) (hw : what < 6) (hi' : i' < 256) (hw' : what' < 6) (h : cellT i what = cellT i' what') : i = i' ∧ what = what' := by unfold cellT at h; omega
theorem S_cell {w : Wd} {sh : List Sh} {h : Hp} (i what : Nat) (hi : i < 256) (hw : what < 6) : C_X10_cell w sh (nI i) (nI what) h (fun v h1 => h1 = h ∧ v = nI (cellT i what)) := by
  refine K_X10_cell ⟨rfl, ?_⟩
  rw [show (3 : Int32) = nI 3 from rfl, pk_rem (by omega) (by decide) (by decide), pk_div (by omega) (by decide) (by decide), show (2 : Int32) = nI 2 from rfl, pk_mul, nI_add, show (256 : Int32) = nI 256 from rfl, pk_mul, nI_add]
  rfl
theorem S_get {w : Wd} {h : Hp} {t r a : Nat} {T : Tb} (V : TabV h t r a T) (i what : Nat) (hi : i < 256) (hw : what < 6) : C_X10_get w SH t (nI i) (nI what) h (fun v h1 => h1 = h ∧ v = nI (T.1.getD (cellT i what) 0)) := by
  obtain ⟨q1, q2, q3, q4, q5, q6, q7, q8⟩ := V
  have hc := cellT_lt hi hw
  refine K_X10_get ⟨q1, _, S_cell i what hi hw, fun v6 h5 hp => ?_⟩
  obtain ⟨rfl, rfl⟩ := hp
  refine ⟨by rw [q2]; exact q3.1, _, by rw [q2]; exact S_at q3 _ (by omega), fun v12 h11 hp => ?_⟩
  obtain ⟨rfl, rfl⟩ := hp
  have hlt : cellT i what < T.1.length := by omega
  exact ⟨rfl, by rw [dif_pos hlt, getD_at hlt]⟩
theorem S_putT {w : Wd} {h : Hp} {t r a : Nat} {T : Tb} (V : TabV h t r a T) (hta : t ≠ a) (hra : r ≠ t) (i what : Nat) (hi : i < 256) (hw : what < 6) (x : Int32) : C_X10_put w SH t (nI i) (nI what) x h (fun h1 => TabV h1 t r a (T.1.set (cellT i what) (un x), T.2) ∧ Fr [a] h h1) := by
  obtain ⟨q1, q2, q3, q4, q5, q6, q7, q8⟩ := V
  have hc := cellT_lt hi hw
  refine K_X10_put ⟨q1, _, S_cell i what hi hw, fun v6 h5 hp => ?_⟩
  obtain ⟨rfl, rfl⟩ := hp
  refine ⟨by rw [q2]; exact q3.1, _, by rw [q2]; exact S_put q3 _ (by omega) x, fun h11 hp => ?_⟩
  obtain ⟨R, F⟩ := hp
  exact ⟨⟨q1, by rw [F.1]; exact q2, R, by simpa using q4, by rw [F.2.2 t (by simpa using hta)]; exact q5, by rw [F.2.2 t (by simpa using hta)]; exact q6, q7, q8⟩, F⟩
theorem S_become {w : Wd} {h : Hp} {t r a r' a' N' : Nat} {T : Tb} {bs : List Nat} {lo : Bool} (V : TabV h t r a T) (hne : t ≠ r ∧ t ≠ a) (R' : RowV SH h r' a' N' bs lo) (hr : r' ≠ r) (hl : bs.length = 1536) (N S : Nat) (hN : N ≤ 32) (hS : S ≤ 16) : C_X10_become w SH t r' (nI N) (nI S) h (fun h1 => TabV h1 t r a (bs, N, S) ∧ Fr [t, r, a] h h1) := by
  obtain ⟨q1, q2, q3, q4, q5, q6, q7, q8⟩ := V
  refine K_X10_become ⟨q1, by rw [q2]; exact q3.1, _, by rw [q2]; exact S_clear q3, fun h6 hp => ?_⟩
  obtain ⟨R1, F1⟩ := hp
  have har : a' ≠ r := by
    intro e
    have h1 := R'.2.1
    rw [e, q3.1] at h1
    cases h1
  have R'' := R'.fr F1 (by simpa using hr) (by simpa using har)
  refine ⟨by rw [F1.1, q2]; exact q3.1, _, by rw [F1.1, q2]; exact S_append R1 R'' 0 1536 (by omega), fun h11 hp h12 e12 h14 e14 => ?_⟩
  rw [List.drop_zero, List.take_of_length_le (by omega), appL_ok (by simp; omega), List.nil_append] at hp
  obtain ⟨R2, F2⟩ := hp
  subst e12; subst e14
  have F : Fr [t, r, a] h h11 := (F1.mono (by simp)).tr1 (F2.mono (by simp))
  have F3 : Fr [t] h11 (wI (wI h11 t 1 (nI N)) t 2 (nI S)) := (Fr.rf.put (by simp)).put (by simp)
  refine ⟨⟨q1, by rw [F3.1, F.1]; exact q2, R2.fr F3 (by simpa using Ne.symm hne.1) (by simpa using Ne.symm hne.2), hl, by rw [wI_idx (by decide), wI_same], by rw [wI_same], hN, hS⟩, F.tr1 (F3.mono (by simp))⟩
theorem S_isEntry {w : Wd} {sh : List Sh} {h : Hp} (i what : Int32) : C_X11_isEntry w sh i what h (fun v h1 => h1 = h ∧ v = if i < 0 ∨ 256 ≤ i ∨ what < 0 ∨ 6 ≤ what then 0 else 1) := by
  refine K_X11_isEntry ⟨fun c => ⟨rfl, by rw [if_pos (Or.inl c)]⟩, fun c => ⟨fun c2 => ⟨rfl, by rw [if_pos (Or.inr (Or.inl c2))]⟩, fun c2 => ⟨fun c3 => ⟨rfl, by rw [if_pos (Or.inr (Or.inr (Or.inl c3)))]⟩, fun c3 => ⟨fun c4 => ⟨rfl, by rw [if_pos (Or.inr (Or.inr (Or.inr c4)))]⟩, fun c4 => ⟨rfl, by rw [if_neg (by simp [c, c2, c3, c4])]⟩⟩⟩⟩⟩
noncomputable def givenF (g : Tb) (n s : Int32) : Int32 × Tb := if n < 0 ∨ 32 < n ∨ s < 0 ∨ ¬ s ≤ 16 then (-2, g) else (256, (UBy, n.toNatClampNeg, s.toNatClampNeg))
/-- the given table alone has changed -/
theorem XS.given {h h1 : Hp} {s : St} {g' : Tb} (X : XS h s) (F : Fr [15, 16, 17] h h1) (V : TabV h1 15 16 17 g') : XS h1 (s.1, s.2.1, s.2.2.1, g', s.2.2.2.2) := by
  obtain ⟨f, ⟨ra, rc, rs, pm, e1, e2, e3, r1, r2, ⟨sp, lo, r3⟩, r4⟩, o⟩ := X
  have b := pm.b
  refine ⟨f.fr F, ⟨ra, rc, rs, pm, by rw [F.1]; exact e1, by rw [F.1]; exact e2, by rw [F.1]; exact e3, r1.fr F (by simp; omega) (by simp; omega), r2.fr F (by simp; omega) (by simp; omega), ⟨sp, lo, r3.fr F (by simp; omega) (by simp; omega)⟩, r4.fr F (by simp) (by simp)⟩, ?_⟩
  obtain ⟨q1, q2, q3, ⟨tf, ltf, q4⟩, q5, q6, q7, q8, q9, ⟨b1, l1, q10⟩, ⟨b2, l2, q11⟩, ⟨b3, l3, q12⟩, ⟨b4, l4, q13⟩⟩ := o
  have E : ∀ c, c ∉ [15, 16, 17] → h1.1 c = h.1 c ∧ h1.2.1 c = h.2.1 c := fun c hc => ⟨F.2.2 c hc, by rw [F.1]⟩
  refine ⟨q1.ag (E 12 (by simp)) (E 13 (by simp)) (E 14 (by simp)).1, V, q3.ag (E 18 (by simp)) (E 19 (by simp)) (E 20 (by simp)).1, ⟨tf, ltf, q4.ag (E 10 (by simp)) (E 11 (by simp)).1⟩, ?_, ?_, ?_, ?_, ?_, ⟨b1, l1, q10.ag (E 29 (by simp)) (E 30 (by simp)).1⟩, ⟨b2, l2, q11.ag (E 43 (by simp)) (E 44 (by simp)).1⟩, ⟨b3, l3, q12.ag (E 45 (by simp)) (E 46 (by simp)).1⟩, ⟨b4, l4, q13.ag (E 47 (by simp)) (E 48 (by simp)).1⟩⟩
  · unfold LogV; rw [(E 22 (by simp)).1, (E 21 (by simp)).1, (E 23 (by simp)).1]; exact q5
  · unfold CacV; rw [(E 24 (by simp)).1, (E 25 (by simp)).1, (E 26 (by simp)).1]; exact q6
  · rw [(E 49 (by simp)).1]; exact q7
  · rw [(E 49 (by simp)).1]; exact q8
  · rw [(E 70 (by simp)).1]; exact q9
theorem X_given {w : Wd} {h : Hp} {s : St} (X : XS h s) (n m : Int32) : C_X11_given w SH 1 n m h (fun r h1 => r = (givenF s.2.2.2.1 n m).1 ∧ XS h1 (s.1, s.2.1, s.2.2.1, (givenF s.2.2.2.1 n m).2, s.2.2.2.2) ∧ Ag XCells h h1) := by
  have f := X.1
  obtain ⟨q1, q2, -⟩ := X.2.2
  have k5 : h.2.1 1 5 = 12 := f (1, 5, 12) (by decide +kernel)
  have k6 : h.2.1 1 6 = 15 := f (1, 6, 15) (by decide +kernel)
  unfold givenF
  refine K_X11_given ⟨fun c => ?_, fun c => ⟨fun c2 => ?_, fun c2 => ⟨fun c3 => ?_, fun c3 => ⟨fun c4 => ?_, fun c4 => ?_⟩⟩⟩⟩
  · rw [if_pos (Or.inl c)]; exact ⟨rfl, X, Ag.rf⟩
  · rw [if_pos (Or.inr (Or.inl c2))]; exact ⟨rfl, X, Ag.rf⟩
  · rw [if_pos (Or.inr (Or.inr (Or.inl c3)))]; exact ⟨rfl, X, Ag.rf⟩
  · obtain ⟨i, hi, rfl⟩ := nI_of2 (M := 32) (n := 32) rfl c (Int32.not_lt.mp c2)
    obtain ⟨j, hj, rfl⟩ := nI_of2 (M := 16) (n := 16) rfl c3 c4
    rw [if_neg (by simp [c, c2, c3, c4]), nI_clamp (by omega), nI_clamp (by omega)]
    have R13 : RowV SH h 13 14 1536 UBy false := q1.2.2.1
    have hb := S_become (w := w) (bs := UBy) q2 ⟨by decide, by decide⟩ R13 (by decide) UBy_len i j hi hj
    refine ⟨rfl, by rw [k5]; rfl, by rw [k6]; rfl, _, by rw [k6, k5, q1.2.1]; exact hb, fun h11 hp => ?_⟩
    obtain ⟨V, F⟩ := hp
    exact ⟨rfl, X.given F V, F.ag fun c hc => mem_X (by simp at hc; omega)⟩
  · rw [if_pos (Or.inr (Or.inr (Or.inr c4)))]; exact ⟨rfl, X, Ag.rf⟩
def entryF (g : Tb) (i what v : Int32) : Int32 × Tb := if i < 0 ∨ 256 ≤ i ∨ what < 0 ∨ 6 ≤ what ∨ v < 0 ∨ 255 < v then (-2, g) else (nI (g.1.getD (cellT i.toNatClampNeg what.toNatClampNeg) 0), (g.1.set (cellT i.toNatClampNeg what.toNatClampNeg) (un v), g.2))
theorem nI_of3 {x M : Int32} {n : Nat} (hM : M = nI n) (hn : n < 2 ^ 31) (h : ¬ x < 0) (h5 : ¬ M ≤ x) : ∃ j : Nat, j < n ∧ x = nI j := by
  obtain ⟨j, hj, rfl⟩ := nI_of h
  rw [hM, nI_leI hn hj] at h5
  exact ⟨j, by omega, rfl⟩
theorem X_entry {w : Wd} {h : Hp} {s : St} (X : XS h s) (i what v : Int32) : C_X11_entry w SH 1 i what v h (fun r h1 => r = (entryF s.2.2.2.1 i what v).1 ∧ XS h1 (s.1, s.2.1, s.2.2.1, (entryF s.2.2.2.1 i what v).2, s.2.2.2.2) ∧ Ag XCells h h1) := by
  have f := X.1
  obtain ⟨q1, q2, -⟩ := X.2.2
  have k6 : h.2.1 1 6 = 15 := f (1, 6, 15) (by decide +kernel)
  unfold entryF
  refine K_X11_entry ⟨_, S_isEntry i what, fun v5 h4 hp => ?_⟩
  obtain ⟨rfl, rfl⟩ := hp
  by_cases he : i < 0 ∨ 256 ≤ i ∨ what < 0 ∨ 6 ≤ what
  · rw [if_pos he, if_pos (by rcases he with q | q | q | q <;> simp [q])]
    exact ⟨fun _ => ⟨rfl, X, Ag.rf⟩, fun c => absurd rfl c⟩
  · rw [if_neg he]
    refine ⟨fun c => absurd c (by decide), fun _ => ⟨_, S_isByte v, fun v11 h10 hp => ?_⟩⟩
    obtain ⟨rfl, rfl⟩ := hp
    by_cases hv : v < 0 ∨ 255 < v
    · rw [if_pos hv, if_pos (by rcases hv with q | q <;> simp [q])]
      exact ⟨fun c => absurd rfl c, fun _ => ⟨rfl, X, Ag.rf⟩⟩
    · rw [if_neg hv]
      refine ⟨fun _ => ?_, fun c => absurd c (by decide)⟩
      simp only [not_or] at he hv
      obtain ⟨a, ha, rfl⟩ := nI_of3 (M := 256) (n := 256) rfl (by decide) he.1 he.2.1
      obtain ⟨b, hb, rfl⟩ := nI_of3 (M := 6) (n := 6) rfl (by decide) he.2.2.1 he.2.2.2
      rw [if_neg (by simp [he, hv]), nI_clamp (by omega), nI_clamp (by omega)]
      refine ⟨rfl, by rw [k6]; rfl, _, by rw [k6]; exact S_get q2 a b ha hb, fun v19 h18 hp y20 e20 => ?_⟩
      obtain ⟨rfl, rfl⟩ := hp
      refine ⟨by rw [k6]; rfl, _, by rw [k6]; exact S_putT q2 (by decide) (by decide) a b ha hb v, fun h26 hp => ?_⟩
      obtain ⟨V, F⟩ := hp
      exact ⟨e20, X.given (F.mono (by simp)) V, F.ag fun c hc => mem_X (by simp at hc; omega)⟩
theorem X_place {w : Wd} {h : Hp} {s : St} (X : XS h s) : C_X11_place w SH 1 h (fun r h1 => r = s.2.2.2.2.2.2.2.2.2 ∧ XS h1 s ∧ Ag XCells h h1) := by
  have k : h.2.1 1 10 = 49 := X.1 (1, 10, 49) (by decide +kernel)
  have hp := X.2.2.2.2.2.2.2.2.1
  refine K_X11_place ⟨rfl, by rw [k]; rfl, _, by rw [k]; exact K_X7_faultPlace (RET := fun v h1 => h1 = h ∧ v = s.2.2.2.2.2.2.2.2.2) ⟨rfl, rfl, hp⟩, fun v7 h6 hp => ?_⟩
  obtain ⟨rfl, rfl⟩ := hp
  exact ⟨rfl, X, Ag.rf⟩
def toldF (o : OI) (what : Int32) : Int32 := if what = 8 then nI o.1.2.1 else if what = 9 then nI o.1.2.2 else if what < 0 ∨ ¬ what < 8 then -2 else nI (o.2.1 what.toNatClampNeg)
theorem X_told {w : Wd} {h : Hp} {s : St} (X : XS h s) (what : Int32) : C_X11_told w SH 1 what h (fun r h1 => r = toldF s.2.2.2.2 what ∧ XS h1 s ∧ Ag XCells h h1) := by
  have f := X.1
  have k7 : h.2.1 1 7 = 18 := f (1, 7, 18) (by decide +kernel)
  have k8 : h.2.1 1 8 = 21 := f (1, 8, 21) (by decide +kernel)
  have k22 : h.2.1 21 0 = 22 := f (21, 0, 22) (by decide +kernel)
  obtain ⟨q1, q2, q3, q4, q5, -⟩ := X.2.2
  unfold toldF
  refine K_X11_told ⟨fun c => ⟨fun c2 => ⟨fun c3 => ?_, fun c3 => ⟨fun c4 => ?_, fun c4 => ?_⟩⟩, fun c2 => ?_⟩, fun c => ?_⟩
  · rw [if_neg c, if_neg c2, if_pos (Or.inl c3)]; exact ⟨rfl, X, Ag.rf⟩
  · obtain ⟨j, hj, rfl⟩ := nI_of c3
    have c4' := c4
    rw [show (8 : Int32) = nI 8 from rfl, nI_ltI hj (by decide)] at c4'
    rw [if_neg c, if_neg c2, if_neg (by simp [c3, c4]), nI_clamp hj]
    have hc : C_X4_countOf w SH 21 (nI j) h (fun v h1 => h1 = h ∧ v = nI (s.2.2.2.2.2.1 j)) := K_X4_countOf ⟨fun c5 => absurd c5 c3, fun _ => ⟨fun c5 => absurd c5 (Int32.not_le.mpr c4), fun _ => ⟨rfl, 8, by rw [k22]; rfl, vp_in_nI c4' (by decide), rfl, by rw [k22, nI_clamp hj]; exact (q5.1 j c4').1⟩⟩⟩
    refine ⟨rfl, by rw [k8]; rfl, _, by rw [k8]; exact hc, fun v11 h10 hp => ?_⟩
    obtain ⟨rfl, rfl⟩ := hp
    exact ⟨rfl, X, Ag.rf⟩
  · rw [if_neg c, if_neg c2, if_pos (Or.inr c4)]; exact ⟨rfl, X, Ag.rf⟩
  · subst c2
    rw [if_neg (by decide), if_pos rfl]
    refine ⟨rfl, by rw [k7]; rfl, ?_⟩
    rw [k7]; exact ⟨q3.2.2.2.2.2.1, X, Ag.rf⟩
  · rw [if_pos c]
    refine ⟨rfl, by rw [k7]; rfl, ?_⟩
    rw [k7]; exact ⟨q3.2.2.2.2.1, X, Ag.rf⟩
def insF (ac : List (Nat × Nat × Int32 × Nat)) (i what : Int32) : Int32 := if i < 0 ∨ ac.length ≤ i.toNatClampNeg ∨ what < 0 ∨ ¬ what < 4 then -2 else
  let q := ac.getD i.toNatClampNeg (0, 0, 0, 0)
  if what = 0 then nI q.1 else if what = 1 then nI q.2.1 else if what = 2 then q.2.2.1 else nI q.2.2.2
theorem getD_ac {l : List (Nat × Nat × Int32 × Nat)} {i : Nat} (h : i < l.length) : l.getD i (0, 0, 0, 0) = l[i] := by simp [List.getD_eq_getElem?_getD, h]
theorem four {x : Int32} (h : ¬ x < 0) (h4 : x < 4) : x = 0 ∨ x = 1 ∨ x = 2 ∨ x = 3 := by
  obtain ⟨j, hj, rfl⟩ := nI_of h
  rw [show (4 : Int32) = nI 4 from rfl, nI_ltI hj (by decide)] at h4
  have : j = 0 ∨ j = 1 ∨ j = 2 ∨ j = 3 := by omega
  rcases this with rfl | rfl | rfl | rfl <;> simp [nI] <;> decide
theorem X_instruction {w : Wd} {h : Hp} {s : St} (X : XS h s) (i what : Int32) : C_X11_instruction w SH 1 i what h (fun r h1 => r = insF s.2.2.2.2.2.2.1 i what ∧ XS h1 s ∧ Ag XCells h h1) := by
  have f := X.1
  have k8 : h.2.1 1 8 = 21 := f (1, 8, 21) (by decide +kernel)
  have k23 : h.2.1 21 1 = 23 := f (21, 1, 23) (by decide +kernel)
  obtain ⟨q1, q2, q3, q4, ⟨l1, l2, l3, l4⟩, -⟩ := X.2.2
  unfold insF
  refine K_X11_instruction ⟨fun c => ?_, fun c => ⟨rfl, by rw [k8]; rfl, _, by rw [k8]; exact K_X4_length (RET := fun v h1 => h1 = h ∧ v = nI s.2.2.2.2.2.2.1.length) ⟨rfl, rfl, l2⟩, fun v8 h7 hp => ?_⟩⟩
  · rw [if_pos (Or.inl c)]; exact ⟨rfl, X, Ag.rf⟩
  · obtain ⟨rfl, rfl⟩ := hp
    obtain ⟨j, hj, rfl⟩ := nI_of c
    rw [nI_leI (by omega) hj, nI_clamp hj]
    refine ⟨fun c2 => ?_, fun c2 => ⟨fun c3 => ?_, fun c3 => ⟨fun c4 => ?_, fun c4 => ?_⟩⟩⟩
    · rw [if_pos (Or.inr (Or.inl c2))]; exact ⟨rfl, X, Ag.rf⟩
    · rw [if_pos (Or.inr (Or.inr (Or.inl c3)))]; exact ⟨rfl, X, Ag.rf⟩
    · have hlt : j < s.2.2.2.2.2.2.1.length := by omega
      rw [if_neg (by simp [c, c2, c3, c4])]
      have hd : ∀ b : Nat, b < 4 → C_X4_detail w SH 21 (nI j) (nI b) h7 (fun v h1 => h1 = h7 ∧ v = h7.1 23 (4 * j + b)) := by
        intro b hb
        refine K_X4_detail (fun y1 e1 => ?_)
        rw [show (4 : Int32) = nI 4 from rfl, pk_mul, nI_add] at e1
        subst e1
        refine ⟨fun c5 => absurd c5 (nI_pos (by omega)), fun _ => ⟨rfl, 8000, by rw [k23]; rfl, fun c5 => ?_, fun c5 => ⟨vp_in_nI (by omega) (by decide), rfl, ?_⟩⟩⟩
        · rw [ofN, nI_leI (by decide) (by omega)] at c5; omega
        · rw [k23, nI_clamp (by omega), Nat.mul_comm j 4]
      obtain ⟨d0, d1, d2, d3⟩ := l4 j hlt
      refine ⟨by rw [k8]; rfl, ?_⟩
      rw [k8, getD_ac hlt]
      rcases four c3 c4 with rfl | rfl | rfl | rfl
      · exact ⟨_, hd 0 (by decide), fun v17 h16 hp => by obtain ⟨rfl, rfl⟩ := hp; exact ⟨d0, X, Ag.rf⟩⟩
      · exact ⟨_, hd 1 (by decide), fun v17 h16 hp => by obtain ⟨rfl, rfl⟩ := hp; exact ⟨d1, X, Ag.rf⟩⟩
      · exact ⟨_, hd 2 (by decide), fun v17 h16 hp => by obtain ⟨rfl, rfl⟩ := hp; exact ⟨d2, X, Ag.rf⟩⟩
      · exact ⟨_, hd 3 (by decide), fun v17 h16 hp => by obtain ⟨rfl, rfl⟩ := hp; exact ⟨d3, X, Ag.rf⟩⟩
    · rw [if_pos (Or.inr (Or.inr (Or.inr c4)))]; exact ⟨rfl, X, Ag.rf⟩
def tabF (o : OI) (i what : Int32) : Int32 := if i < 0 ∨ 256 ≤ i ∨ what < 0 ∨ 6 ≤ what then -2 else nI (o.1.1.getD (cellT i.toNatClampNeg what.toNatClampNeg) 0)
theorem X_table {w : Wd} {h : Hp} {s : St} (X : XS h s) (i what : Int32) : C_X11_table w SH 1 i what h (fun r h1 => r = tabF s.2.2.2.2 i what ∧ XS h1 s ∧ Ag XCells h h1) := by
  have k7 : h.2.1 1 7 = 18 := X.1 (1, 7, 18) (by decide +kernel)
  obtain ⟨q1, q2, q3, -⟩ := X.2.2
  unfold tabF
  refine K_X11_table ⟨_, S_isEntry i what, fun v5 h4 hp => ?_⟩
  obtain ⟨rfl, rfl⟩ := hp
  by_cases he : i < 0 ∨ 256 ≤ i ∨ what < 0 ∨ 6 ≤ what
  · rw [if_pos he, if_pos he]
    exact ⟨fun _ => ⟨rfl, X, Ag.rf⟩, fun c => absurd rfl c⟩
  · rw [if_neg he, if_neg he]
    refine ⟨fun c => absurd c (by decide), fun _ => ?_⟩
    simp only [not_or] at he
    obtain ⟨a, ha, rfl⟩ := nI_of3 (M := 256) (n := 256) rfl (by decide) he.1 he.2.1
    obtain ⟨b, hb, rfl⟩ := nI_of3 (M := 6) (n := 6) rfl (by decide) he.2.2.1 he.2.2.2
    rw [nI_clamp (by omega), nI_clamp (by omega)]
    refine ⟨rfl, by rw [k7]; rfl, _, by rw [k7]; exact S_get q3 a b ha hb, fun v13 h12 hp => ?_⟩
    obtain ⟨rfl, rfl⟩ := hp
    exact ⟨rfl, X, Ag.rf⟩
def cacF (o : OI) (which i : Int32) : Int32 := if which = 0 ∧ ¬ i < 0 ∧ i.toNatClampNeg < o.1.2.1 then nI (o.2.2.2.1 i.toNatClampNeg) else if which = 1 ∧ ¬ i < 0 ∧ i.toNatClampNeg < 256 * o.1.2.2 then nI (o.2.2.2.2.1 i.toNatClampNeg) else -2
theorem X_cache {w : Wd} {h : Hp} {s : St} (X : XS h s) (which i : Int32) : C_X11_cache w SH 1 which i h (fun r h1 => r = cacF s.2.2.2.2 which i ∧ XS h1 s ∧ Ag XCells h h1) := by
  have f := X.1
  have k9 : h.2.1 1 9 = 24 := f (1, 9, 24) (by decide +kernel)
  have k25 : h.2.1 24 0 = 25 := f (24, 0, 25) (by decide +kernel)
  have k26 : h.2.1 24 1 = 26 := f (24, 1, 26) (by decide +kernel)
  obtain ⟨q1, q2, q3, q4, q5, ⟨c1, c2, c3, c4, c5, c6⟩, -⟩ := X.2.2
  have second : ¬ (which = 0 ∧ ¬ i < 0 ∧ i.toNatClampNeg < s.2.2.2.2.1.2.1) → V_X11_cache_28 w SH 1 which i h (fun r h1 => r = cacF s.2.2.2.2 which i ∧ XS h1 s ∧ Ag XCells h h1) := by
    intro h0
    unfold cacF
    rw [if_neg h0]
    refine ⟨fun d => ?_, fun d => ⟨fun d2 => ?_, fun d2 => ⟨rfl, by rw [k9]; rfl, ?_⟩⟩⟩
    · rw [if_neg (by simp [d])]; exact ⟨rfl, X, Ag.rf⟩
    · rw [if_neg (by simp [d2])]; exact ⟨rfl, X, Ag.rf⟩
    · obtain ⟨j, hj, rfl⟩ := nI_of d2
      rw [k9, c2, nI_leI (by omega) hj, nI_clamp hj]
      refine ⟨fun d3 => ?_, fun d3 => ⟨_, K_X0_sameAt (RET := fun v h1 => h1 = h ∧ v = nI (s.2.2.2.2.2.2.2.2.1 j)) ⟨fun d4 => absurd d4 d2, fun _ => ⟨rfl, fun d4 => ?_, fun _ => ⟨4096, by rw [k26]; rfl, vp_in_nI (by omega) (by decide), rfl, ?_⟩⟩⟩, fun v10 h9 hp => ?_⟩⟩
      · rw [if_neg (by simp; omega)]; exact ⟨rfl, X, Ag.rf⟩
      · rw [c2, nI_leI (by omega) hj] at d4; omega
      · rw [k26, nI_clamp hj]; exact c6 j (by omega)
      · obtain ⟨rfl, rfl⟩ := hp
        rw [if_pos ⟨d, d2, by omega⟩]
        exact ⟨rfl, X, Ag.rf⟩
  refine K_X11_cache ⟨fun d => second (by simp [d]), fun d => ⟨fun d2 => second (by simp [d2]), fun d2 => ⟨rfl, by rw [k9]; rfl, ?_⟩⟩⟩
  obtain ⟨j, hj, rfl⟩ := nI_of d2
  rw [k9, c1, nI_leI (by omega) hj]
  refine ⟨fun d3 => second (by rw [nI_clamp hj]; simp; omega), fun d3 => ⟨_, K_X0_nearAt (RET := fun v h1 => h1 = h ∧ v = nI (s.2.2.2.2.2.2.2.1 j)) ⟨fun d4 => absurd d4 d2, fun _ => ⟨rfl, fun d4 => ?_, fun _ => ⟨32, by rw [k25]; rfl, vp_in_nI (by omega) (by decide), rfl, ?_⟩⟩⟩, fun v10 h9 hp => ?_⟩⟩
  · rw [c1, nI_leI (by omega) hj] at d4; omega
  · rw [k25, nI_clamp hj]; exact c5 j (by omega)
  · obtain ⟨rfl, rfl⟩ := hp
    unfold cacF
    rw [nI_clamp hj, if_pos ⟨d, d2, by omega⟩]
    exact ⟨rfl, X, Ag.rf⟩
