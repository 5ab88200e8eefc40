/-! an opener at the cell 49: the steps of a window's first bytes (printed twice by wip/whole/genopen.py) -/
/-- an opener between two steps -/
def HV49 (h : Hp) (ra rs e : Nat) (src base : List Nat) (T : Tb) (s : Ost) : Prop := (Fin h) ∧ (2 ≤ ra ∧ ra ≤ 6 ∧ 2 ≤ rs ∧ rs ≤ 6 ∧ ra ≠ rs ∧ ra + 1 ≠ rs ∧ rs + 1 ≠ ra) ∧ (RowV SH h ra (ra + 1) 8000 src false) ∧ (RowV SH h rs (rs + 1) 8000 s.out false) ∧ (RowV SH h 8 9 4000 base false) ∧ (TabV h 18 19 20 T) ∧ (CurV h 50 ra s.fa e) ∧ (CacW h 24 25 26 T.2.1 T.2.2 s.nr s.sm s.nx) ∧ (LogW true h 21 22 23 s.tl s.ac) ∧ (h.2.1 49 10 = 8 ∧ h.2.1 49 11 = rs ∧ h.1 49 12 = nI s.ft ∧ h.1 49 13 = (if s.ft = 0 then -1 else nI s.pl) ∧ h.1 49 3 = 6) ∧ (T.2.1 ≤ 32 ∧ 256 * T.2.2 ≤ 4096) ∧ (s.fa ≤ e ∧ e ≤ src.length) ∧ (∀ i, s.nr i < 16000) ∧ (∀ i, s.sm i < 16000) ∧ (s.nx < T.2.1 ∨ (T.2.1 = 0 ∧ s.nx = 0)) ∧ (s.ac.length ≤ 2000) ∧ (GoodT T) ∧ (s.ft < 17)
theorem HV49.of {h : Hp} {ra rs e : Nat} {src base : List Nat} {T : Tb} {s : Ost} (X : (Fin h) ∧ (2 ≤ ra ∧ ra ≤ 6 ∧ 2 ≤ rs ∧ rs ≤ 6 ∧ ra ≠ rs ∧ ra + 1 ≠ rs ∧ rs + 1 ≠ ra) ∧ (RowV SH h ra (ra + 1) 8000 src false) ∧ (RowV SH h rs (rs + 1) 8000 s.out false) ∧ (RowV SH h 8 9 4000 base false) ∧ (TabV h 18 19 20 T) ∧ (CurV h 50 ra s.fa e) ∧ (CacW h 24 25 26 T.2.1 T.2.2 s.nr s.sm s.nx) ∧ (LogW true h 21 22 23 s.tl s.ac) ∧ (h.2.1 49 10 = 8 ∧ h.2.1 49 11 = rs ∧ h.1 49 12 = nI s.ft ∧ h.1 49 13 = (if s.ft = 0 then -1 else nI s.pl) ∧ h.1 49 3 = 6) ∧ (T.2.1 ≤ 32 ∧ 256 * T.2.2 ≤ 4096) ∧ (s.fa ≤ e ∧ e ≤ src.length) ∧ (∀ i, s.nr i < 16000) ∧ (∀ i, s.sm i < 16000) ∧ (s.nx < T.2.1 ∨ (T.2.1 = 0 ∧ s.nx = 0)) ∧ (s.ac.length ≤ 2000) ∧ (GoodT T) ∧ (s.ft < 17)) : HV49 h ra rs e src base T s := X
theorem HV49.f {h : Hp} {ra rs e : Nat} {src base : List Nat} {T : Tb} {s : Ost} (X : HV49 h ra rs e src base T s) : Fin h := X.1
theorem HV49.b {h : Hp} {ra rs e : Nat} {src base : List Nat} {T : Tb} {s : Ost} (X : HV49 h ra rs e src base T s) : 2 ≤ ra ∧ ra ≤ 6 ∧ 2 ≤ rs ∧ rs ≤ 6 ∧ ra ≠ rs ∧ ra + 1 ≠ rs ∧ rs + 1 ≠ ra := X.2.1
theorem HV49.rr {h : Hp} {ra rs e : Nat} {src base : List Nat} {T : Tb} {s : Ost} (X : HV49 h ra rs e src base T s) : RowV SH h ra (ra + 1) 8000 src false := X.2.2.1
theorem HV49.ro {h : Hp} {ra rs e : Nat} {src base : List Nat} {T : Tb} {s : Ost} (X : HV49 h ra rs e src base T s) : RowV SH h rs (rs + 1) 8000 s.out false := X.2.2.2.1
theorem HV49.rb {h : Hp} {ra rs e : Nat} {src base : List Nat} {T : Tb} {s : Ost} (X : HV49 h ra rs e src base T s) : RowV SH h 8 9 4000 base false := X.2.2.2.2.1
theorem HV49.t {h : Hp} {ra rs e : Nat} {src base : List Nat} {T : Tb} {s : Ost} (X : HV49 h ra rs e src base T s) : TabV h 18 19 20 T := X.2.2.2.2.2.1
theorem HV49.cf {h : Hp} {ra rs e : Nat} {src base : List Nat} {T : Tb} {s : Ost} (X : HV49 h ra rs e src base T s) : CurV h 50 ra s.fa e := X.2.2.2.2.2.2.1
theorem HV49.k {h : Hp} {ra rs e : Nat} {src base : List Nat} {T : Tb} {s : Ost} (X : HV49 h ra rs e src base T s) : CacW h 24 25 26 T.2.1 T.2.2 s.nr s.sm s.nx := X.2.2.2.2.2.2.2.1
theorem HV49.l {h : Hp} {ra rs e : Nat} {src base : List Nat} {T : Tb} {s : Ost} (X : HV49 h ra rs e src base T s) : LogW true h 21 22 23 s.tl s.ac := X.2.2.2.2.2.2.2.2.1
theorem HV49.o {h : Hp} {ra rs e : Nat} {src base : List Nat} {T : Tb} {s : Ost} (X : HV49 h ra rs e src base T s) : h.2.1 49 10 = 8 ∧ h.2.1 49 11 = rs ∧ h.1 49 12 = nI s.ft ∧ h.1 49 13 = (if s.ft = 0 then -1 else nI s.pl) ∧ h.1 49 3 = 6 := X.2.2.2.2.2.2.2.2.2.1
theorem HV49.kN {h : Hp} {ra rs e : Nat} {src base : List Nat} {T : Tb} {s : Ost} (X : HV49 h ra rs e src base T s) : T.2.1 ≤ 32 ∧ 256 * T.2.2 ≤ 4096 := X.2.2.2.2.2.2.2.2.2.2.1
theorem HV49.e {h : Hp} {ra rs e : Nat} {src base : List Nat} {T : Tb} {s : Ost} (X : HV49 h ra rs e src base T s) : s.fa ≤ e ∧ e ≤ src.length := X.2.2.2.2.2.2.2.2.2.2.2.1
theorem HV49.nr {h : Hp} {ra rs e : Nat} {src base : List Nat} {T : Tb} {s : Ost} (X : HV49 h ra rs e src base T s) : ∀ i, s.nr i < 16000 := X.2.2.2.2.2.2.2.2.2.2.2.2.1
theorem HV49.sm {h : Hp} {ra rs e : Nat} {src base : List Nat} {T : Tb} {s : Ost} (X : HV49 h ra rs e src base T s) : ∀ i, s.sm i < 16000 := X.2.2.2.2.2.2.2.2.2.2.2.2.2.1
theorem HV49.nx {h : Hp} {ra rs e : Nat} {src base : List Nat} {T : Tb} {s : Ost} (X : HV49 h ra rs e src base T s) : s.nx < T.2.1 ∨ (T.2.1 = 0 ∧ s.nx = 0) := X.2.2.2.2.2.2.2.2.2.2.2.2.2.2.1
theorem HV49.ac {h : Hp} {ra rs e : Nat} {src base : List Nat} {T : Tb} {s : Ost} (X : HV49 h ra rs e src base T s) : s.ac.length ≤ 2000 := X.2.2.2.2.2.2.2.2.2.2.2.2.2.2.2.1
theorem HV49.g {h : Hp} {ra rs e : Nat} {src base : List Nat} {T : Tb} {s : Ost} (X : HV49 h ra rs e src base T s) : GoodT T := X.2.2.2.2.2.2.2.2.2.2.2.2.2.2.2.2.1
theorem HV49.ft {h : Hp} {ra rs e : Nat} {src base : List Nat} {T : Tb} {s : Ost} (X : HV49 h ra rs e src base T s) : s.ft < 17 := X.2.2.2.2.2.2.2.2.2.2.2.2.2.2.2.2.2
theorem HV49.mvF {h h1 : Hp} {ra rs e : Nat} {src base : List Nat} {T : Tb} {s : Ost} {q : Nat} (X : HV49 h ra rs e src base T s) (F : Rg [50] [] h h1) (V : CurV h1 50 ra q e) (hq : q ≤ e) : HV49 h1 ra rs e src base T (s.sfa q) := by
  have b := X.b
  exact HV49.of ⟨
    (F.fin X.f (by decide +kernel)),
    (X.b),
    (X.rr.rg F (by simp; omega) (by simp; omega) (by simp)),
    (X.ro.rg F (by simp; omega) (by simp; omega) (by simp)),
    (X.rb.rg F (by decide) (by decide) (by decide)),
    (X.t.rg F (by decide) (by decide) (by decide) (by decide) (by decide)),
    (V),
    (X.k.rg F (by decide) (by decide) (by decide)),
    (X.l.rg F (by decide) (by decide) (by decide)),
    (by rw [F.2.1 49 10 (by decide), F.2.1 49 11 (by decide), F.1 49 (by decide)]; exact X.o),
    (X.kN),
    (⟨hq, X.e.2⟩),
    (X.nr),
    (X.sm),
    (X.nx),
    (X.ac),
    (X.g),
    (X.ft)
  ⟩
theorem HV49.lg {h h1 : Hp} {ra rs e : Nat} {src base : List Nat} {T : Tb} {s : Ost} {tl : Nat → Nat} {ac : AcL} (X : HV49 h ra rs e src base T s) (F : Rg [21, 22, 23] [] h h1) (V : LogW true h1 21 22 23 tl ac) (hl : ac.length ≤ 2000) : HV49 h1 ra rs e src base T ((s.stl tl).sac ac) := by
  have b := X.b
  exact HV49.of ⟨
    (F.fin X.f (by decide +kernel)),
    (X.b),
    (X.rr.rg F (by simp; omega) (by simp; omega) (by simp)),
    (X.ro.rg F (by simp; omega) (by simp; omega) (by simp)),
    (X.rb.rg F (by decide) (by decide) (by decide)),
    (X.t.rg F (by decide) (by decide) (by decide) (by decide) (by decide)),
    (X.cf.rg F (by decide) (by decide)),
    (X.k.rg F (by decide) (by decide) (by decide)),
    (V),
    (by rw [F.2.1 49 10 (by decide), F.2.1 49 11 (by decide), F.1 49 (by decide)]; exact X.o),
    (X.kN),
    (X.e),
    (X.nr),
    (X.sm),
    (X.nx),
    (hl),
    (X.g),
    (X.ft)
  ⟩
theorem HV49.oth {h h1 : Hp} {ra rs e : Nat} {src base : List Nat} {T : Tb} {s : Ost}  (X : HV49 h ra rs e src base T s) (F : Rg [53, 56, 59, 62, 65] [(53, 0), (56, 0), (59, 0), (62, 0), (65, 0), (65, 3)] h h1)  : HV49 h1 ra rs e src base T s := by
  have b := X.b
  exact HV49.of ⟨
    (F.fin X.f (by decide +kernel)),
    (X.b),
    (X.rr.rg F (by simp; omega) (by simp; omega) (by simp; omega)),
    (X.ro.rg F (by simp; omega) (by simp; omega) (by simp; omega)),
    (X.rb.rg F (by decide) (by decide) (by decide)),
    (X.t.rg F (by decide) (by decide) (by decide) (by decide) (by decide)),
    (X.cf.rg F (by decide) (by decide)),
    (X.k.rg F (by decide) (by decide) (by decide)),
    (X.l.rg F (by decide) (by decide) (by decide)),
    (by rw [F.2.1 49 10 (by decide), F.2.1 49 11 (by decide), F.1 49 (by decide)]; exact X.o),
    (X.kN),
    (X.e),
    (X.nr),
    (X.sm),
    (X.nx),
    (X.ac),
    (X.g),
    (X.ft)
  ⟩
theorem HV49.ob {h h1 : Hp} {ra rs e : Nat} {src base : List Nat} {T : Tb} {s : Ost} {f q : Nat} (X : HV49 h ra rs e src base T s) (F : Rg [49] [] h h1) (hf : f < 17) (V : h1.1 49 12 = nI f ∧ h1.1 49 13 = (if f = 0 then -1 else nI q) ∧ h1.1 49 3 = 6) : HV49 h1 ra rs e src base T ((s.sft f).spl q) := by
  have b := X.b
  exact HV49.of ⟨
    (F.fin X.f (by decide +kernel)),
    (X.b),
    (X.rr.rg F (by simp; omega) (by simp; omega) (by simp)),
    (X.ro.rg F (by simp; omega) (by simp; omega) (by simp)),
    (X.rb.rg F (by decide) (by decide) (by decide)),
    (X.t.rg F (by decide) (by decide) (by decide) (by decide) (by decide)),
    (X.cf.rg F (by decide) (by decide)),
    (X.k.rg F (by decide) (by decide) (by decide)),
    (X.l.rg F (by decide) (by decide) (by decide)),
    (by rw [F.2.1 49 10 (by decide), F.2.1 49 11 (by decide)]; exact ⟨X.o.1, X.o.2.1, V⟩),
    (X.kN),
    (X.e),
    (X.nr),
    (X.sm),
    (X.nx),
    (X.ac),
    (X.g),
    (hf)
  ⟩

theorem HV49.bad {h : Hp} {ra rs e : Nat} {src base : List Nat} {T : Tb} {s : Ost} (X : HV49 h ra rs e src base T s) (f q : Nat) (h0 : f ≠ 0) (h17 : f < 17) : HV49 (wI (wI h 49 12 (nI f)) 49 13 (nI q)) ra rs e src base T (s.bad f q) ∧ Fr [49] h (wI (wI h 49 12 (nI f)) 49 13 (nI q)) ∧ Ok 49 [12, 13] h (wI (wI h 49 12 (nI f)) 49 13 (nI q)) := by
  have F : Fr [49] h (wI (wI h 49 12 (nI f)) 49 13 (nI q)) := (Fr.rf.put (by simp)).put (by simp)
  refine ⟨X.ob (F.rg _) h17 ⟨?_, ?_, ?_⟩, F, fun k hk => ?_⟩
  · rw [wI_idx (by decide), wI_same]
  · rw [wI_same, if_neg h0]
  · rw [wI_idx (by decide), wI_idx (by decide)]; exact X.o.2.2.2.2
  · simp at hk
    rw [wI_idx (by omega), wI_idx (by omega)]
theorem HV49.put {h : Hp} {ra rs e : Nat} {src base : List Nat} {T : Tb} {s : Ost} (X : HV49 h ra rs e src base T s) (k : Nat) (v : Int32) (h1 : k ≠ 3) (h2 : k ≠ 12) (h3 : k ≠ 13) : HV49 (wI h 49 k v) ra rs e src base T s := by
  have F : Fr [49] h (wI h 49 k v) := Fr.rf.put (by simp)
  refine X.ob (f := s.ft) (q := s.pl) (F.rg _) X.ft ⟨?_, ?_, ?_⟩
  · rw [wI_idx (by omega)]; exact X.o.2.2.1
  · rw [wI_idx (by omega)]; exact X.o.2.2.2.1
  · rw [wI_idx (by omega)]; exact X.o.2.2.2.2
/-- what a step says: a fault, or what it found -/
def St49 {α : Type} (h h1 : Hp) (ra rs e : Nat) (src base : List Nat) (T : Tb) (s : Ost) (r : Sum (Nat × Nat) α) (bad : Prop) (good : α → Prop) : Prop := match r with
  | .inl (f, q) => bad ∧ f ≠ 0 ∧ ∃ p, HV49 h1 ra rs e src base T ((s.sfa p).bad f q)
  | .inr x => good x
theorem readBig49 {w : Wd} {h : Hp} {ra rs e : Nat} {src base : List Nat} {T : Tb} {s : Ost} (X : HV49 h ra rs e src base T s) : C_X7_readBig w SH 49 h (fun v h1 => St49 h h1 ra rs e src base T s (hbP src e s.fa) (v < 0) (fun x => v = lN x.1 ∧ HV49 h1 ra rs e src base T (s.sfa x.2)) ∧ Ok 49 [12, 13] h h1 ∧ Fr [49, 50] h h1) := by
  have bb := X.b
  have hl := X.rr.2.2.2.2.1
  refine K_X7_readBig ⟨rfl, by rw [k49_4 X.f]; rfl, fun y3 e3 => ⟨_, by rw [k49_4 X.f]; exact S_nextBig X.cf X.rr ⟨by omega, by omega⟩ X.e.2 X.e.1, fun v9 h8 hp y10 e10 => ?_⟩⟩
  obtain ⟨q, q1, q2, V, F, hb⟩ := hp
  rw [k49_4 X.f, X.cf.2.2.1] at e3
  subst e3; subst e10
  have Z := X.mvF (F.rg _) V q2
  have hF : Fr [49, 50] h h8 := F.mono (by simp)
  have hO : Ok 49 [12, 13] h h8 := F.ok (by decide)
  unfold hbP
  cases hB : bigP src e s.fa with
  | inl x =>
    rw [hB] at hb
    cases x with
    | true =>
      have hv : y10 = -2 := hb
      subst hv
      refine ⟨fun c7 => absurd (by decide) c7, fun _ => ⟨by rw [k49_4 Z.f]; rfl, _, S_fail rfl 1 _, fun v24 h23 hp => ?_⟩⟩
      obtain ⟨rfl, rfl⟩ := hp
      rw [k49_4 Z.f, Z.cf.2.2.2]
      obtain ⟨B1, B2, B3⟩ := Z.bad 1 e (by decide) (by decide)
      exact ⟨⟨by decide, by decide, q, B1⟩, hO.tr B3, hF.tr1 (B2.mono (by simp))⟩
    | false =>
      have hv : y10 = -1 := hb
      subst hv
      refine ⟨fun _ => ⟨fun c7 => absurd (by decide) c7, fun _ => ⟨_, S_fail rfl 3 _, fun v24 h23 hp => ?_⟩⟩, fun c7 => absurd c7 (by decide)⟩
      obtain ⟨rfl, rfl⟩ := hp
      obtain ⟨B1, B2, B3⟩ := Z.bad 3 s.fa (by decide) (by decide)
      exact ⟨⟨by decide, by decide, q, B1⟩, hO.tr B3, hF.tr1 (B2.mono (by simp))⟩
  | inr x =>
    obtain ⟨n, q'⟩ := x
    rw [hB] at hb
    obtain ⟨rfl, rfl⟩ := hb
    have hn := (bigP_ok hB).2.2
    have c1 : ¬ lg_cmp (lN n) (-2) = 0 := by
      rw [lg_cmp_eq]
      intro ee
      have := congrArg Int64.toInt ee
      rw [pf_lI (by omega)] at this
      have h2 : (-2 : Int64).toInt = -2 := by decide
      omega
    have c2 : ¬ lg_cmp (lN n) (-1) = 0 := by
      rw [lg_cmp_eq]
      intro ee
      have := congrArg Int64.toInt ee
      rw [pf_lI (by omega)] at this
      have h2 : (-1 : Int64).toInt = -1 := by decide
      omega
    exact ⟨fun _ => ⟨fun _ => ⟨⟨rfl, Z⟩, hO, hF⟩, fun c7 => absurd c7 c2⟩, fun c7 => absurd c7 c1⟩
theorem lacks49 {w : Wd} {h : Hp} {ra rs e : Nat} {src base : List Nat} {T : Tb} {s : Ost} (X : HV49 h ra rs e src base T s) (n : Nat) (hn : n < 2 ^ 62) : C_X7_lacks w SH 49 (lN n) h (fun v h1 => (if e < s.fa + n then v = 1 ∧ HV49 h1 ra rs e src base T (s.bad 1 e) else v = 0 ∧ h1 = h) ∧ Ok 49 [12, 13] h h1 ∧ Fr [49] h h1) := by
  have hl := X.rr.2.2.2.2.1
  have he := X.e
  refine K_X7_lacks ⟨rfl, by rw [k49_4 X.f]; rfl, _, by rw [k49_4 X.f]; exact S_left X.cf X.e.1, fun v7 h6 hp => ?_⟩
  obtain ⟨rfl, rfl⟩ := hp
  rw [nI_l (by omega), lgLE (by omega) (by omega)]
  refine ⟨fun c7 => ⟨?_, Ok.rf, Fr.rf⟩, fun c7 => ⟨by rw [k49_4 X.f]; rfl, _, S_fail rfl 1 _, fun v14 h13 hp => ?_⟩⟩
  · rw [if_neg (by omega)]; exact ⟨rfl, rfl⟩
  · obtain ⟨rfl, rfl⟩ := hp
    rw [k49_4 X.f, X.cf.2.2.2]
    obtain ⟨B1, B2, B3⟩ := X.bad 1 e (by decide) (by decide)
    refine ⟨?_, B3, B2⟩
    rw [if_pos (by omega)]; exact ⟨rfl, B1⟩
