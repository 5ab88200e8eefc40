/-! an opener at the cell 70: the steps of a window's first bytes (printed twice by wip/whole/genopen.py) -/
/-- an opener between two steps -/
def HV70 (h : Hp) (ra rs e : Nat) (src base : List Nat) (T : Tb) (s : Ost) : Prop := (Fin h) ∧ (2 ≤ ra ∧ ra ≤ 6 ∧ 2 ≤ rs ∧ rs ≤ 6 ∧ ra ≠ rs ∧ ra + 1 ≠ rs ∧ rs + 1 ≠ ra) ∧ (RowV SH h ra (ra + 1) 8000 src false) ∧ (RowV SH h rs (rs + 1) 8000 s.out false) ∧ (RowV SH h 13 14 1536 base false) ∧ (TabV h 12 13 14 T) ∧ (CurV h 77 ra s.fa e) ∧ (CacW h 71 72 73 T.2.1 T.2.2 s.nr s.sm s.nx) ∧ (LogW false h 74 75 76 s.tl s.ac) ∧ (h.2.1 70 10 = 13 ∧ h.2.1 70 11 = rs ∧ h.1 70 12 = nI s.ft ∧ h.1 70 13 = (if s.ft = 0 then -1 else nI s.pl) ∧ h.1 70 3 = 4) ∧ (T.2.1 ≤ 4 ∧ 256 * T.2.2 ≤ 768) ∧ (s.fa ≤ e ∧ e ≤ src.length) ∧ (∀ i, s.nr i < 16000) ∧ (∀ i, s.sm i < 16000) ∧ (s.nx < T.2.1 ∨ (T.2.1 = 0 ∧ s.nx = 0)) ∧ (s.ac.length ≤ 2000) ∧ (GoodT T) ∧ (s.ft < 17)
theorem HV70.of {h : Hp} {ra rs e : Nat} {src base : List Nat} {T : Tb} {s : Ost} (X : (Fin h) ∧ (2 ≤ ra ∧ ra ≤ 6 ∧ 2 ≤ rs ∧ rs ≤ 6 ∧ ra ≠ rs ∧ ra + 1 ≠ rs ∧ rs + 1 ≠ ra) ∧ (RowV SH h ra (ra + 1) 8000 src false) ∧ (RowV SH h rs (rs + 1) 8000 s.out false) ∧ (RowV SH h 13 14 1536 base false) ∧ (TabV h 12 13 14 T) ∧ (CurV h 77 ra s.fa e) ∧ (CacW h 71 72 73 T.2.1 T.2.2 s.nr s.sm s.nx) ∧ (LogW false h 74 75 76 s.tl s.ac) ∧ (h.2.1 70 10 = 13 ∧ h.2.1 70 11 = rs ∧ h.1 70 12 = nI s.ft ∧ h.1 70 13 = (if s.ft = 0 then -1 else nI s.pl) ∧ h.1 70 3 = 4) ∧ (T.2.1 ≤ 4 ∧ 256 * T.2.2 ≤ 768) ∧ (s.fa ≤ e ∧ e ≤ src.length) ∧ (∀ i, s.nr i < 16000) ∧ (∀ i, s.sm i < 16000) ∧ (s.nx < T.2.1 ∨ (T.2.1 = 0 ∧ s.nx = 0)) ∧ (s.ac.length ≤ 2000) ∧ (GoodT T) ∧ (s.ft < 17)) : HV70 h ra rs e src base T s := X
theorem HV70.f {h : Hp} {ra rs e : Nat} {src base : List Nat} {T : Tb} {s : Ost} (X : HV70 h ra rs e src base T s) : Fin h := X.1
theorem HV70.b {h : Hp} {ra rs e : Nat} {src base : List Nat} {T : Tb} {s : Ost} (X : HV70 h ra rs e src base T s) : 2 ≤ ra ∧ ra ≤ 6 ∧ 2 ≤ rs ∧ rs ≤ 6 ∧ ra ≠ rs ∧ ra + 1 ≠ rs ∧ rs + 1 ≠ ra := X.2.1
theorem HV70.rr {h : Hp} {ra rs e : Nat} {src base : List Nat} {T : Tb} {s : Ost} (X : HV70 h ra rs e src base T s) : RowV SH h ra (ra + 1) 8000 src false := X.2.2.1
theorem HV70.ro {h : Hp} {ra rs e : Nat} {src base : List Nat} {T : Tb} {s : Ost} (X : HV70 h ra rs e src base T s) : RowV SH h rs (rs + 1) 8000 s.out false := X.2.2.2.1
theorem HV70.rb {h : Hp} {ra rs e : Nat} {src base : List Nat} {T : Tb} {s : Ost} (X : HV70 h ra rs e src base T s) : RowV SH h 13 14 1536 base false := X.2.2.2.2.1
theorem HV70.t {h : Hp} {ra rs e : Nat} {src base : List Nat} {T : Tb} {s : Ost} (X : HV70 h ra rs e src base T s) : TabV h 12 13 14 T := X.2.2.2.2.2.1
theorem HV70.cf {h : Hp} {ra rs e : Nat} {src base : List Nat} {T : Tb} {s : Ost} (X : HV70 h ra rs e src base T s) : CurV h 77 ra s.fa e := X.2.2.2.2.2.2.1
theorem HV70.k {h : Hp} {ra rs e : Nat} {src base : List Nat} {T : Tb} {s : Ost} (X : HV70 h ra rs e src base T s) : CacW h 71 72 73 T.2.1 T.2.2 s.nr s.sm s.nx := X.2.2.2.2.2.2.2.1
theorem HV70.l {h : Hp} {ra rs e : Nat} {src base : List Nat} {T : Tb} {s : Ost} (X : HV70 h ra rs e src base T s) : LogW false h 74 75 76 s.tl s.ac := X.2.2.2.2.2.2.2.2.1
theorem HV70.o {h : Hp} {ra rs e : Nat} {src base : List Nat} {T : Tb} {s : Ost} (X : HV70 h ra rs e src base T s) : h.2.1 70 10 = 13 ∧ h.2.1 70 11 = rs ∧ h.1 70 12 = nI s.ft ∧ h.1 70 13 = (if s.ft = 0 then -1 else nI s.pl) ∧ h.1 70 3 = 4 := X.2.2.2.2.2.2.2.2.2.1
theorem HV70.kN {h : Hp} {ra rs e : Nat} {src base : List Nat} {T : Tb} {s : Ost} (X : HV70 h ra rs e src base T s) : T.2.1 ≤ 4 ∧ 256 * T.2.2 ≤ 768 := X.2.2.2.2.2.2.2.2.2.2.1
theorem HV70.e {h : Hp} {ra rs e : Nat} {src base : List Nat} {T : Tb} {s : Ost} (X : HV70 h ra rs e src base T s) : s.fa ≤ e ∧ e ≤ src.length := X.2.2.2.2.2.2.2.2.2.2.2.1
theorem HV70.nr {h : Hp} {ra rs e : Nat} {src base : List Nat} {T : Tb} {s : Ost} (X : HV70 h ra rs e src base T s) : ∀ i, s.nr i < 16000 := X.2.2.2.2.2.2.2.2.2.2.2.2.1
theorem HV70.sm {h : Hp} {ra rs e : Nat} {src base : List Nat} {T : Tb} {s : Ost} (X : HV70 h ra rs e src base T s) : ∀ i, s.sm i < 16000 := X.2.2.2.2.2.2.2.2.2.2.2.2.2.1
theorem HV70.nx {h : Hp} {ra rs e : Nat} {src base : List Nat} {T : Tb} {s : Ost} (X : HV70 h ra rs e src base T s) : s.nx < T.2.1 ∨ (T.2.1 = 0 ∧ s.nx = 0) := X.2.2.2.2.2.2.2.2.2.2.2.2.2.2.1
theorem HV70.ac {h : Hp} {ra rs e : Nat} {src base : List Nat} {T : Tb} {s : Ost} (X : HV70 h ra rs e src base T s) : s.ac.length ≤ 2000 := X.2.2.2.2.2.2.2.2.2.2.2.2.2.2.2.1
theorem HV70.g {h : Hp} {ra rs e : Nat} {src base : List Nat} {T : Tb} {s : Ost} (X : HV70 h ra rs e src base T s) : GoodT T := X.2.2.2.2.2.2.2.2.2.2.2.2.2.2.2.2.1
theorem HV70.ft {h : Hp} {ra rs e : Nat} {src base : List Nat} {T : Tb} {s : Ost} (X : HV70 h ra rs e src base T s) : s.ft < 17 := X.2.2.2.2.2.2.2.2.2.2.2.2.2.2.2.2.2
theorem HV70.mvF {h h1 : Hp} {ra rs e : Nat} {src base : List Nat} {T : Tb} {s : Ost} {q : Nat} (X : HV70 h ra rs e src base T s) (F : Rg [77] [] h h1) (V : CurV h1 77 ra q e) (hq : q ≤ e) : HV70 h1 ra rs e src base T (s.sfa q) := by
  have b := X.b
  exact HV70.of ⟨
    (F.fin X.f (by decide +kernel)),
    (X.b),
    (X.rr.rg F (by simp; omega) (by simp; omega) (by simp)),
    (X.ro.rg F (by simp; omega) (by simp; omega) (by simp)),
    (X.rb.rg F (by decide) (by decide) (by decide)),
    (X.t.rg F (by decide) (by decide) (by decide) (by decide) (by decide)),
    (V),
    (X.k.rg F (by decide) (by decide) (by decide)),
    (X.l.rg F (by decide) (by decide) (by decide)),
    (by rw [F.2.1 70 10 (by decide), F.2.1 70 11 (by decide), F.1 70 (by decide)]; exact X.o),
    (X.kN),
    (⟨hq, X.e.2⟩),
    (X.nr),
    (X.sm),
    (X.nx),
    (X.ac),
    (X.g),
    (X.ft)
  ⟩
theorem HV70.lg {h h1 : Hp} {ra rs e : Nat} {src base : List Nat} {T : Tb} {s : Ost} {tl : Nat → Nat} {ac : AcL} (X : HV70 h ra rs e src base T s) (F : Rg [74, 75, 76] [] h h1) (V : LogW false h1 74 75 76 tl ac) (hl : ac.length ≤ 2000) : HV70 h1 ra rs e src base T ((s.stl tl).sac ac) := by
  have b := X.b
  exact HV70.of ⟨
    (F.fin X.f (by decide +kernel)),
    (X.b),
    (X.rr.rg F (by simp; omega) (by simp; omega) (by simp)),
    (X.ro.rg F (by simp; omega) (by simp; omega) (by simp)),
    (X.rb.rg F (by decide) (by decide) (by decide)),
    (X.t.rg F (by decide) (by decide) (by decide) (by decide) (by decide)),
    (X.cf.rg F (by decide) (by decide)),
    (X.k.rg F (by decide) (by decide) (by decide)),
    (V),
    (by rw [F.2.1 70 10 (by decide), F.2.1 70 11 (by decide), F.1 70 (by decide)]; exact X.o),
    (X.kN),
    (X.e),
    (X.nr),
    (X.sm),
    (X.nx),
    (hl),
    (X.g),
    (X.ft)
  ⟩
theorem HV70.oth {h h1 : Hp} {ra rs e : Nat} {src base : List Nat} {T : Tb} {s : Ost}  (X : HV70 h ra rs e src base T s) (F : Rg [80, 83, 86, 89, 92] [(80, 0), (83, 0), (86, 0), (89, 0), (92, 0), (92, 3)] h h1)  : HV70 h1 ra rs e src base T s := by
  have b := X.b
  exact HV70.of ⟨
    (F.fin X.f (by decide +kernel)),
    (X.b),
    (X.rr.rg F (by simp; omega) (by simp; omega) (by simp; omega)),
    (X.ro.rg F (by simp; omega) (by simp; omega) (by simp; omega)),
    (X.rb.rg F (by decide) (by decide) (by decide)),
    (X.t.rg F (by decide) (by decide) (by decide) (by decide) (by decide)),
    (X.cf.rg F (by decide) (by decide)),
    (X.k.rg F (by decide) (by decide) (by decide)),
    (X.l.rg F (by decide) (by decide) (by decide)),
    (by rw [F.2.1 70 10 (by decide), F.2.1 70 11 (by decide), F.1 70 (by decide)]; exact X.o),
    (X.kN),
    (X.e),
    (X.nr),
    (X.sm),
    (X.nx),
    (X.ac),
    (X.g),
    (X.ft)
  ⟩
theorem HV70.ob {h h1 : Hp} {ra rs e : Nat} {src base : List Nat} {T : Tb} {s : Ost} {f q : Nat} (X : HV70 h ra rs e src base T s) (F : Rg [70] [] h h1) (hf : f < 17) (V : h1.1 70 12 = nI f ∧ h1.1 70 13 = (if f = 0 then -1 else nI q) ∧ h1.1 70 3 = 4) : HV70 h1 ra rs e src base T ((s.sft f).spl q) := by
  have b := X.b
  exact HV70.of ⟨
    (F.fin X.f (by decide +kernel)),
    (X.b),
    (X.rr.rg F (by simp; omega) (by simp; omega) (by simp)),
    (X.ro.rg F (by simp; omega) (by simp; omega) (by simp)),
    (X.rb.rg F (by decide) (by decide) (by decide)),
    (X.t.rg F (by decide) (by decide) (by decide) (by decide) (by decide)),
    (X.cf.rg F (by decide) (by decide)),
    (X.k.rg F (by decide) (by decide) (by decide)),
    (X.l.rg F (by decide) (by decide) (by decide)),
    (by rw [F.2.1 70 10 (by decide), F.2.1 70 11 (by decide)]; exact ⟨X.o.1, X.o.2.1, V⟩),
    (X.kN),
    (X.e),
    (X.nr),
    (X.sm),
    (X.nx),
    (X.ac),
    (X.g),
    (hf)
  ⟩

theorem HV70.bad {h : Hp} {ra rs e : Nat} {src base : List Nat} {T : Tb} {s : Ost} (X : HV70 h ra rs e src base T s) (f q : Nat) (h0 : f ≠ 0) (h17 : f < 17) : HV70 (wI (wI h 70 12 (nI f)) 70 13 (nI q)) ra rs e src base T (s.bad f q) ∧ Fr [70] h (wI (wI h 70 12 (nI f)) 70 13 (nI q)) ∧ Ok 70 [12, 13] h (wI (wI h 70 12 (nI f)) 70 13 (nI q)) := by
  have F : Fr [70] h (wI (wI h 70 12 (nI f)) 70 13 (nI q)) := (Fr.rf.put (by simp)).put (by simp)
  refine ⟨X.ob (F.rg _) h17 ⟨?_, ?_, ?_⟩, F, fun k hk => ?_⟩
  · rw [wI_idx (by decide), wI_same]
  · rw [wI_same, if_neg h0]
  · rw [wI_idx (by decide), wI_idx (by decide)]; exact X.o.2.2.2.2
  · simp at hk
    rw [wI_idx (by omega), wI_idx (by omega)]
theorem HV70.put {h : Hp} {ra rs e : Nat} {src base : List Nat} {T : Tb} {s : Ost} (X : HV70 h ra rs e src base T s) (k : Nat) (v : Int32) (h1 : k ≠ 3) (h2 : k ≠ 12) (h3 : k ≠ 13) : HV70 (wI h 70 k v) ra rs e src base T s := by
  have F : Fr [70] h (wI h 70 k v) := Fr.rf.put (by simp)
  refine X.ob (f := s.ft) (q := s.pl) (F.rg _) X.ft ⟨?_, ?_, ?_⟩
  · rw [wI_idx (by omega)]; exact X.o.2.2.1
  · rw [wI_idx (by omega)]; exact X.o.2.2.2.1
  · rw [wI_idx (by omega)]; exact X.o.2.2.2.2
/-- what a step says: a fault, or what it found -/
def St70 {α : Type} (h h1 : Hp) (ra rs e : Nat) (src base : List Nat) (T : Tb) (s : Ost) (r : Sum (Nat × Nat) α) (bad : Prop) (good : α → Prop) : Prop := match r with
  | .inl (f, q) => bad ∧ f ≠ 0 ∧ ∃ p, HV70 h1 ra rs e src base T ((s.sfa p).bad f q)
  | .inr x => good x
theorem readBig70 {w : Wd} {h : Hp} {ra rs e : Nat} {src base : List Nat} {T : Tb} {s : Ost} (X : HV70 h ra rs e src base T s) : C_X7_readBig w SH 70 h (fun v h1 => St70 h h1 ra rs e src base T s (hbP src e s.fa) (v < 0) (fun x => v = lN x.1 ∧ HV70 h1 ra rs e src base T (s.sfa x.2)) ∧ Ok 70 [12, 13] h h1 ∧ Fr [70, 77] h h1) := by
  have bb := X.b
  have hl := X.rr.2.2.2.2.1
  refine K_X7_readBig ⟨rfl, by rw [k70_4 X.f]; rfl, fun y3 e3 => ⟨_, by rw [k70_4 X.f]; exact S_nextBig X.cf X.rr ⟨by omega, by omega⟩ X.e.2 X.e.1, fun v9 h8 hp y10 e10 => ?_⟩⟩
  obtain ⟨q, q1, q2, V, F, hb⟩ := hp
  rw [k70_4 X.f, X.cf.2.2.1] at e3
  subst e3; subst e10
  have Z := X.mvF (F.rg _) V q2
  have hF : Fr [70, 77] h h8 := F.mono (by simp)
  have hO : Ok 70 [12, 13] h h8 := F.ok (by decide)
  unfold hbP
  cases hB : bigP src e s.fa with
  | inl x =>
    rw [hB] at hb
    cases x with
    | true =>
      have hv : y10 = -2 := hb
      subst hv
      refine ⟨fun c7 => absurd (by decide) c7, fun _ => ⟨by rw [k70_4 Z.f]; rfl, _, S_fail rfl 1 _, fun v24 h23 hp => ?_⟩⟩
      obtain ⟨rfl, rfl⟩ := hp
      rw [k70_4 Z.f, Z.cf.2.2.2]
      obtain ⟨B1, B2, B3⟩ := Z.bad 1 e (by decide) (by decide)
      exact ⟨⟨by decide, by decide, q, B1⟩, hO.tr B3, hF.tr1 (B2.mono (by simp))⟩
    | false =>
      have hv : y10 = -1 := hb
      subst hv
      refine ⟨fun _ => ⟨fun c7 => absurd (by decide) c7, fun _ => ⟨_, S_fail rfl 3 _, fun v24 h23 hp => ?_⟩⟩, fun c7 => absurd c7 (by decide)⟩
      obtain ⟨rfl, rfl⟩ := hp
      obtain ⟨B1, B2, B3⟩ := Z.bad 3 s.fa (by decide) (by decide)
      exact ⟨⟨by decide, by decide, q, B1⟩, hO.tr B3, hF.tr1 (B2.mono (by simp))⟩
  | inr x =>
    obtain ⟨n, q'⟩ := x
    rw [hB] at hb
    obtain ⟨rfl, rfl⟩ := hb
    have hn := (bigP_ok hB).2.2
    have c1 : ¬ lg_cmp (lN n) (-2) = 0 := by
      rw [lg_cmp_eq]
      intro ee
      have := congrArg Int64.toInt ee
      rw [pf_lI (by omega)] at this
      have h2 : (-2 : Int64).toInt = -2 := by decide
      omega
    have c2 : ¬ lg_cmp (lN n) (-1) = 0 := by
      rw [lg_cmp_eq]
      intro ee
      have := congrArg Int64.toInt ee
      rw [pf_lI (by omega)] at this
      have h2 : (-1 : Int64).toInt = -1 := by decide
      omega
    exact ⟨fun _ => ⟨fun _ => ⟨⟨rfl, Z⟩, hO, hF⟩, fun c7 => absurd c7 c2⟩, fun c7 => absurd c7 c1⟩
theorem lacks70 {w : Wd} {h : Hp} {ra rs e : Nat} {src base : List Nat} {T : Tb} {s : Ost} (X : HV70 h ra rs e src base T s) (n : Nat) (hn : n < 2 ^ 62) : C_X7_lacks w SH 70 (lN n) h (fun v h1 => (if e < s.fa + n then v = 1 ∧ HV70 h1 ra rs e src base T (s.bad 1 e) else v = 0 ∧ h1 = h) ∧ Ok 70 [12, 13] h h1 ∧ Fr [70] h h1) := by
  have hl := X.rr.2.2.2.2.1
  have he := X.e
  refine K_X7_lacks ⟨rfl, by rw [k70_4 X.f]; rfl, _, by rw [k70_4 X.f]; exact S_left X.cf X.e.1, fun v7 h6 hp => ?_⟩
  obtain ⟨rfl, rfl⟩ := hp
  rw [nI_l (by omega), lgLE (by omega) (by omega)]
  refine ⟨fun c7 => ⟨?_, Ok.rf, Fr.rf⟩, fun c7 => ⟨by rw [k70_4 X.f]; rfl, _, S_fail rfl 1 _, fun v14 h13 hp => ?_⟩⟩
  · rw [if_neg (by omega)]; exact ⟨rfl, rfl⟩
  · obtain ⟨rfl, rfl⟩ := hp
    rw [k70_4 X.f, X.cf.2.2.2]
    obtain ⟨B1, B2, B3⟩ := X.bad 1 e (by decide) (by decide)
    refine ⟨?_, B3, B2⟩
    rw [if_pos (by omega)]; exact ⟨rfl, B1⟩
