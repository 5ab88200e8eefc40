/-! the class's calls on its rows, on -/
theorem getD_at {l : List Nat} {i : Nat} (h : i < l.length) : l.getD i 0 = l[i] := by simp [List.getD_eq_getElem?_getD, h]
theorem X_size {w : Wd} {h : Hp} {s : St} (X : XS h s) : C_X11_size w SH 1 h (fun r h1 => r = nI s.1.length ∧ XS h1 s ∧ Ag XCells h h1) := by
  obtain ⟨ra, e, b1, b2, R⟩ := X.get
  refine K_X11_size ⟨rfl, by rw [e]; exact R.1, _, by rw [e]; exact S_length R, fun v7 h6 hp => ?_⟩
  obtain ⟨rfl, rfl⟩ := hp
  exact ⟨rfl, X, Ag.rf⟩
def againF (row : List Nat) (f n : Int32) : Int32 × List Nat := if f < 0 ∨ n < 0 ∨ row.length < f.toNatClampNeg + n.toNatClampNeg then (-2, row) else if 8000 < row.length + n.toNatClampNeg then (-4, row) else (nI (row.length + n.toNatClampNeg), row ++ (row.drop f.toNatClampNeg).take n.toNatClampNeg)
theorem X_again {w : Wd} {h : Hp} {s : St} (X : XS h s) (f n : Int32) : C_X11_again w SH 1 f n h (fun r h1 => r = (againF s.1 f n).1 ∧ XS h1 ((againF s.1 f n).2, s.2) ∧ Ag XCells h h1) := by
  obtain ⟨ra, e, b1, b2, R⟩ := X.get
  have hN := R.2.2.2.2.1
  unfold againF
  refine K_X11_again ⟨fun c => ?_, fun c => ⟨fun c2 => ?_, fun c2 => ?_⟩⟩
  · rw [if_pos (Or.inl c)]; exact ⟨rfl, X, Ag.rf⟩
  · rw [if_pos (Or.inr (Or.inl c2))]; exact ⟨rfl, X, Ag.rf⟩
  · obtain ⟨i, hi, rfl⟩ := nI_of c
    obtain ⟨j, hj, rfl⟩ := nI_of c2
    rw [nI_clamp hi, nI_clamp hj]
    refine ⟨rfl, by rw [e]; exact R.1, _, by rw [e]; exact S_length R, fun v9 h8 hp => ?_⟩
    obtain ⟨rfl, rfl⟩ := hp
    refine ⟨fun c3 => ?_, fun c3 => ⟨by rw [e]; exact R.1, _, by rw [e]; exact S_length R, fun v16 h15 hp => ?_⟩⟩
    · rw [nI_ltI (by omega) hj] at c3
      rw [if_pos (Or.inr (Or.inr (by omega)))]; exact ⟨rfl, X, Ag.rf⟩
    · obtain ⟨rfl, rfl⟩ := hp
      rw [nI_ltI (by omega) hj] at c3
      rw [pk_sub (by omega), nI_leI hi (by omega)]
      refine ⟨fun c4 => ⟨by rw [e]; exact R.1, _, by rw [e]; exact S_room R, fun v23 h22 hp => ?_⟩, fun c4 => ?_⟩
      · obtain ⟨rfl, rfl⟩ := hp
        rw [nI_leI hj (by omega), if_neg (by simp [c, c2]; omega)]
        refine ⟨fun c5 => ?_, fun c5 => ?_⟩
        · rw [if_neg (by omega)]
          refine ⟨by rw [e]; exact R.1, _, by rw [e]; exact S_append R R i j (by omega), fun h29 hp => ?_⟩
          have hl : ((s.1.drop i).take j).length = j := by simp; omega
          rw [appL_ok (by rw [hl]; omega)] at hp
          obtain ⟨R6, F6⟩ := hp
          have e6 : h29.2.1 1 0 = ra := by rw [F6.1]; exact e
          refine ⟨by rw [e6]; exact R6.1, _, by rw [e6]; exact S_length R6, fun v35 h34 hp => ?_⟩
          obtain ⟨rfl, rfl⟩ := hp
          exact ⟨by rw [List.length_append, hl], X.row e F6 R6, FrX F6 b2⟩
        · rw [if_pos (by omega)]; exact ⟨rfl, X, Ag.rf⟩
      · rw [if_pos (Or.inr (Or.inr (by omega)))]; exact ⟨rfl, X, Ag.rf⟩
def setF (row : List Nat) (i b : Int32) : Int32 × List Nat := if i < 0 ∨ row.length ≤ i.toNatClampNeg ∨ b < 0 ∨ 255 < b then (-2, row) else (nI (row.getD i.toNatClampNeg 0), row.set i.toNatClampNeg (un b))
theorem X_set {w : Wd} {h : Hp} {s : St} (X : XS h s) (i b : Int32) : C_X11_set w SH 1 i b h (fun r h1 => r = (setF s.1 i b).1 ∧ XS h1 ((setF s.1 i b).2, s.2) ∧ Ag XCells h h1) := by
  obtain ⟨ra, e, b1, b2, R⟩ := X.get
  have hN := R.2.2.2.2.1
  unfold setF
  refine K_X11_set ⟨fun c => ?_, fun c => ?_⟩
  · rw [if_pos (Or.inl c)]; exact ⟨rfl, X, Ag.rf⟩
  · obtain ⟨j, hj, rfl⟩ := nI_of c
    rw [nI_clamp hj]
    refine ⟨rfl, by rw [e]; exact R.1, _, by rw [e]; exact S_length R, fun v8 h7 hp => ?_⟩
    obtain ⟨rfl, rfl⟩ := hp
    rw [nI_leI (by omega) hj]
    refine ⟨fun c3 => ?_, fun c3 => ⟨_, S_isByte b, fun v14 h13 hp => ?_⟩⟩
    · rw [if_pos (Or.inr (Or.inl c3))]; exact ⟨rfl, X, Ag.rf⟩
    · obtain ⟨rfl, rfl⟩ := hp
      by_cases hb : b < 0 ∨ 255 < b
      · rw [if_pos hb, if_pos (Or.inr (Or.inr hb))]
        exact ⟨fun c4 => absurd rfl c4, fun _ => ⟨rfl, X, Ag.rf⟩⟩
      · rw [if_neg hb, if_neg (by rintro (q | q | q); exact c q; exact c3 q; exact hb q)]
        refine ⟨fun c4 => ⟨by rw [e]; exact R.1, _, by rw [e]; exact S_at R j hj, fun v21 h20 hp y22 e22 => ?_⟩, fun c4 => absurd c4 (by decide)⟩
        obtain ⟨rfl, rfl⟩ := hp
        refine ⟨by rw [e]; exact R.1, _, by rw [e]; exact S_put R j (by omega) b, fun h28 hp => ?_⟩
        obtain ⟨R6, F6⟩ := hp
        have F : Fr [ra, ra + 1] h20 h28 := F6.mono (by simp)
        refine ⟨?_, X.row e F R6, FrX F b2⟩
        rw [e22, dif_pos (by omega), getD_at (by omega)]
def cutF (row : List Nat) (n : Int32) : Int32 × List Nat := if n < 0 ∨ row.length < n.toNatClampNeg then (-2, row) else (nI row.length, row.take n.toNatClampNeg)
theorem X_cut {w : Wd} {h : Hp} {s : St} (X : XS h s) (n : Int32) : C_X11_cut w SH 1 n h (fun r h1 => r = (cutF s.1 n).1 ∧ XS h1 ((cutF s.1 n).2, s.2) ∧ Ag XCells h h1) := by
  obtain ⟨ra, e, b1, b2, R⟩ := X.get
  have hN := R.2.2.2.2.1
  unfold cutF
  refine K_X11_cut ⟨fun c => ?_, fun c => ?_⟩
  · rw [if_pos (Or.inl c)]; exact ⟨rfl, X, Ag.rf⟩
  · obtain ⟨j, hj, rfl⟩ := nI_of c
    rw [nI_clamp hj]
    refine ⟨rfl, by rw [e]; exact R.1, _, by rw [e]; exact S_length R, fun v8 h7 hp => ?_⟩
    obtain ⟨rfl, rfl⟩ := hp
    rw [nI_leI hj (by omega)]
    refine ⟨fun c3 => ⟨by rw [e]; exact R.1, _, by rw [e]; exact S_length R, fun v15 h14 hp y16 e16 => ?_⟩, fun c3 => ?_⟩
    · obtain ⟨rfl, rfl⟩ := hp
      refine ⟨by rw [e]; exact R.1, _, by rw [e]; exact S_shorten R j c3, fun h22 hp => ?_⟩
      obtain ⟨R6, F6⟩ := hp
      have F : Fr [ra, ra + 1] h14 h22 := F6.mono (by simp)
      rw [if_neg (by simp [c]; omega)]
      exact ⟨e16, X.row e F R6, FrX F b2⟩
    · rw [if_pos (Or.inr (by omega))]; exact ⟨rfl, X, Ag.rf⟩
theorem wR_1 {h : Hp} {c k r : Nat} : (wR h c k r).1 = h.1 := rfl
theorem wR_same {h : Hp} {c k r : Nat} : (wR h c k r).2.1 c k = r := by simp [wR]
theorem wR_idx {h : Hp} {c k j r : Nat} (hj : j ≠ k) : (wR h c k r).2.1 c j = h.2.1 c j := by simp [wR, hj]
theorem wR_cell {h : Hp} {c k d r : Nat} (hd : d ≠ c) : (wR h c k r).2.1 d = h.2.1 d := by funext j; simp [wR, hd]
theorem FINS_1 : ∀ q ∈ FINS, q.1 = 1 → 3 ≤ q.2.1 := by decide +kernel
theorem X_swap {w : Wd} {h : Hp} {s : St} (X : XS h s) : C_X11_swap w SH 1 h (fun r h1 => r = nI s.2.1.length ∧ XS h1 (s.2.1, s.1, s.2.2) ∧ Ag XCells h h1) := by
  obtain ⟨f, ⟨ra, rc, rs, pm, e1, e2, e3, r1, r2, ⟨sp, lo, r3⟩, r4⟩, o⟩ := X
  have b := pm.b
  refine K_X11_swap ⟨rfl, fun y2 ey2 h4 e4 h6 e6 => ?_⟩
  rw [e1] at ey2
  rw [e2] at e4
  have hI : h6.1 = h.1 := by rw [e6, e4]; rfl
  have hJ : h6.2.2 = h.2.2 := by rw [e6, e4]; rfl
  have hR : ∀ c, c ≠ 1 → h6.2.1 c = h.2.1 c := fun c hc => by rw [e6, e4, wR_cell hc, wR_cell hc]
  have k0 : h6.2.1 1 0 = rc := by rw [e6, wR_idx (by decide), e4, wR_same]
  have k1 : h6.2.1 1 1 = ra := by rw [e6, wR_same, ey2]
  have kn : ∀ k, k ≠ 0 → k ≠ 1 → h6.2.1 1 k = h.2.1 1 k := fun k h0 h1 => by rw [e6, wR_idx h1, e4, wR_idx h0]
  have rr : ∀ {r a N : Nat} {bs : List Nat} {l : Bool}, r ≠ 1 → RowV SH h r a N bs l → RowV SH h6 r a N bs l := fun hr R => R.ag ⟨by rw [hI], hR _ hr⟩ (by rw [hI])
  have rc' := rr (by omega) r2
  refine ⟨by rw [k0]; exact r2.1, _, by rw [k0]; exact S_length rc', fun v13 h12 hp => ?_⟩
  obtain ⟨rfl, rfl⟩ := hp
  refine ⟨rfl, ⟨fun q hq => ?_, ⟨rc, ra, rs, ?_, k0, k1, by rw [kn 2 (by decide) (by decide)]; exact e3, rc', rr (by omega) r1, ⟨sp, lo, rr (by omega) r3⟩, rr (by decide) r4⟩, o.cong fun c h1 h2 => ⟨by rw [hI], hR c (by omega)⟩⟩, fun c hc => ?_⟩
  · by_cases hq1 : q.1 = 1
    · have := FINS_1 q hq hq1
      rw [hq1, kn _ (by omega) (by omega), ← hq1]; exact f q hq
    · rw [hR _ hq1]; exact f q hq
  · have := pm.cs
    simp only [PermR, List.mem_cons, List.mem_nil_iff, or_false, Prod.mk.injEq]
    omega
  · have : c ≠ 1 := fun q => hc (q ▸ mem_X (by decide))
    exact ⟨by rw [hI], hR c this, by rw [hJ]⟩
def diffF : List Nat → List Nat → Nat → Int32
  | [], [], _ => -3
  | a :: as, b :: bs, i => if a = b then diffF as bs (i + 1) else nI i
  | [], _ :: _, i => nI i
  | _ :: _, [], i => nI i
theorem drop_cons {l : List Nat} {i : Nat} (h : i < l.length) : l.drop i = l[i] :: l.drop (i + 1) := List.drop_eq_getElem_cons h
theorem X_differ {w : Wd} {h : Hp} {s : St} (X : XS h s) : C_X11_differ w SH 1 h (fun r h1 => r = diffF s.1 s.2.1 0 ∧ XS h1 s ∧ Ag XCells h h1) := by
  obtain ⟨ra, e, b1, b2, R⟩ := X.get
  obtain ⟨rc, ec, b3, b4, Rc⟩ := X.getC
  have hN := R.2.2.2.2.1
  have hM := Rc.2.2.2.2.1
  refine K_X11_differ nlt_wf (fun m x0 x1 x2 h' => x0 = 1 ∧ h' = h ∧ x1 = nI (max s.1.length s.2.1.length) ∧ ∃ i, m = max s.1.length s.2.1.length - i ∧ i ≤ max s.1.length s.2.1.length ∧ x2 = nI i ∧ diffF (s.1.drop i) (s.2.1.drop i) i = diffF s.1 s.2.1 0) ?_ ?_
  · refine ⟨rfl, by rw [e]; exact R.1, _, by rw [e]; exact S_length R, fun v7 h6 hp => ?_⟩
    obtain ⟨rfl, rfl⟩ := hp
    refine ⟨by rw [ec]; exact Rc.1, _, by rw [ec]; exact S_length Rc, fun v13 h12 hp y14 e14 y16 e16 => ?_⟩
    obtain ⟨rfl, rfl⟩ := hp
    refine ⟨_, rfl, rfl, ?_, 0, rfl, by omega, e16, rfl⟩
    rw [e14]
    split
    · rename_i cc; rw [nI_ltI (by omega) (by omega)] at cc; rw [Nat.max_eq_right (by omega)]
    · rename_i cc; rw [nI_ltI (by omega) (by omega)] at cc; rw [Nat.max_eq_left (by omega)]
  · rintro m x0 x1 x2 h' ⟨rfl, rfl, rfl, i, rfl, hi, rfl, hd⟩
    have hm : max s.1.length s.2.1.length ≤ 8000 := Nat.max_le.mpr ⟨hN, hM⟩
    unfold V_X11_differ_20
    rw [nI_leI (by omega) (by omega)]
    refine ⟨fun c => ?_, fun c => ⟨rfl, by rw [e]; exact R.1, _, by rw [e]; exact S_at R i (by omega), fun v8 h7 hp => ?_⟩⟩
    · rw [List.drop_eq_nil_of_le (by omega), List.drop_eq_nil_of_le (by omega)] at hd
      exact ⟨hd, X, Ag.rf⟩
    · obtain ⟨rfl, rfl⟩ := hp
      refine ⟨by rw [ec]; exact Rc.1, _, by rw [ec]; exact S_at Rc i (by omega), fun v14 h13 hp => ?_⟩
      obtain ⟨rfl, rfl⟩ := hp
      by_cases l1 : i < s.1.length
      · by_cases l2 : i < s.2.1.length
        · rw [dif_pos l1, dif_pos l2, nI_eq (Nat.lt_trans (R.lt l1) (by decide)) (Nat.lt_trans (Rc.lt l2) (by decide))]
          rw [drop_cons l1, drop_cons l2] at hd
          refine ⟨fun c2 y16 e16 => ?_, fun c2 => ?_⟩
          · rw [diffF, if_pos c2] at hd
            exact ⟨_, by omega, rfl, rfl, rfl, i + 1, rfl, by omega, by rw [e16, nI_1], hd⟩
          · rw [diffF, if_neg c2] at hd
            exact ⟨hd, X, Ag.rf⟩
        · rw [dif_pos l1, dif_neg l2]
          have hz : s.2.1.drop i = [] := List.drop_eq_nil_of_le (by omega)
          rw [drop_cons l1, hz, diffF] at hd
          refine ⟨fun c2 => absurd c2 ?_, fun c2 => ⟨hd, X, Ag.rf⟩⟩
          intro q
          have h3 := R.lt l1
          have h4 := congrArg Int32.toInt q
          rw [nI_toInt (by omega)] at h4
          have h5 : (-1 : Int32).toInt = -1 := by decide
          omega
      · by_cases l2 : i < s.2.1.length
        · rw [dif_neg l1, dif_pos l2]
          have hz : s.1.drop i = [] := List.drop_eq_nil_of_le (by omega)
          rw [drop_cons l2, hz, diffF] at hd
          refine ⟨fun c2 => absurd c2 ?_, fun c2 => ⟨hd, X, Ag.rf⟩⟩
          intro q
          have h3 := Rc.lt l2
          have h4 := congrArg Int32.toInt q
          rw [nI_toInt (n := s.2.1[i]) (by omega)] at h4
          have h5 : (-1 : Int32).toInt = -1 := by decide
          omega
        · have := Nat.le_max_left s.1.length s.2.1.length
          have := Nat.le_max_right s.1.length s.2.1.length
          rcases Nat.le_total s.1.length s.2.1.length with q | q
          · rw [Nat.max_eq_right q] at c; omega
          · rw [Nat.max_eq_left q] at c; omega
def outF (came : List Nat) (i : Int32) : Int32 := if i < 0 ∨ came.length ≤ i.toNatClampNeg then -2 else nI (came.getD i.toNatClampNeg 0)
theorem X_out {w : Wd} {h : Hp} {s : St} (X : XS h s) (i : Int32) : C_X11_out w SH 1 i h (fun r h1 => r = outF s.2.1 i ∧ XS h1 s ∧ Ag XCells h h1) := by
  obtain ⟨rc, ec, b3, b4, Rc⟩ := X.getC
  have hM := Rc.2.2.2.2.1
  unfold outF
  refine K_X11_out ⟨fun c => ?_, fun c => ?_⟩
  · rw [if_pos (Or.inl c)]; exact ⟨rfl, X, Ag.rf⟩
  · obtain ⟨j, hj, rfl⟩ := nI_of c
    rw [nI_clamp hj]
    refine ⟨rfl, by rw [ec]; exact Rc.1, _, by rw [ec]; exact S_length Rc, fun v8 h7 hp => ?_⟩
    obtain ⟨rfl, rfl⟩ := hp
    rw [nI_ltI hj (by omega)]
    refine ⟨fun c3 => ⟨by rw [ec]; exact Rc.1, _, by rw [ec]; exact S_at Rc j hj, fun v15 h14 hp => ?_⟩, fun c3 => ?_⟩
    · obtain ⟨rfl, rfl⟩ := hp
      rw [if_neg (by simp [c]; omega), dif_pos c3, getD_at c3]
      exact ⟨rfl, X, Ag.rf⟩
    · rw [if_pos (Or.inr (by omega))]; exact ⟨rfl, X, Ag.rf⟩
def oldF (row old : List Nat) : Int32 × List Nat := if 4000 < row.length then (-4, old) else (nI row.length, row)
theorem X_old {w : Wd} {h : Hp} {s : St} (X : XS h s) : C_X11_old w SH 1 h (fun r h1 => r = (oldF s.1 s.2.2.1).1 ∧ XS h1 (s.1, s.2.1, (oldF s.1 s.2.2.1).2, s.2.2.2) ∧ Ag XCells h h1) := by
  obtain ⟨f, ⟨ra, rc, rs, pm, e1, e2, e3, r1, r2, ⟨sp, lo, r3⟩, r4⟩, o⟩ := id X
  have b := pm.b
  have hN := r1.2.2.2.2.1
  have k3 : h.2.1 1 3 = 8 := f (1, 3, 8) (by decide +kernel)
  unfold oldF
  refine K_X11_old ⟨rfl, by rw [e1]; exact r1.1, _, by rw [e1]; exact S_length r1, fun v7 h6 hp => ?_⟩
  obtain ⟨rfl, rfl⟩ := hp
  rw [show (4000 : Int32) = nI 4000 from rfl, nI_leI (by omega) (by omega)]
  refine ⟨fun c => ⟨by rw [k3]; exact r4.1, _, by rw [k3]; exact S_clear r4, fun h13 hp => ?_⟩, fun c => ?_⟩
  · obtain ⟨R1, F1⟩ := hp
    have r1' := r1.fr F1 (by simp; omega) (by simp; omega)
    have a1 : h13.2.1 1 0 = ra := by rw [F1.1]; exact e1
    have a3 : h13.2.1 1 3 = 8 := by rw [F1.1]; exact k3
    refine ⟨by rw [a1]; exact r1.1, _, by rw [a1]; exact S_length r1', fun v19 h18 hp => ?_⟩
    obtain ⟨rfl, rfl⟩ := hp
    refine ⟨by rw [a3]; exact r4.1, _, by rw [a3, a1]; exact S_append R1 r1' 0 s.1.length (by omega), fun h24 hp => ?_⟩
    rw [List.drop_zero, List.take_length, appL_ok (by simp; omega), List.nil_append] at hp
    obtain ⟨R2, F2⟩ := hp
    have c3 : h24.2.1 1 3 = 8 := by rw [F2.1]; exact a3
    refine ⟨by rw [c3]; exact r4.1, _, by rw [c3]; exact S_length R2, fun v30 h29 hp => ?_⟩
    obtain ⟨rfl, rfl⟩ := hp
    have F : Fr [8, 9] h6 h29 := (F1.mono (by simp)).tr1 F2
    rw [if_neg (by omega)]
    refine ⟨rfl, ⟨f.fr F, ⟨ra, rc, rs, pm, by rw [F.1]; exact e1, by rw [F.1]; exact e2, by rw [F.1]; exact e3, r1.fr F (by simp; omega) (by simp; omega), r2.fr F (by simp; omega) (by simp; omega), ⟨sp, lo, r3.fr F (by simp; omega) (by simp; omega)⟩, R2⟩, o.fr F (by simp)⟩, F.ag fun c hc => mem_X (by simp at hc; omega)⟩
  · rw [if_pos (by omega)]; exact ⟨rfl, X, Ag.rf⟩
