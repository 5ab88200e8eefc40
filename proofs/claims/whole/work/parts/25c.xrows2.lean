/-! differ -/
def diffF : List Nat → List Nat → Nat → Int32
  | [], [], _ => -3
  | a :: as, b :: bs, i => if a = b then diffF as bs (i + 1) else nI i
  | [], _ :: _, i => nI i
  | _ :: _, [], i => nI i
theorem drop_cons {l : List Nat} {i : Nat} (h : i < l.length) : l.drop i = l[i] :: l.drop (i + 1) := List.drop_eq_getElem_cons h
theorem X_differ {w : Wd} {h : Hp} {s : St} (X : XS h s) : C_X11_differ w SH 1 h (fun r h1 => r = diffF s.1 s.2.1 0 ∧ XS h1 s ∧ Ag XCells h h1) := by
  obtain ⟨ra, e, b1, b2, R⟩ := X.get
  obtain ⟨rc, ec, b3, b4, Rc⟩ := X.getC
  have hN := R.2.2.2.2.1
  have hM := Rc.2.2.2.2.1
  refine K_X11_differ nlt_wf (fun m x0 x1 x2 h' => x0 = 1 ∧ h' = h ∧ x1 = nI (max s.1.length s.2.1.length) ∧ ∃ i, m = max s.1.length s.2.1.length - i ∧ i ≤ max s.1.length s.2.1.length ∧ x2 = nI i ∧ diffF (s.1.drop i) (s.2.1.drop i) i = diffF s.1 s.2.1 0) ?_ ?_
  · refine ⟨rfl, by rw [e]; exact R.1, _, by rw [e]; exact S_length R, fun v7 h6 hp => ?_⟩
    obtain ⟨rfl, rfl⟩ := hp
    refine ⟨by rw [ec]; exact Rc.1, _, by rw [ec]; exact S_length Rc, fun v13 h12 hp y14 e14 y16 e16 => ?_⟩
    obtain ⟨rfl, rfl⟩ := hp
    refine ⟨_, rfl, rfl, ?_, 0, rfl, by omega, e16, rfl⟩
    rw [e14]
    split
    · rename_i cc; rw [nI_ltI (by omega) (by omega)] at cc; rw [Nat.max_eq_right (by omega)]
    · rename_i cc; rw [nI_ltI (by omega) (by omega)] at cc; rw [Nat.max_eq_left (by omega)]
  · rintro m x0 x1 x2 h' ⟨rfl, rfl, rfl, i, rfl, hi, rfl, hd⟩
    have hm : max s.1.length s.2.1.length ≤ 8000 := Nat.max_le.mpr ⟨hN, hM⟩
    unfold V_X11_differ_20
    rw [nI_leI (by omega) (by omega)]
    refine ⟨fun c => ?_, fun c => ⟨rfl, by rw [e]; exact R.1, _, by rw [e]; exact S_at R i (by omega), fun v8 h7 hp => ?_⟩⟩
    · rw [List.drop_eq_nil_of_le (by omega), List.drop_eq_nil_of_le (by omega)] at hd
      exact ⟨hd, X, Ag.rf⟩
    · obtain ⟨rfl, rfl⟩ := hp
      refine ⟨by rw [ec]; exact Rc.1, _, by rw [ec]; exact S_at Rc i (by omega), fun v14 h13 hp => ?_⟩
      obtain ⟨rfl, rfl⟩ := hp
      by_cases l1 : i < s.1.length
      · by_cases l2 : i < s.2.1.length
        · rw [dif_pos l1, dif_pos l2, nI_eq (Nat.lt_trans (R.lt l1) (by decide)) (Nat.lt_trans (Rc.lt l2) (by decide))]
          rw [drop_cons l1, drop_cons l2] at hd
          refine ⟨fun c2 y16 e16 => ?_, fun c2 => ?_⟩
          · rw [diffF, if_pos c2] at hd
            exact ⟨_, by omega, rfl, rfl, rfl, i + 1, rfl, by omega, by rw [e16, nI_1], hd⟩
          · rw [diffF, if_neg c2] at hd
            exact ⟨hd, X, Ag.rf⟩
        · rw [dif_pos l1, dif_neg l2]
          have hz : s.2.1.drop i = [] := List.drop_eq_nil_of_le (by omega)
          rw [drop_cons l1, hz, diffF] at hd
          refine ⟨fun c2 => absurd c2 ?_, fun c2 => ⟨hd, X, Ag.rf⟩⟩
          intro q
          have h3 := R.lt l1
          have h4 := congrArg Int32.toInt q
          rw [nI_toInt (by omega)] at h4
          have h5 : (-1 : Int32).toInt = -1 := by decide
          omega
      · by_cases l2 : i < s.2.1.length
        · rw [dif_neg l1, dif_pos l2]
          have hz : s.1.drop i = [] := List.drop_eq_nil_of_le (by omega)
          rw [drop_cons l2, hz, diffF] at hd
          refine ⟨fun c2 => absurd c2 ?_, fun c2 => ⟨hd, X, Ag.rf⟩⟩
          intro q
          have h3 := Rc.lt l2
          have h4 := congrArg Int32.toInt q
          rw [nI_toInt (n := s.2.1[i]) (by omega)] at h4
          have h5 : (-1 : Int32).toInt = -1 := by decide
          omega
        · have := Nat.le_max_left s.1.length s.2.1.length
          have := Nat.le_max_right s.1.length s.2.1.length
          rcases Nat.le_total s.1.length s.2.1.length with q | q
          · rw [Nat.max_eq_right q] at c; omega
          · rw [Nat.max_eq_left q] at c; omega
