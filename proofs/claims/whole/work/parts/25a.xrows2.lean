/-! the class's calls on its rows, on -/
theorem getD_at {l : List Nat} {i : Nat} (h : i < l.length) : l.getD i 0 = l[i] := by simp [List.getD_eq_getElem?_getD, h]
theorem X_size {w : Wd} {h : Hp} {s : St} (X : XS h s) : C_X11_size w SH 1 h (fun r h1 => r = nI s.1.length ∧ XS h1 s ∧ Ag XCells h h1) := by
  obtain ⟨ra, e, b1, b2, R⟩ := X.get
  refine K_X11_size ⟨rfl, by rw [e]; exact R.1, _, by rw [e]; exact S_length R, fun v7 h6 hp => ?_⟩
  obtain ⟨rfl, rfl⟩ := hp
  exact ⟨rfl, X, Ag.rf⟩
def againF (row : List Nat) (f n : Int32) : Int32 × List Nat := if f < 0 ∨ n < 0 ∨ row.length < f.toNatClampNeg + n.toNatClampNeg then (-2, row) else if 8000 < row.length + n.toNatClampNeg then (-4, row) else (nI (row.length + n.toNatClampNeg), row ++ (row.drop f.toNatClampNeg).take n.toNatClampNeg)
theorem X_again {w : Wd} {h : Hp} {s : St} (X : XS h s) (f n : Int32) : C_X11_again w SH 1 f n h (fun r h1 => r = (againF s.1 f n).1 ∧ XS h1 ((againF s.1 f n).2, s.2) ∧ Ag XCells h h1) := by
  obtain ⟨ra, e, b1, b2, R⟩ := X.get
  have hN := R.2.2.2.2.1
  unfold againF
  refine K_X11_again ⟨fun c => ?_, fun c => ⟨fun c2 => ?_, fun c2 => ?_⟩⟩
  · rw [if_pos (Or.inl c)]; exact ⟨rfl, X, Ag.rf⟩
  · rw [if_pos (Or.inr (Or.inl c2))]; exact ⟨rfl, X, Ag.rf⟩
  · obtain ⟨i, hi, rfl⟩ := nI_of c
    obtain ⟨j, hj, rfl⟩ := nI_of c2
    rw [nI_clamp hi, nI_clamp hj]
    refine ⟨rfl, by rw [e]; exact R.1, _, by rw [e]; exact S_length R, fun v9 h8 hp => ?_⟩
    obtain ⟨rfl, rfl⟩ := hp
    refine ⟨fun c3 => ?_, fun c3 => ⟨by rw [e]; exact R.1, _, by rw [e]; exact S_length R, fun v16 h15 hp => ?_⟩⟩
    · rw [nI_ltI (by omega) hj] at c3
      rw [if_pos (Or.inr (Or.inr (by omega)))]; exact ⟨rfl, X, Ag.rf⟩
    · obtain ⟨rfl, rfl⟩ := hp
      rw [nI_ltI (by omega) hj] at c3
      rw [pk_sub (by omega), nI_leI hi (by omega)]
      refine ⟨fun c4 => ⟨by rw [e]; exact R.1, _, by rw [e]; exact S_room R, fun v23 h22 hp => ?_⟩, fun c4 => ?_⟩
      · obtain ⟨rfl, rfl⟩ := hp
        rw [nI_leI hj (by omega), if_neg (by simp [c, c2]; omega)]
        refine ⟨fun c5 => ?_, fun c5 => ?_⟩
        · rw [if_neg (by omega)]
          refine ⟨by rw [e]; exact R.1, _, by rw [e]; exact S_append R R i j (by omega), fun h29 hp => ?_⟩
          have hl : ((s.1.drop i).take j).length = j := by simp; omega
          rw [appL_ok (by rw [hl]; omega)] at hp
          obtain ⟨R6, F6⟩ := hp
          have e6 : h29.2.1 1 0 = ra := by rw [F6.1]; exact e
          refine ⟨by rw [e6]; exact R6.1, _, by rw [e6]; exact S_length R6, fun v35 h34 hp => ?_⟩
          obtain ⟨rfl, rfl⟩ := hp
          exact ⟨by rw [List.length_append, hl], X.row e F6 R6, FrX F6 b2⟩
        · rw [if_pos (by omega)]; exact ⟨rfl, X, Ag.rf⟩
      · rw [if_pos (Or.inr (Or.inr (by omega)))]; exact ⟨rfl, X, Ag.rf⟩
def setF (row : List Nat) (i b : Int32) : Int32 × List Nat := if i < 0 ∨ row.length ≤ i.toNatClampNeg ∨ b < 0 ∨ 255 < b then (-2, row) else (nI (row.getD i.toNatClampNeg 0), row.set i.toNatClampNeg (un b))
theorem X_set {w : Wd} {h : Hp} {s : St} (X : XS h s) (i b : Int32) : C_X11_set w SH 1 i b h (fun r h1 => r = (setF s.1 i b).1 ∧ XS h1 ((setF s.1 i b).2, s.2) ∧ Ag XCells h h1) := by
  obtain ⟨ra, e, b1, b2, R⟩ := X.get
  have hN := R.2.2.2.2.1
  unfold setF
  refine K_X11_set ⟨fun c => ?_, fun c => ?_⟩
  · rw [if_pos (Or.inl c)]; exact ⟨rfl, X, Ag.rf⟩
  · obtain ⟨j, hj, rfl⟩ := nI_of c
    rw [nI_clamp hj]
    refine ⟨rfl, by rw [e]; exact R.1, _, by rw [e]; exact S_length R, fun v8 h7 hp => ?_⟩
    obtain ⟨rfl, rfl⟩ := hp
    rw [nI_leI (by omega) hj]
    refine ⟨fun c3 => ?_, fun c3 => ⟨_, S_isByte b, fun v14 h13 hp => ?_⟩⟩
    · rw [if_pos (Or.inr (Or.inl c3))]; exact ⟨rfl, X, Ag.rf⟩
    · obtain ⟨rfl, rfl⟩ := hp
      by_cases hb : b < 0 ∨ 255 < b
      · rw [if_pos hb, if_pos (Or.inr (Or.inr hb))]
        exact ⟨fun c4 => absurd rfl c4, fun _ => ⟨rfl, X, Ag.rf⟩⟩
      · rw [if_neg hb, if_neg (by rintro (q | q | q); exact c q; exact c3 q; exact hb q)]
        refine ⟨fun c4 => ⟨by rw [e]; exact R.1, _, by rw [e]; exact S_at R j hj, fun v21 h20 hp y22 e22 => ?_⟩, fun c4 => absurd c4 (by decide)⟩
        obtain ⟨rfl, rfl⟩ := hp
        refine ⟨by rw [e]; exact R.1, _, by rw [e]; exact S_put R j (by omega) b, fun h28 hp => ?_⟩
        obtain ⟨R6, F6⟩ := hp
        have F : Fr [ra, ra + 1] h20 h28 := F6.mono (by simp)
        refine ⟨?_, X.row e F R6, FrX F b2⟩
        rw [e22, dif_pos (by omega), getD_at (by omega)]
def cutF (row : List Nat) (n : Int32) : Int32 × List Nat := if n < 0 ∨ row.length < n.toNatClampNeg then (-2, row) else (nI row.length, row.take n.toNatClampNeg)
theorem X_cut {w : Wd} {h : Hp} {s : St} (X : XS h s) (n : Int32) : C_X11_cut w SH 1 n h (fun r h1 => r = (cutF s.1 n).1 ∧ XS h1 ((cutF s.1 n).2, s.2) ∧ Ag XCells h h1) := by
  obtain ⟨ra, e, b1, b2, R⟩ := X.get
  have hN := R.2.2.2.2.1
  unfold cutF
  refine K_X11_cut ⟨fun c => ?_, fun c => ?_⟩
  · rw [if_pos (Or.inl c)]; exact ⟨rfl, X, Ag.rf⟩
  · obtain ⟨j, hj, rfl⟩ := nI_of c
    rw [nI_clamp hj]
    refine ⟨rfl, by rw [e]; exact R.1, _, by rw [e]; exact S_length R, fun v8 h7 hp => ?_⟩
    obtain ⟨rfl, rfl⟩ := hp
    rw [nI_leI hj (by omega)]
    refine ⟨fun c3 => ⟨by rw [e]; exact R.1, _, by rw [e]; exact S_length R, fun v15 h14 hp y16 e16 => ?_⟩, fun c3 => ?_⟩
    · obtain ⟨rfl, rfl⟩ := hp
      refine ⟨by rw [e]; exact R.1, _, by rw [e]; exact S_shorten R j c3, fun h22 hp => ?_⟩
      obtain ⟨R6, F6⟩ := hp
      have F : Fr [ra, ra + 1] h14 h22 := F6.mono (by simp)
      rw [if_neg (by simp [c]; omega)]
      exact ⟨e16, X.row e F R6, FrX F b2⟩
    · rw [if_pos (Or.inr (by omega))]; exact ⟨rfl, X, Ag.rf⟩
