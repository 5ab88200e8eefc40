/-! the reference's calls on its rows, on -/
theorem M_set {w : Wd} {h : Hp} {s : St} (X : MS h s) (i b : Int32) : C_X12_set w SH 97 i b h (fun r h1 => r = (setF s.1 i b).1 ∧ MS h1 ((setF s.1 i b).2, s.2) ∧ Ag MCells h h1) := by
  obtain ⟨f, ⟨⟨a1, a2, a3⟩, ⟨a4, a5, a6⟩, ⟨a7, a8, a9⟩⟩, o⟩ := id X
  have k0 : h.2.1 97 0 = 98 := f (97, 0, 98) (by decide +kernel)
  unfold setF
  refine K_X12_set ⟨fun c => ?_, fun c => ⟨rfl, ?_⟩⟩
  · rw [if_pos (Or.inl c)]; exact ⟨rfl, X, Ag.rf⟩
  · obtain ⟨j, hj, rfl⟩ := nI_of c
    rw [nI_clamp hj, a1, nI_leI (by omega) hj]
    refine ⟨fun c2 => ?_, fun c2 => ⟨fun c3 => ?_, fun c3 => ⟨fun c4 => ?_, fun c4 => ?_⟩⟩⟩
    · rw [if_pos (Or.inr (Or.inl c2))]; exact ⟨rfl, X, Ag.rf⟩
    · rw [if_pos (Or.inr (Or.inr (Or.inl c3)))]; exact ⟨rfl, X, Ag.rf⟩
    · have hlt : j < s.1.length := by omega
      rw [if_neg (by simp [c, c3, Int32.not_lt.mpr c4]; omega)]
      refine ⟨8000, by rw [k0]; rfl, vp_in_nI (by omega) (by decide), fun y9 e9 => ⟨vp_in_nI (by omega) (by decide), fun h12 e12 => ?_⟩⟩
      rw [k0] at e9 e12
      subst e12
      refine ⟨by rw [e9, b8_un, a2 j hlt, getD_at hlt], X.row (Fr.rf.put (by simp)) (fun k hk => by rw [wI_cell (by decide)]) (by rw [wI_cell (by decide), a1]; simp) (fun q hq => ?_) (by simpa using a3), FrM (Fr.rf.put (by simp))⟩
      by_cases hqj : q = j
      · subst hqj; rw [wI_same, un_b8]; simp
      · have hq2 : q < s.1.length := by simpa using hq
        rw [wI_idx hqj, a2 q hq2, List.getElem_set_ne (Ne.symm hqj)]
    · rw [if_pos (Or.inr (Or.inr (Or.inr (Int32.not_le.mp c4))))]; exact ⟨rfl, X, Ag.rf⟩
theorem M_cut {w : Wd} {h : Hp} {s : St} (X : MS h s) (n : Int32) : C_X12_cut w SH 97 n h (fun r h1 => r = (cutF s.1 n).1 ∧ MS h1 ((cutF s.1 n).2, s.2) ∧ Ag MCells h h1) := by
  obtain ⟨f, ⟨⟨a1, a2, a3⟩, ⟨a4, a5, a6⟩, ⟨a7, a8, a9⟩⟩, o⟩ := id X
  unfold cutF
  refine K_X12_cut ⟨fun c => ?_, fun c => ⟨rfl, ?_⟩⟩
  · rw [if_pos (Or.inl c)]; exact ⟨rfl, X, Ag.rf⟩
  · obtain ⟨j, hj, rfl⟩ := nI_of c
    rw [nI_clamp hj, a1, nI_leI hj (by omega)]
    refine ⟨fun c2 y4 e4 h6 e6 => ?_, fun c2 => ?_⟩
    · rw [if_neg (by simp [c]; omega)]
      subst e6
      refine ⟨e4, X.row (Fr.rf.put (by simp)) (fun k hk => wI_idx hk) (by rw [wI_same]; simp [Nat.min_eq_left c2]) (fun q hq => ?_) (by simp; omega), FrM (Fr.rf.put (by simp))⟩
      have hq2 : q < s.1.length := by simp at hq; omega
      rw [wI_cell (by decide), a2 q hq2, List.getElem_take]
    · rw [if_pos (Or.inr (by omega))]; exact ⟨rfl, X, Ag.rf⟩
theorem M_out {w : Wd} {h : Hp} {s : St} (X : MS h s) (i : Int32) : C_X12_out w SH 97 i h (fun r h1 => r = outF s.2.1 i ∧ MS h1 s ∧ Ag MCells h h1) := by
  obtain ⟨f, ⟨⟨a1, a2, a3⟩, ⟨a4, a5, a6⟩, ⟨a7, a8, a9⟩⟩, o⟩ := id X
  have k2 : h.2.1 97 2 = 99 := f (97, 2, 99) (by decide +kernel)
  unfold outF
  refine K_X12_out ⟨fun c => ?_, fun c => ⟨rfl, ?_⟩⟩
  · rw [if_pos (Or.inl c)]; exact ⟨rfl, X, Ag.rf⟩
  · obtain ⟨j, hj, rfl⟩ := nI_of c
    rw [nI_clamp hj, a4, nI_ltI hj (by omega)]
    refine ⟨fun c2 => ⟨8000, by rw [k2]; rfl, vp_in_nI (by omega) (by decide), ?_⟩, fun c2 => ?_⟩
    · rw [if_neg (by simp [c]; omega), k2, b8_un, a5 j c2, getD_at c2]; exact ⟨rfl, X, Ag.rf⟩
    · rw [if_pos (Or.inr (by omega))]; exact ⟨rfl, X, Ag.rf⟩
theorem bp_i (x : Int32) : b8 x = b8 (b8 x &&& 255) := by
  unfold b8
  rw [bp_b]
  apply Int32.toBitVec_inj.mp
  rw [Int8.toBitVec_toInt32, Int8.toBitVec_toInt32, Int32.toBitVec_toInt8, Int32.toBitVec_toInt8]
  congr 1
  apply BitVec.eq_of_getLsbD_eq
  intro i hi
  have hm : ∀ i < 8, (255 : Int32).toBitVec.getLsbD i = true := by decide
  rw [BitVec.getLsbD_signExtend, BitVec.getLsbD_signExtend, if_pos (by omega), if_pos (by omega), Int32.toBitVec_and, BitVec.getLsbD_and, hm i hi, Bool.and_true]
theorem un_eq_b8 {x y : Int32} : b8 x = b8 y ↔ un x = un y := by
  constructor
  · intro h
    rw [← un_b8 x, ← un_b8 y, h]
  · intro h
    have h1 := b8_un x
    have h2 := b8_un y
    rw [h] at h1
    have e : b8 x &&& 255 = b8 y &&& 255 := h1.trans h2.symm
    have hx := bp_i x
    have hy := bp_i y
    rw [hx, hy, e]
theorem M_differ {w : Wd} {h : Hp} {s : St} (X : MS h s) : C_X12_differ w SH 97 h (fun r h1 => r = diffF s.1 s.2.1 0 ∧ MS h1 s ∧ Ag MCells h h1) := by
  obtain ⟨f, ⟨⟨a1, a2, a3⟩, ⟨a4, a5, a6⟩, ⟨a7, a8, a9⟩⟩, o⟩ := id X
  have k0 : h.2.1 97 0 = 98 := f (97, 0, 98) (by decide +kernel)
  have k2 : h.2.1 97 2 = 99 := f (97, 2, 99) (by decide +kernel)
  refine K_X12_differ nlt_wf (fun m x0 x1 x2 h' => x0 = 97 ∧ h' = h ∧ ∃ l i, l = min s.1.length s.2.1.length ∧ x1 = nI l ∧ m = l - i ∧ i ≤ l ∧ x2 = nI i ∧ diffF (s.1.drop i) (s.2.1.drop i) i = diffF s.1 s.2.1 0) ?_ ?_
  · refine ⟨rfl, ?_⟩
    rw [a1, a4, nI_leI (by omega) (by omega)]
    refine ⟨fun c y1 e1 y3 e3 => ⟨_, rfl, rfl, _, 0, rfl, ?_, rfl, by omega, e3, rfl⟩, fun c y1 e1 y3 e3 => ⟨_, rfl, rfl, _, 0, rfl, ?_, rfl, by omega, e3, rfl⟩⟩
    · rw [e1, Nat.min_eq_right c]
    · rw [e1, Nat.min_eq_left (by omega)]
  · rintro m x0 x1 x2 h' ⟨rfl, rfl, l, i, hl, rfl, rfl, hi, rfl, hd⟩
    have hl1 : l ≤ s.1.length := by omega
    have hl2 : l ≤ s.2.1.length := by omega
    unfold V_X12_differ_25
    rw [nI_leI (by omega) (by omega), nI_clamp (by omega)]
    refine ⟨fun c => ⟨rfl, ?_⟩, fun c => ⟨rfl, 8000, by rw [k0]; rfl, vp_in_nI (by omega) (by decide), 8000, by rw [k2]; rfl, vp_in_nI (by omega) (by decide), ?_⟩⟩
    · have hil : i = l := by omega
      rw [a1, a4, nI_eq (by omega) (by omega)]
      refine ⟨fun c2 => ⟨?_, X, Ag.rf⟩, fun c2 => ⟨?_, X, Ag.rf⟩⟩
      · rw [← hd]
        by_cases q : s.1.length < s.2.1.length
        · have z : s.1.drop i = [] := List.drop_eq_nil_of_le (by omega)
          rw [z, drop_cons (l := s.2.1) (by omega), diffF, hil]
        · have z : s.2.1.drop i = [] := List.drop_eq_nil_of_le (by omega)
          rw [z, drop_cons (l := s.1) (by omega), diffF, hil]
      · rw [← hd]
        have z : s.1.drop i = [] := List.drop_eq_nil_of_le (by omega)
        have z2 : s.2.1.drop i = [] := List.drop_eq_nil_of_le (by omega)
        rw [z, z2, diffF]
    · have h1 : i < s.1.length := by omega
      have h2 : i < s.2.1.length := by omega
      rw [k0, k2, un_eq_b8, a2 i h1, a5 i h2]
      rw [drop_cons h1, drop_cons h2] at hd
      refine ⟨fun c2 y12 e12 => ?_, fun c2 => ?_⟩
      · rw [diffF, if_pos c2] at hd
        exact ⟨_, by omega, rfl, rfl, l, i + 1, hl, rfl, rfl, by omega, by rw [e12, nI_1], hd⟩
      · rw [diffF, if_neg c2] at hd
        exact ⟨hd, X, Ag.rf⟩
theorem M_old {w : Wd} {h : Hp} {s : St} (X : MS h s) : C_X12_old w SH 97 h (fun r h1 => r = (oldF s.1 s.2.2.1).1 ∧ MS h1 (s.1, s.2.1, (oldF s.1 s.2.2.1).2, s.2.2.2) ∧ Ag MCells h h1) := by
  obtain ⟨f, ⟨⟨a1, a2, a3⟩, ⟨a4, a5, a6⟩, ⟨a7, a8, a9⟩⟩, o⟩ := id X
  have k0 : h.2.1 97 0 = 98 := f (97, 0, 98) (by decide +kernel)
  have k4 : h.2.1 97 4 = 100 := f (97, 4, 100) (by decide +kernel)
  unfold oldF
  refine K_X12_old nlt_wf (fun m x0 x1 h' => x0 = 97 ∧ s.1.length ≤ 4000 ∧ ∃ i, m = s.1.length - i ∧ i ≤ s.1.length ∧ x1 = nI i ∧ Fr [100] h h' ∧ ByV h' 100 (s.1.take i)) ?_ ?_
  · refine ⟨rfl, ?_⟩
    rw [a1, show (4000 : Int32) = nI 4000 from rfl, nI_leI (by omega) (by omega)]
    refine ⟨fun c y3 e3 => ⟨_, rfl, c, 0, rfl, by omega, e3, Fr.rf, fun j hj => absurd hj (by simp)⟩, fun c => ?_⟩
    rw [if_pos (by omega)]; exact ⟨rfl, X, Ag.rf⟩
  · rintro m x0 x1 h' ⟨rfl, hl, i, rfl, hi, rfl, F, B⟩
    rw [if_neg (by omega)]
    have b1 : h'.1 97 = h.1 97 := F.2.2 97 (by simp)
    have b0 : h'.1 98 = h.1 98 := F.2.2 98 (by simp)
    refine ⟨rfl, ?_⟩
    rw [b1, a1, nI_leI (by omega) (by omega)]
    refine ⟨fun c h3 e3 => ?_, fun c => ⟨8000, by rw [F.1, k0]; rfl, vp_in_nI (by omega) (by decide), 4000, by rw [F.1, k4]; rfl, vp_in_nI (by omega) (by decide), fun h11 e11 y13 e13 => ?_⟩⟩
    · subst e3
      rw [List.take_of_length_le (by omega)] at B
      have F2 : Fr [97, 100] h (wI h' 97 5 (nI s.1.length)) := (F.mono (by simp)).put (by simp)
      refine ⟨by rw [wI_idx (by decide), b1]; exact a1, ⟨f.fr F2, ⟨⟨by rw [wI_idx (by decide), b1]; exact a1, a2.of (F2.2.2 98 (by simp)), a3⟩, ⟨by rw [wI_idx (by decide), b1]; exact a4, a5.of (F2.2.2 99 (by simp)), a6⟩, ⟨wI_same, B.of (wI_cell (by decide)), hl⟩⟩, o.cong (fun c h1 h2 => ⟨F2.2.2 c (by simp; omega), by rw [F2.2.1]⟩) (by rw [wI_idx (by decide), b1]) (by rw [wI_idx (by decide), b1])⟩, F2.ag fun c hc => mem_M (by simp at hc; omega) (by simp at hc; omega)⟩
    · rw [F.1, k4, k0, nI_clamp (by omega), b0] at e11
      have hlt : i < s.1.length := by omega
      refine ⟨s.1.length - (i + 1), by omega, rfl, hl, i + 1, rfl, by omega, by rw [e13, nI_1], by rw [e11]; exact F.put (by simp), ?_⟩
      have := B.push (b8 (h.1 98 i))
      rw [un_b8, a2 i hlt, show (s.1.take i).length = i by simp; omega, ← e11, List.take_append_getElem] at this
      exact this
theorem M_swap {w : Wd} {h : Hp} {s : St} (X : MS h s) : C_X12_swap w SH 97 h (fun r h1 => r = nI s.2.1.length ∧ MS h1 (s.2.1, s.1, s.2.2) ∧ Ag MCells h h1) := by
  obtain ⟨f, ⟨⟨a1, a2, a3⟩, ⟨a4, a5, a6⟩, ⟨a7, a8, a9⟩⟩, o⟩ := id X
  have k0 : h.2.1 97 0 = 98 := f (97, 0, 98) (by decide +kernel)
  have k2 : h.2.1 97 2 = 99 := f (97, 2, 99) (by decide +kernel)
  refine K_X12_swap nlt_wf (fun m x0 x1 x2 h' => x0 = 97 ∧ ∃ l i, l = max s.1.length s.2.1.length ∧ x1 = nI l ∧ m = l - i ∧ i ≤ l ∧ x2 = nI i ∧ Fr [98, 99] h h' ∧ (∀ j, j < i → un (h'.1 98 j) = un (h.1 99 j) ∧ un (h'.1 99 j) = un (h.1 98 j)) ∧ (∀ j, i ≤ j → h'.1 98 j = h.1 98 j ∧ h'.1 99 j = h.1 99 j)) ?_ ?_
  · refine ⟨rfl, ?_⟩
    rw [a1, a4, nI_leI (by omega) (by omega)]
    refine ⟨fun c y1 e1 y3 e3 => ⟨_, rfl, _, 0, rfl, ?_, rfl, by omega, e3, Fr.rf, fun j hj => absurd hj (by omega), fun _ _ => ⟨rfl, rfl⟩⟩, fun c y1 e1 y3 e3 => ⟨_, rfl, _, 0, rfl, ?_, rfl, by omega, e3, Fr.rf, fun j hj => absurd hj (by omega), fun _ _ => ⟨rfl, rfl⟩⟩⟩
    · rw [e1, Nat.max_eq_right c]
    · rw [e1, Nat.max_eq_left (by omega)]
  · rintro m x0 x1 x2 h' ⟨rfl, l, i, hl, rfl, rfl, hi, rfl, F, hlo, hhi⟩
    have hl1 : s.1.length ≤ l := by omega
    have hl2 : s.2.1.length ≤ l := by omega
    have hl3 : l ≤ 8000 := by omega
    have b1 : h'.1 97 = h.1 97 := F.2.2 97 (by simp)
    unfold V_X12_swap_25
    rw [nI_leI (by omega) (by omega), nI_clamp (by omega), F.1, k0, k2]
    refine ⟨fun c => ⟨rfl, fun y3 e3 h5 e5 h7 e7 => ?_⟩, fun c => ⟨rfl, 8000, rfl, vp_in_nI (by omega) (by decide), fun y13 e13 => ⟨8000, rfl, vp_in_nI (by omega) (by decide), vp_in_nI (by omega) (by decide), fun h19 e19 => ⟨vp_in_nI (by omega) (by decide), fun h22 e22 y24 e24 => ?_⟩⟩⟩⟩
    · rw [b1, a1] at e3
      rw [b1, a4] at e5
      subst e5; subst e3; subst e7
      have hF : Fr [97, 98, 99] h (wI (wI h' 97 1 (nI s.2.1.length)) 97 3 (nI s.1.length)) := ((F.mono (by simp)).put (by simp)).put (by simp)
      have q98 : (wI (wI h' 97 1 (nI s.2.1.length)) 97 3 (nI s.1.length)).1 98 = h'.1 98 := by rw [wI_cell (by decide), wI_cell (by decide)]
      have q99 : (wI (wI h' 97 1 (nI s.2.1.length)) 97 3 (nI s.1.length)).1 99 = h'.1 99 := by rw [wI_cell (by decide), wI_cell (by decide)]
      have qk : ∀ k, k ≠ 1 → k ≠ 3 → (wI (wI h' 97 1 (nI s.2.1.length)) 97 3 (nI s.1.length)).1 97 k = h.1 97 k := fun k h1 h2 => by rw [wI_idx h2, wI_idx h1, b1]
      refine ⟨by rw [wI_idx (by decide), wI_same], ⟨f.fr hF, ⟨⟨by rw [wI_idx (by decide), wI_same], fun j hj => ?_, a6⟩, ⟨by rw [wI_same], fun j hj => ?_, a3⟩, ⟨by rw [qk 5 (by decide) (by decide)]; exact a7, a8.of (hF.2.2 100 (by simp)), a9⟩⟩, o.cong (fun c h1 h2 => ⟨hF.2.2 c (by simp; omega), by rw [hF.2.1]⟩) (qk 8 (by decide) (by decide)) (qk 31 (by decide) (by decide))⟩, hF.ag fun c hc => mem_M (by simp at hc; omega) (by simp at hc; omega)⟩
      · have hj : j < s.2.1.length := hj
        rw [q98, (hlo j (by omega)).1]; exact a5 j hj
      · have hj : j < s.1.length := hj
        rw [q99, (hlo j (by omega)).2]; exact a2 j hj
    · subst e19; subst e22; subst e13
      refine ⟨l - (i + 1), by omega, rfl, l, i + 1, hl, rfl, rfl, by omega, by rw [e24, nI_1], (F.put (by simp)).put (by simp), fun j hj => ?_, fun j hj => ?_⟩
      · by_cases hji : j = i
        · subst hji
          rw [wI_cell (by decide), wI_same, wI_same, un_b8, un_b8, (hhi j (by omega)).1, (hhi j (by omega)).2]
          exact ⟨rfl, rfl⟩
        · rw [wI_cell (by decide), wI_idx hji, wI_idx hji, wI_cell (by decide)]
          exact hlo j (by omega)
      · rw [wI_cell (by decide), wI_idx (by omega), wI_idx (by omega), wI_cell (by decide)]
        exact hhi j (by omega)
