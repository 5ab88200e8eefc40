/-! the reference's constructor gives its first state (its first part printed by wip/whole/genm.py) -/
theorem S_takeTable3 {w : Wd} {h : Hp} (k9 : h.2.1 97 9 = 101) (k10 : h.2.1 97 10 = 102) (k11 : h.2.1 97 11 = 103) (a b : Nat) (ha : a < 4) (hb : b < 4) (hab : a ≠ b) : C_X12_takeTable w SH 97 (nI a) (nI b) h (fun h1 => Taken a b h h1) := by
  refine K_X12_takeTable nlt_wf (fun m x0 x1 x2 x3 h' => x0 = 97 ∧ x1 = nI a ∧ x2 = nI b ∧ ∃ i, m = 1536 - i ∧ i ≤ 1536 ∧ x3 = nI i ∧ Fr [101, 102, 103] h h' ∧ (∀ k, k < i → h'.1 101 (1536 * b + k) = h.1 101 (1536 * a + k)) ∧ (∀ j, j < 1536 * b ∨ 1536 * b + i ≤ j → h'.1 101 j = h.1 101 j) ∧ h'.1 102 b = h.1 102 a ∧ h'.1 103 b = h.1 103 a ∧ ∀ j, j ≠ b → h'.1 102 j = h.1 102 j ∧ h'.1 103 j = h.1 103 j) ?_ ?_
  · refine ⟨rfl, 4, by rw [k10]; rfl, vp_in_nI ha (by decide), vp_in_nI hb (by decide), fun h6 e6 => ⟨4, by rw [k11]; rfl, vp_in_nI ha (by decide), vp_in_nI hb (by decide), fun h12 e12 y14 e14 => ?_⟩⟩
    rw [k10, nI_clamp (by omega), nI_clamp (by omega)] at e6
    rw [k11, nI_clamp (by omega), nI_clamp (by omega), e6, wI_cell (by decide)] at e12
    subst e12
    refine ⟨1536, rfl, rfl, rfl, 0, rfl, by omega, e14, (Fr.rf.put (by simp)).put (by simp), fun k hk => absurd hk (by omega), fun j _ => by rw [wI_cell (by decide), wI_cell (by decide)], by rw [wI_cell (by decide), wI_same], by rw [wI_same], fun j hj => ⟨by rw [wI_cell (by decide), wI_idx hj], by rw [wI_idx hj, wI_cell (by decide)]⟩⟩
  · rintro m x0 x1 x2 x3 h' ⟨rfl, rfl, rfl, i, rfl, hi, rfl, F, e1, e2, e3, e4, e5⟩
    have m1 : (1536 : Int32) * nI a + nI i = nI (1536 * a + i) := by rw [show (1536 : Int32) = nI 1536 from rfl, pk_mul, nI_add]
    have m2 : (1536 : Int32) * nI b + nI i = nI (1536 * b + i) := by rw [show (1536 : Int32) = nI 1536 from rfl, pk_mul, nI_add]
    unfold V_X12_takeTable_26
    rw [m1, m2, F.1, k9, nI_clamp (by omega), nI_clamp (by omega), show (1536 : Int32) = nI 1536 from rfl, nI_leI (by decide) (by omega)]
    refine ⟨fun c => ?_, fun c => ⟨rfl, 6144, rfl, vp_in_nI (by omega) (by decide), vp_in_nI (by omega) (by decide), fun h7 e7 y9 e9 => ?_⟩⟩
    · have : i = 1536 := by omega
      subst this
      exact ⟨F, e1, e2, e3, e4, e5⟩
    · subst e7
      refine ⟨1536 - (i + 1), by omega, rfl, rfl, rfl, i + 1, rfl, by omega, by rw [e9, nI_1], F.put (by simp), fun k hk => ?_, fun j hj => ?_, by rw [wI_cell (by decide)]; exact e3, by rw [wI_cell (by decide)]; exact e4, fun j hj => by rw [wI_cell (by decide), wI_cell (by decide)]; exact e5 j hj⟩
      · by_cases hki : k = i
        · subst hki
          rw [wI_same, e2 _ (by omega)]
        · rw [wI_idx (by omega)]; exact e1 k (by omega)
      · rw [wI_idx (by omega)]; exact e2 j (by omega)
def LM1 : List (Nat × Nat × Nat) := [(97, 0, 98), (97, 2, 99), (97, 4, 100), (97, 9, 101), (97, 10, 102), (97, 11, 103), (97, 12, 104), (97, 13, 98), (97, 16, 100), (97, 20, 105), (97, 21, 106), (97, 22, 105), (97, 24, 107), (97, 27, 108), (97, 28, 109), (97, 30, 110), (97, 32, 111), (97, 33, 112), (97, 34, 113), (97, 35, 114), (97, 42, 115), (97, 44, 116), (97, 46, 117), (97, 47, 118), (97, 52, 119), (97, 53, 120), (97, 54, 121), (97, 55, 122), (97, 56, 123), (97, 57, 124), (97, 58, 125)]
/-- the reference as the constructor's loops see it: the table's codes below c are laid -/
def MB (h h' : Hp) (c : Nat) : Prop := h'.2.1 97 9 = 101 ∧ EntU h' c ∧ h'.2.1 = uR h.2.1 LM1 ∧ h'.2.2 = h.2.2 ∧ (∀ q, q ≠ 101 → q ≠ 102 → q ≠ 103 → q ≠ 97 → h'.1 q = h.1 q) ∧ (∀ k, k ≠ 8 → h'.1 97 k = h.1 97 k) ∧ h'.1 97 8 = -1 ∧ h'.1 102 0 = nI 4 ∧ h'.1 103 0 = nI 3
theorem MB.step {h h' h1 : Hp} {c c' : Nat} (b : MB h h' c) (F : Fr [101] h' h1) (U : EntU h1 c') : MB h h1 c' := by
  obtain ⟨b1, b2, b3, b4, b5, b6, b7, b8, b9⟩ := b
  have e : ∀ q, q ≠ 101 → h1.1 q = h'.1 q := fun q hq => F.2.2 q (by simpa using hq)
  exact ⟨by rw [F.1]; exact b1, U, by rw [F.1]; exact b3, by rw [F.2.1]; exact b4, fun q h1 h2 h3 h4 => by rw [e q h1]; exact b5 q h1 h2 h3 h4, fun k hk => by rw [e 97 (by decide)]; exact b6 k hk, by rw [e 97 (by decide)]; exact b7, by rw [e 102 (by decide)]; exact b8, by rw [e 103 (by decide)]; exact b9⟩
def moi (o : Nat) (c : Nat) : Nat := 16 * (260 - c) + o
set_option maxRecDepth 40000 in
set_option maxHeartbeats 8000000 in
theorem M_init {w : Wd} {h : Hp} (Z : Zr 96 h) : C_X12_init w (SH.take 97) 97 h 211888 (fun sh1 h1 => sh1 = SH ∧ h1.2.1 = uR h.2.1 LM1 ∧ (∀ q, q ≤ 96 → h1.1 q = h.1 q ∧ h1.2.2 q = h.2.2 q) ∧ MA h1 [] [] [] ∧ MO h1 (UBy, 4, 3) oi0) := by
  have B := Bt.rf (h := h) (Z.up (m := 97) (by decide))
  refine K_X12_init nlt_wf
    (fun m sh x0 x1 x2 h' => sh = SH ∧ x0 = 97 ∧ ∃ z, z ≤ 18 ∧ m = moi 15 (z + 1) ∧ x1 = nI (z + 1) ∧ x2 = nI z ∧ MB h h' (z + 1))
    (fun m sh x0 x1 x2 h' => sh = SH ∧ x0 = 97 ∧ ∃ z, z ≤ 9 ∧ m = moi 6 (19 + 16 * z) ∧ x1 = nI (19 + 16 * z) ∧ x2 = nI z ∧ MB h h' (19 + 16 * z))
    (fun m sh x0 x1 x2 x3 h' => sh = SH ∧ x0 = 97 ∧ ∃ z y, z ≤ 8 ∧ 4 ≤ y ∧ y ≤ 19 ∧ m = moi 7 (16 + 16 * z + y) ∧ x1 = nI (16 + 16 * z + y) ∧ x2 = nI z ∧ x3 = nI y ∧ MB h h' (16 + 16 * z + y))
    (fun m sh x0 x1 x2 h' => sh = SH ∧ x0 = 97 ∧ ∃ z, z ≤ 6 ∧ m = moi 5 (163 + 12 * z) ∧ x1 = nI (163 + 12 * z) ∧ x2 = nI z ∧ MB h h' (163 + 12 * z))
    (fun m sh x0 x1 x2 x3 h' => sh = SH ∧ x0 = 97 ∧ ∃ z d, z ≤ 5 ∧ 1 ≤ d ∧ d ≤ 5 ∧ m = moi (if d = 1 then 4 else 6) (160 + 12 * z + 3 * d) ∧ x1 = nI (160 + 12 * z + 3 * d) ∧ x2 = nI z ∧ x3 = nI d ∧ MB h h' (160 + 12 * z + 3 * d))
    (fun m sh x0 x1 x2 x3 x4 h' => sh = SH ∧ x0 = 97 ∧ ∃ z d y, z ≤ 5 ∧ 1 ≤ d ∧ d ≤ 4 ∧ 4 ≤ y ∧ y ≤ 7 ∧ m = moi (if y = 7 then 8 else 2) (156 + 12 * z + 3 * d + y) ∧ x1 = nI (156 + 12 * z + 3 * d + y) ∧ x2 = nI z ∧ x3 = nI d ∧ x4 = nI y ∧ MB h h' (156 + 12 * z + 3 * d + y))
    (fun m sh x0 x1 x2 h' => sh = SH ∧ x0 = 97 ∧ ∃ z, 6 ≤ z ∧ z ≤ 9 ∧ m = moi 3 (211 + 4 * z) ∧ x1 = nI (211 + 4 * z) ∧ x2 = nI z ∧ MB h h' (211 + 4 * z))
    (fun m sh x0 x1 x2 x3 h' => sh = SH ∧ x0 = 97 ∧ ∃ z d, 6 ≤ z ∧ z ≤ 8 ∧ 1 ≤ d ∧ d ≤ 5 ∧ m = moi (if d = 1 then 2 else 4) (210 + 4 * z + d) ∧ x1 = nI (210 + 4 * z + d) ∧ x2 = nI z ∧ x3 = nI d ∧ MB h h' (210 + 4 * z + d))
    (fun m sh x0 x1 x2 h' => sh = SH ∧ x0 = 97 ∧ ∃ z, z ≤ 9 ∧ m = moi 1 (247 + z) ∧ x1 = nI (247 + z) ∧ x2 = nI z ∧ MB h h' (247 + z)) ?_ ?_ ?_ ?_ ?_ ?_ ?_ ?_ ?_ ?_
  · refine ⟨rfl, ?_⟩
    refine ⟨8000, ⟨by decide, by decide, by decide, fun k => ⟨(B.2.1 _ (Nat.le_of_ble_eq_true rfl) k).1, (B.2.1 _ (Nat.le_of_ble_eq_true rfl) k).2.2⟩, by decide⟩, ?_⟩
    intro sh1 r1 e1 e2
    obtain rfl : sh1 = SH.take 98 := e1
    obtain rfl : r1 = 98 := e2
    have B := B.more (m := 98) (by decide) rfl
    refine ⟨rfl, ?_⟩
    intro h1 e1
    subst e1
    have B := B.setR 97 0 98 (by decide)
    refine ⟨8000, ⟨by decide, by decide, by decide, fun k => ⟨(B.2.1 _ (Nat.le_of_ble_eq_true rfl) k).1, (B.2.1 _ (Nat.le_of_ble_eq_true rfl) k).2.2⟩, by decide⟩, ?_⟩
    intro sh1 r1 e1 e2
    obtain rfl : sh1 = SH.take 99 := e1
    obtain rfl : r1 = 99 := e2
    have B := B.more (m := 99) (by decide) rfl
    refine ⟨rfl, ?_⟩
    intro h1 e1
    subst e1
    have B := B.setR 97 2 99 (by decide)
    refine ⟨4000, ⟨by decide, by decide, by decide, fun k => ⟨(B.2.1 _ (Nat.le_of_ble_eq_true rfl) k).1, (B.2.1 _ (Nat.le_of_ble_eq_true rfl) k).2.2⟩, by decide⟩, ?_⟩
    intro sh1 r1 e1 e2
    obtain rfl : sh1 = SH.take 100 := e1
    obtain rfl : r1 = 100 := e2
    have B := B.more (m := 100) (by decide) rfl
    refine ⟨rfl, ?_⟩
    intro h1 e1
    subst e1
    have B := B.setR 97 4 100 (by decide)
    intro h1 e1
    subst e1
    have B := B.setI 97 8 (-1 : Int32) (by decide)
    refine ⟨6144, ⟨by decide, by decide, by decide, fun k => ⟨(B.2.1 _ (Nat.le_of_ble_eq_true rfl) k).1, (B.2.1 _ (Nat.le_of_ble_eq_true rfl) k).2.2⟩, by decide⟩, ?_⟩
    intro sh1 r1 e1 e2
    obtain rfl : sh1 = SH.take 101 := e1
    obtain rfl : r1 = 101 := e2
    have B := B.more (m := 101) (by decide) rfl
    refine ⟨rfl, ?_⟩
    intro h1 e1
    subst e1
    have B := B.setR 97 9 101 (by decide)
    refine ⟨4, ⟨by decide, by decide, by decide, fun k => ⟨(B.2.1 _ (Nat.le_of_ble_eq_true rfl) k).1, (B.2.1 _ (Nat.le_of_ble_eq_true rfl) k).2.2⟩, by decide⟩, ?_⟩
    intro sh1 r1 e1 e2
    obtain rfl : sh1 = SH.take 102 := e1
    obtain rfl : r1 = 102 := e2
    have B := B.more (m := 102) (by decide) rfl
    refine ⟨rfl, ?_⟩
    intro h1 e1
    subst e1
    have B := B.setR 97 10 102 (by decide)
    refine ⟨4, ⟨by decide, by decide, by decide, fun k => ⟨(B.2.1 _ (Nat.le_of_ble_eq_true rfl) k).1, (B.2.1 _ (Nat.le_of_ble_eq_true rfl) k).2.2⟩, by decide⟩, ?_⟩
    intro sh1 r1 e1 e2
    obtain rfl : sh1 = SH.take 103 := e1
    obtain rfl : r1 = 103 := e2
    have B := B.more (m := 103) (by decide) rfl
    refine ⟨rfl, ?_⟩
    intro h1 e1
    subst e1
    have B := B.setR 97 11 103 (by decide)
    refine ⟨1536, ⟨by decide, by decide, by decide, fun k => ⟨(B.2.1 _ (Nat.le_of_ble_eq_true rfl) k).1, (B.2.1 _ (Nat.le_of_ble_eq_true rfl) k).2.2⟩, by decide⟩, ?_⟩
    intro sh1 r1 e1 e2
    obtain rfl : sh1 = SH.take 104 := e1
    obtain rfl : r1 = 104 := e2
    have B := B.more (m := 104) (by decide) rfl
    refine ⟨rfl, ?_⟩
    intro h1 e1
    subst e1
    have B := B.setR 97 12 104 (by decide)
    intro h1 e1
    rw [congrFun (congrFun B.2.2.1 97) 0] at e1
    replace e1 : h1 = wR _ 97 13 98 := e1
    subst e1
    have B := B.setR 97 13 98 (by decide)
    intro h1 e1
    rw [congrFun (congrFun B.2.2.1 97) 4] at e1
    replace e1 : h1 = wR _ 97 16 100 := e1
    subst e1
    have B := B.setR 97 16 100 (by decide)
    refine ⟨8000, ⟨by decide, by decide, by decide, fun k => ⟨(B.2.1 _ (Nat.le_of_ble_eq_true rfl) k).1, (B.2.1 _ (Nat.le_of_ble_eq_true rfl) k).2.2⟩, by decide⟩, ?_⟩
    intro sh1 r1 e1 e2
    obtain rfl : sh1 = SH.take 105 := e1
    obtain rfl : r1 = 105 := e2
    have B := B.more (m := 105) (by decide) rfl
    refine ⟨rfl, ?_⟩
    intro h1 e1
    subst e1
    have B := B.setR 97 20 105 (by decide)
    refine ⟨8000, ⟨by decide, by decide, by decide, fun k => ⟨(B.2.1 _ (Nat.le_of_ble_eq_true rfl) k).1, (B.2.1 _ (Nat.le_of_ble_eq_true rfl) k).2.2⟩, by decide⟩, ?_⟩
    intro sh1 r1 e1 e2
    obtain rfl : sh1 = SH.take 106 := e1
    obtain rfl : r1 = 106 := e2
    have B := B.more (m := 106) (by decide) rfl
    refine ⟨rfl, ?_⟩
    intro h1 e1
    subst e1
    have B := B.setR 97 21 106 (by decide)
    intro h1 e1
    rw [congrFun (congrFun B.2.2.1 97) 20] at e1
    replace e1 : h1 = wR _ 97 22 105 := e1
    subst e1
    have B := B.setR 97 22 105 (by decide)
    refine ⟨16000, ⟨by decide, by decide, by decide, fun k => ⟨(B.2.1 _ (Nat.le_of_ble_eq_true rfl) k).1, (B.2.1 _ (Nat.le_of_ble_eq_true rfl) k).2.2⟩, by decide⟩, ?_⟩
    intro sh1 r1 e1 e2
    obtain rfl : sh1 = SH.take 107 := e1
    obtain rfl : r1 = 107 := e2
    have B := B.more (m := 107) (by decide) rfl
    refine ⟨rfl, ?_⟩
    intro h1 e1
    subst e1
    have B := B.setR 97 24 107 (by decide)
    refine ⟨32, ⟨by decide, by decide, by decide, fun k => ⟨(B.2.1 _ (Nat.le_of_ble_eq_true rfl) k).1, (B.2.1 _ (Nat.le_of_ble_eq_true rfl) k).2.2⟩, by decide⟩, ?_⟩
    intro sh1 r1 e1 e2
    obtain rfl : sh1 = SH.take 108 := e1
    obtain rfl : r1 = 108 := e2
    have B := B.more (m := 108) (by decide) rfl
    refine ⟨rfl, ?_⟩
    intro h1 e1
    subst e1
    have B := B.setR 97 27 108 (by decide)
    refine ⟨4096, ⟨by decide, by decide, by decide, fun k => ⟨(B.2.1 _ (Nat.le_of_ble_eq_true rfl) k).1, (B.2.1 _ (Nat.le_of_ble_eq_true rfl) k).2.2⟩, by decide⟩, ?_⟩
    intro sh1 r1 e1 e2
    obtain rfl : sh1 = SH.take 109 := e1
    obtain rfl : r1 = 109 := e2
    have B := B.more (m := 109) (by decide) rfl
    refine ⟨rfl, ?_⟩
    intro h1 e1
    subst e1
    have B := B.setR 97 28 109 (by decide)
    refine ⟨8, ⟨by decide, by decide, by decide, fun k => ⟨(B.2.1 _ (Nat.le_of_ble_eq_true rfl) k).1, (B.2.1 _ (Nat.le_of_ble_eq_true rfl) k).2.2⟩, by decide⟩, ?_⟩
    intro sh1 r1 e1 e2
    obtain rfl : sh1 = SH.take 110 := e1
    obtain rfl : r1 = 110 := e2
    have B := B.more (m := 110) (by decide) rfl
    refine ⟨rfl, ?_⟩
    intro h1 e1
    subst e1
    have B := B.setR 97 30 110 (by decide)
    refine ⟨2000, ⟨by decide, by decide, by decide, fun k => ⟨(B.2.1 _ (Nat.le_of_ble_eq_true rfl) k).1, (B.2.1 _ (Nat.le_of_ble_eq_true rfl) k).2.2⟩, by decide⟩, ?_⟩
    intro sh1 r1 e1 e2
    obtain rfl : sh1 = SH.take 111 := e1
    obtain rfl : r1 = 111 := e2
    have B := B.more (m := 111) (by decide) rfl
    refine ⟨rfl, ?_⟩
    intro h1 e1
    subst e1
    have B := B.setR 97 32 111 (by decide)
    refine ⟨2000, ⟨by decide, by decide, by decide, fun k => ⟨(B.2.1 _ (Nat.le_of_ble_eq_true rfl) k).1, (B.2.1 _ (Nat.le_of_ble_eq_true rfl) k).2.2⟩, by decide⟩, ?_⟩
    intro sh1 r1 e1 e2
    obtain rfl : sh1 = SH.take 112 := e1
    obtain rfl : r1 = 112 := e2
    have B := B.more (m := 112) (by decide) rfl
    refine ⟨rfl, ?_⟩
    intro h1 e1
    subst e1
    have B := B.setR 97 33 112 (by decide)
    refine ⟨2000, ⟨by decide, by decide, by decide, fun k => ⟨(B.2.1 _ (Nat.le_of_ble_eq_true rfl) k).1, (B.2.1 _ (Nat.le_of_ble_eq_true rfl) k).2.2⟩, by decide⟩, ?_⟩
    intro sh1 r1 e1 e2
    obtain rfl : sh1 = SH.take 113 := e1
    obtain rfl : r1 = 113 := e2
    have B := B.more (m := 113) (by decide) rfl
    refine ⟨rfl, ?_⟩
    intro h1 e1
    subst e1
    have B := B.setR 97 34 113 (by decide)
    refine ⟨2000, ⟨by decide, by decide, by decide, fun k => ⟨(B.2.1 _ (Nat.le_of_ble_eq_true rfl) k).1, (B.2.1 _ (Nat.le_of_ble_eq_true rfl) k).2.2⟩, by decide⟩, ?_⟩
    intro sh1 r1 e1 e2
    obtain rfl : sh1 = SH.take 114 := e1
    obtain rfl : r1 = 114 := e2
    have B := B.more (m := 114) (by decide) rfl
    refine ⟨rfl, ?_⟩
    intro h1 e1
    subst e1
    have B := B.setR 97 35 114 (by decide)
    refine ⟨40000, ⟨by decide, by decide, by decide, fun k => ⟨(B.2.1 _ (Nat.le_of_ble_eq_true rfl) k).1, (B.2.1 _ (Nat.le_of_ble_eq_true rfl) k).2.2⟩, by decide⟩, ?_⟩
    intro sh1 r1 e1 e2
    obtain rfl : sh1 = SH.take 115 := e1
    obtain rfl : r1 = 115 := e2
    have B := B.more (m := 115) (by decide) rfl
    refine ⟨rfl, ?_⟩
    intro h1 e1
    subst e1
    have B := B.setR 97 42 115 (by decide)
    refine ⟨40000, ⟨by decide, by decide, by decide, fun k => ⟨(B.2.1 _ (Nat.le_of_ble_eq_true rfl) k).1, (B.2.1 _ (Nat.le_of_ble_eq_true rfl) k).2.2⟩, by decide⟩, ?_⟩
    intro sh1 r1 e1 e2
    obtain rfl : sh1 = SH.take 116 := e1
    obtain rfl : r1 = 116 := e2
    have B := B.more (m := 116) (by decide) rfl
    refine ⟨rfl, ?_⟩
    intro h1 e1
    subst e1
    have B := B.setR 97 44 116 (by decide)
    refine ⟨1536, ⟨by decide, by decide, by decide, fun k => ⟨(B.2.1 _ (Nat.le_of_ble_eq_true rfl) k).1, (B.2.1 _ (Nat.le_of_ble_eq_true rfl) k).2.2⟩, by decide⟩, ?_⟩
    intro sh1 r1 e1 e2
    obtain rfl : sh1 = SH.take 117 := e1
    obtain rfl : r1 = 117 := e2
    have B := B.more (m := 117) (by decide) rfl
    refine ⟨rfl, ?_⟩
    intro h1 e1
    subst e1
    have B := B.setR 97 46 117 (by decide)
    refine ⟨30000, ⟨by decide, by decide, by decide, fun k => ⟨(B.2.1 _ (Nat.le_of_ble_eq_true rfl) k).1, (B.2.1 _ (Nat.le_of_ble_eq_true rfl) k).2.2⟩, by decide⟩, ?_⟩
    intro sh1 r1 e1 e2
    obtain rfl : sh1 = SH.take 118 := e1
    obtain rfl : r1 = 118 := e2
    have B := B.more (m := 118) (by decide) rfl
    refine ⟨rfl, ?_⟩
    intro h1 e1
    subst e1
    have B := B.setR 97 47 118 (by decide)
    refine ⟨2100, ⟨by decide, by decide, by decide, fun k => ⟨(B.2.1 _ (Nat.le_of_ble_eq_true rfl) k).1, (B.2.1 _ (Nat.le_of_ble_eq_true rfl) k).2.2⟩, by decide⟩, ?_⟩
    intro sh1 r1 e1 e2
    obtain rfl : sh1 = SH.take 119 := e1
    obtain rfl : r1 = 119 := e2
    have B := B.more (m := 119) (by decide) rfl
    refine ⟨rfl, ?_⟩
    intro h1 e1
    subst e1
    have B := B.setR 97 52 119 (by decide)
    refine ⟨2100, ⟨by decide, by decide, by decide, fun k => ⟨(B.2.1 _ (Nat.le_of_ble_eq_true rfl) k).1, (B.2.1 _ (Nat.le_of_ble_eq_true rfl) k).2.2⟩, by decide⟩, ?_⟩
    intro sh1 r1 e1 e2
    obtain rfl : sh1 = SH.take 120 := e1
    obtain rfl : r1 = 120 := e2
    have B := B.more (m := 120) (by decide) rfl
    refine ⟨rfl, ?_⟩
    intro h1 e1
    subst e1
    have B := B.setR 97 53 120 (by decide)
    refine ⟨2100, ⟨by decide, by decide, by decide, fun k => ⟨(B.2.1 _ (Nat.le_of_ble_eq_true rfl) k).1, (B.2.1 _ (Nat.le_of_ble_eq_true rfl) k).2.2⟩, by decide⟩, ?_⟩
    intro sh1 r1 e1 e2
    obtain rfl : sh1 = SH.take 121 := e1
    obtain rfl : r1 = 121 := e2
    have B := B.more (m := 121) (by decide) rfl
    refine ⟨rfl, ?_⟩
    intro h1 e1
    subst e1
    have B := B.setR 97 54 121 (by decide)
    refine ⟨2100, ⟨by decide, by decide, by decide, fun k => ⟨(B.2.1 _ (Nat.le_of_ble_eq_true rfl) k).1, (B.2.1 _ (Nat.le_of_ble_eq_true rfl) k).2.2⟩, by decide⟩, ?_⟩
    intro sh1 r1 e1 e2
    obtain rfl : sh1 = SH.take 122 := e1
    obtain rfl : r1 = 122 := e2
    have B := B.more (m := 122) (by decide) rfl
    refine ⟨rfl, ?_⟩
    intro h1 e1
    subst e1
    have B := B.setR 97 55 122 (by decide)
    refine ⟨32, ⟨by decide, by decide, by decide, fun k => ⟨(B.2.1 _ (Nat.le_of_ble_eq_true rfl) k).1, (B.2.1 _ (Nat.le_of_ble_eq_true rfl) k).2.2⟩, by decide⟩, ?_⟩
    intro sh1 r1 e1 e2
    obtain rfl : sh1 = SH.take 123 := e1
    obtain rfl : r1 = 123 := e2
    have B := B.more (m := 123) (by decide) rfl
    refine ⟨rfl, ?_⟩
    intro h1 e1
    subst e1
    have B := B.setR 97 56 123 (by decide)
    refine ⟨4096, ⟨by decide, by decide, by decide, fun k => ⟨(B.2.1 _ (Nat.le_of_ble_eq_true rfl) k).1, (B.2.1 _ (Nat.le_of_ble_eq_true rfl) k).2.2⟩, by decide⟩, ?_⟩
    intro sh1 r1 e1 e2
    obtain rfl : sh1 = SH.take 124 := e1
    obtain rfl : r1 = 124 := e2
    have B := B.more (m := 124) (by decide) rfl
    refine ⟨rfl, ?_⟩
    intro h1 e1
    subst e1
    have B := B.setR 97 57 124 (by decide)
    refine ⟨16000, ⟨by decide, by decide, by decide, fun k => ⟨(B.2.1 _ (Nat.le_of_ble_eq_true rfl) k).1, (B.2.1 _ (Nat.le_of_ble_eq_true rfl) k).2.2⟩, by decide⟩, ?_⟩
    intro sh1 r1 e1 e2
    obtain rfl : sh1 = SH.take 125 := e1
    obtain rfl : r1 = 125 := e2
    have B := B.more (m := 125) (by decide) rfl
    refine ⟨rfl, ?_⟩
    intro hb ehb
    have B := B.setR 97 58 125 (by decide)
    rw [← ehb] at B
    clear ehb
    have hR := B.2.2.1
    have hI := B.2.2.2.1
    have k9 : hb.2.1 97 9 = 101 := by rw [hR]; rfl
    have k10 : hb.2.1 97 10 = 102 := by rw [hR]; rfl
    have k11 : hb.2.1 97 11 = 103 := by rw [hR]; rfl
    have c0 : (0 : Int32).toNatClampNeg = 0 := by decide
    refine ⟨4, by rw [k10]; rfl, vp_in_nI (n := 0) (by decide) (by decide), fun h265 e265 => ?_⟩
    rw [k10, c0] at e265
    have k11' : h265.2.1 97 11 = 103 := by rw [e265]; exact k11
    refine ⟨4, by rw [k11']; rfl, vp_in_nI (n := 0) (by decide) (by decide), fun h270 e270 => ?_⟩
    rw [k11', c0] at e270
    subst e265; subst e270
    intro y272 e272
    subst e272
    have M0 : MB h (wI (wI hb 102 0 4) 103 0 3) 0 := by
      refine ⟨k9, fun what i hw hi => absurd hi (by omega), hR, B.2.2.2.2, fun q q1 q2 q3 q4 => ?_, fun k hk => ?_, ?_, ?_, ?_⟩
      · rw [wI_cell q3, wI_cell q2, hI]
        funext j
        simp [uI, q4]
      · rw [wI_cell (by decide), wI_cell (by decide), hI]
        simp [uI, hk]
      · rw [wI_cell (by decide), wI_cell (by decide), hI]
        simp [uI]
      · rw [wI_cell (by decide), wI_same]; rfl
      · rw [wI_same]; rfl
    refine ⟨_, S_code M0.1 M0.2.1 (by decide) 2 0 0 0 0 0 rfl, by decide, fun v278 h277 hp y280 e280 y282 e282 => ⟨rfl, ?_⟩⟩
    obtain ⟨rfl, U, F⟩ := hp
    exact ⟨_, rfl, rfl, 0, by omega, rfl, e280, e282, M0.step F U⟩
  · rintro m sh x0 x1 x2 h' ⟨rfl, rfl, z, hz, rfl, rfl, rfl, b⟩
    unfold V_X12_init_306
    rw [show (17 : Int32) = nI 17 from rfl, nI_ltI (by decide) (by omega)]
    refine ⟨fun c y2 e2 => ?_, fun c => ⟨rfl, _, S_code b.1 b.2.1 (by omega) 1 z 0 0 0 0 ?_, fun v9 h8 hp y11 e11 y13 e13 => ?_⟩⟩
    · have : z = 18 := by omega
      subst this
      exact ⟨moi 6 19, by unfold moi; omega, rfl, rfl, 0, by omega, rfl, rfl, e2, b⟩
    · unfold uE; rw [if_neg (by omega), if_pos (by omega)]; simp
    · obtain ⟨rfl, U, F⟩ := hp
      exact ⟨moi 15 (z + 1 + 1), by unfold moi; omega, rfl, rfl, z + 1, by omega, rfl, e11, by rw [e13, nI_1], b.step F U⟩
  · rintro m sh x0 x1 x2 h' ⟨rfl, rfl, z, hz, rfl, rfl, rfl, b⟩
    unfold V_X12_init_332
    rw [show (8 : Int32) = nI 8 from rfl, nI_ltI (by decide) (by omega)]
    refine ⟨fun c y2 e2 => ?_, fun c => ⟨rfl, _, S_code b.1 b.2.1 (by omega) 3 0 z 0 0 0 ?_, fun v9 h8 hp y11 e11 y13 e13 => ?_⟩⟩
    · have : z = 9 := by omega
      subst this
      exact ⟨moi 5 163, by unfold moi; omega, rfl, rfl, 0, by omega, rfl, rfl, e2, b⟩
    · unfold uE; rw [if_neg (by omega), if_neg (by omega), if_pos (by omega), if_pos (by omega)]; congr 3; omega
    · obtain ⟨rfl, U, F⟩ := hp
      have b' := b.step F U
      rw [show 19 + 16 * z + 1 = 16 + 16 * z + 4 by omega] at b' e11
      exact ⟨moi 7 (16 + 16 * z + 4), by unfold moi; omega, rfl, rfl, z, 4, by omega, by omega, by omega, rfl, e11, rfl, e13, b'⟩
  · rintro m sh x0 x1 x2 x3 h' ⟨rfl, rfl, z, y, hz, hy1, hy2, rfl, rfl, rfl, rfl, b⟩
    unfold V_X12_init_352
    rw [show (18 : Int32) = nI 18 from rfl, nI_ltI (by decide) (by omega)]
    refine ⟨fun c y2 e2 => ?_, fun c => ⟨rfl, _, S_code b.1 b.2.1 (by omega) 3 y z 0 0 0 ?_, fun v9 h8 hp y11 e11 y13 e13 => ?_⟩⟩
    · rw [show 16 + 16 * z + y = 19 + 16 * (z + 1) by omega] at b ⊢
      exact ⟨moi 6 (19 + 16 * (z + 1)), by unfold moi; omega, rfl, rfl, z + 1, by omega, rfl, rfl, by rw [e2, nI_1], b⟩
    · unfold uE; rw [if_neg (by omega), if_neg (by omega), if_pos (by omega), if_neg (by omega)]
      have q1 : (16 + 16 * z + y - 19) % 16 + 3 = y := by omega
      have q2 : (16 + 16 * z + y - 19) / 16 = z := by omega
      rw [q1, q2]
    · obtain ⟨rfl, U, F⟩ := hp
      exact ⟨moi 7 (16 + 16 * z + (y + 1)), by unfold moi; omega, rfl, rfl, z, y + 1, hz, by omega, by omega, rfl, e11, rfl, by rw [e13, nI_1], b.step F U⟩
  · rintro m sh x0 x1 x2 h' ⟨rfl, rfl, z, hz, rfl, rfl, rfl, b⟩
    unfold V_X12_init_384
    rw [show (5 : Int32) = nI 5 from rfl, nI_ltI (by decide) (by omega)]
    refine ⟨fun c y2 e2 => ?_, fun c y4 e4 => ?_⟩
    · have : z = 6 := by omega
      subst this
      exact ⟨moi 3 235, by unfold moi; omega, rfl, rfl, 6, by omega, by omega, rfl, rfl, e2, b⟩
    · rw [show 163 + 12 * z = 160 + 12 * z + 3 * 1 by omega] at b ⊢
      exact ⟨moi 4 (160 + 12 * z + 3 * 1), by unfold moi; omega, rfl, rfl, z, 1, by omega, by omega, by omega, by rw [if_pos rfl], rfl, rfl, e4, b⟩
  · rintro m sh x0 x1 x2 x3 h' ⟨rfl, rfl, z, d, hz, hd1, hd5, rfl, rfl, rfl, rfl, b⟩
    unfold V_X12_init_391
    rw [show (4 : Int32) = nI 4 from rfl, nI_ltI (by decide) (by omega)]
    refine ⟨fun c y2 e2 => ?_, fun c y4 e4 => ?_⟩
    · have : d = 5 := by omega
      subst this
      rw [show 160 + 12 * z + 3 * 5 = 163 + 12 * (z + 1) by omega] at b ⊢
      exact ⟨moi 5 (163 + 12 * (z + 1)), by unfold moi; rw [if_neg (by omega)]; omega, rfl, rfl, z + 1, by omega, rfl, rfl, by rw [e2, nI_1], b⟩
    · rw [show 160 + 12 * z + 3 * d = 156 + 12 * z + 3 * d + 4 by omega] at b ⊢
      refine ⟨moi 2 (156 + 12 * z + 3 * d + 4), ?_, rfl, rfl, z, d, 4, hz, hd1, by omega, by omega, by omega, by rw [if_neg (by omega)], rfl, rfl, rfl, e4, b⟩
      unfold moi; split <;> omega
  · rintro m sh x0 x1 x2 x3 x4 h' ⟨rfl, rfl, z, d, y, hz, hd1, hd4, hy1, hy2, rfl, rfl, rfl, rfl, rfl, b⟩
    unfold V_X12_init_399
    rw [show (6 : Int32) = nI 6 from rfl, nI_ltI (by decide) (by omega)]
    refine ⟨fun c y2 e2 => ?_, fun c => ⟨rfl, _, S_code b.1 b.2.1 (by omega) 1 d 0 3 y z ?_, fun v9 h8 hp y11 e11 y13 e13 => ?_⟩⟩
    · have : y = 7 := by omega
      subst this
      rw [show 156 + 12 * z + 3 * d + 7 = 160 + 12 * z + 3 * (d + 1) by omega] at b ⊢
      exact ⟨moi 6 (160 + 12 * z + 3 * (d + 1)), by unfold moi; rw [if_pos rfl]; omega, rfl, rfl, z, d + 1, hz, by omega, by omega, by rw [if_neg (by omega)], rfl, rfl, by rw [e2, nI_1], b⟩
    · unfold uE
      rw [if_neg (by omega), if_neg (by omega), if_neg (by omega), if_pos (by omega)]
      have q1 : (156 + 12 * z + 3 * d + y - 163) % 12 / 3 + 1 = d := by omega
      have q2 : (156 + 12 * z + 3 * d + y - 163) % 3 + 4 = y := by omega
      have q3 : (156 + 12 * z + 3 * d + y - 163) / 12 = z := by omega
      rw [q1, q2, q3]
    · obtain ⟨rfl, U, F⟩ := hp
      refine ⟨moi (if y + 1 = 7 then 8 else 2) (156 + 12 * z + 3 * d + (y + 1)), ?_, rfl, rfl, z, d, y + 1, hz, hd1, hd4, by omega, by omega, rfl, e11, rfl, rfl, by rw [e13, nI_1], b.step F U⟩
      unfold moi; split <;> split <;> omega
  · rintro m sh x0 x1 x2 h' ⟨rfl, rfl, z, hz6, hz, rfl, rfl, rfl, b⟩
    unfold V_X12_init_440
    rw [show (8 : Int32) = nI 8 from rfl, nI_ltI (by decide) (by omega)]
    refine ⟨fun c y2 e2 => ?_, fun c y4 e4 => ?_⟩
    · have : z = 9 := by omega
      subst this
      exact ⟨moi 1 247, by unfold moi; omega, rfl, rfl, 0, by omega, rfl, rfl, e2, b⟩
    · rw [show 211 + 4 * z = 210 + 4 * z + 1 by omega] at b ⊢
      exact ⟨moi 2 (210 + 4 * z + 1), by unfold moi; omega, rfl, rfl, z, 1, hz6, by omega, by omega, by omega, by rw [if_pos rfl], rfl, rfl, e4, b⟩
  · rintro m sh x0 x1 x2 x3 h' ⟨rfl, rfl, z, d, hz6, hz, hd1, hd5, rfl, rfl, rfl, rfl, b⟩
    unfold V_X12_init_448
    rw [show (4 : Int32) = nI 4 from rfl, nI_ltI (by decide) (by omega)]
    refine ⟨fun c y2 e2 => ?_, fun c => ⟨rfl, _, S_code b.1 b.2.1 (by omega) 1 d 0 3 4 z ?_, fun v9 h8 hp y11 e11 y13 e13 => ?_⟩⟩
    · have : d = 5 := by omega
      subst this
      rw [show 210 + 4 * z + 5 = 211 + 4 * (z + 1) by omega] at b ⊢
      exact ⟨moi 3 (211 + 4 * (z + 1)), by unfold moi; rw [if_neg (by omega)]; omega, rfl, rfl, z + 1, by omega, by omega, rfl, rfl, by rw [e2, nI_1], b⟩
    · unfold uE
      rw [if_neg (by omega), if_neg (by omega), if_neg (by omega), if_neg (by omega), if_pos (by omega)]
      have q1 : (210 + 4 * z + d - 235) % 4 + 1 = d := by omega
      have q3 : 6 + (210 + 4 * z + d - 235) / 4 = z := by omega
      rw [q1, q3]
    · obtain ⟨rfl, U, F⟩ := hp
      refine ⟨moi 4 (210 + 4 * z + (d + 1)), ?_, rfl, rfl, z, d + 1, hz6, hz, by omega, by omega, by rw [if_neg (by omega)], e11, rfl, by rw [e13, nI_1], b.step F U⟩
      unfold moi; split <;> omega
  · rintro m sh x0 x1 x2 h' ⟨rfl, rfl, z, hz, rfl, rfl, rfl, b⟩
    unfold V_X12_init_479
    rw [show (8 : Int32) = nI 8 from rfl, nI_ltI (by decide) (by omega)]
    refine ⟨fun c => ?_, fun c => ⟨rfl, _, S_code b.1 b.2.1 (by omega) 3 4 z 1 1 0 ?_, fun v9 h8 hp y11 e11 y13 e13 => ?_⟩⟩
    · have : z = 9 := by omega
      subst this
      obtain ⟨b1, b2, b3, b4, b5, b6, b7, b8, b9⟩ := b
      have z1 : ∀ q, 96 < q → ∀ k, h.1 q k = 0 := fun q hq k => (Z q hq k).1
      have z2 : ∀ q, 96 < q → ∀ k, h.2.2 q k = 0 := fun q hq k => (Z q hq k).2.2
      have k10 : h'.2.1 97 10 = 102 := by rw [b3]; rfl
      have k11 : h'.2.1 97 11 = 103 := by rw [b3]; rfl
      have V0 : EntV h' 0 (UBy, 4, 3) := ⟨fun what i hw hi => by rw [UBy_get hi hw]; have := b2 what i hw hi; rwa [show 1536 * 0 + 256 * what + i = 256 * what + i by omega], b8, b9, by decide, by decide, UBy_len, UBy_lt⟩
      have t1 := S_takeTable3 (w := w) b1 k10 k11 0 1 (by decide) (by decide) (by decide)
      refine ⟨rfl, _, t1, fun h6 K1 => ?_⟩
      have t2 := S_takeTable3 (w := w) (h := h6) (by rw [K1.1.1]; exact b1) (by rw [K1.1.1]; exact k10) (by rw [K1.1.1]; exact k11) 0 2 (by decide) (by decide) (by decide)
      refine ⟨_, t2, fun h11 K2 => ?_⟩
      have V1 := K1.to V0
      have V0' := K1.other V0 (t := 0) (by decide)
      have V2 := K2.to V0'
      have V0'' := K2.other V0' (t := 0) (by decide)
      have V1'' := K2.other V1 (t := 1) (by decide)
      have k12 : h11.2.1 97 12 = 104 := by rw [K2.1.1, K1.1.1, b3]; rfl
      have ab := S_asBytes (w := w) (h := h11) (a := 104) (N := 1536) (by rw [K2.1.1, K1.1.1]; exact b1) (t := 0) (by decide) V0'' rfl (by decide) (by decide) (by decide)
      refine ⟨_, by rw [k12]; exact ab, fun h16 hp => ?_⟩
      obtain ⟨By, F⟩ := hp
      have FF : Fr [101, 102, 103, 104] h' h16 := ((K1.1.mono (by simp)).tr1 (K2.1.mono (by simp))).tr1 (F.mono (by simp))
      have e97 : ∀ k, k ≠ 8 → h16.1 97 k = 0 := fun k hk => by rw [FF.2.2 97 (by decide), b6 k hk]; exact z1 97 (by decide) k
      have ez : ∀ q, 97 < q → q ∉ [101, 102, 103, 104] → ∀ k, h16.1 q k = 0 := fun q hq hs k => by
        rw [FF.2.2 q hs, b5 q (fun e => hs (by simp [e])) (fun e => hs (by simp [e])) (fun e => hs (by simp [e])) (by omega)]; exact z1 q (by omega) k
      have en : ∀ t T, EntV h11 t T → EntV h16 t T := fun t T V => V.of (fun k _ => by rw [F.2.2 101 (by decide)]) (by rw [F.2.2 102 (by decide)]) (by rw [F.2.2 103 (by decide)])
      refine ⟨rfl, by rw [FF.1]; exact b3, fun q hq => ⟨by rw [FF.2.2 q (by simp; omega)]; exact b5 q (by omega) (by omega) (by omega) (by omega), by rw [FF.2.1, b4]⟩, ⟨⟨e97 1 (by decide), fun j hj => absurd hj (Nat.not_lt_zero _), by decide⟩, ⟨e97 3 (by decide), fun j hj => absurd hj (Nat.not_lt_zero _), by decide⟩, ⟨e97 5 (by decide), fun j hj => absurd hj (Nat.not_lt_zero _), by decide⟩⟩, en 0 _ V0'', en 2 _ V2, en 1 _ V1'', By, fun j _ => ez 110 (by decide) (by decide) j, ⟨e97 31 (by decide), by decide, fun i hi => absurd hi (Nat.not_lt_zero _)⟩, fun i _ => by rw [FF.2.1, b4]; exact z2 108 (by decide) i, fun i _ => by rw [FF.2.1, b4]; exact z2 109 (by decide) i, by rw [FF.2.2 97 (by decide)]; exact b7⟩
    · unfold uE
      rw [if_neg (by omega), if_neg (by omega), if_neg (by omega), if_neg (by omega), if_neg (by omega), show 247 + z - 247 = z by omega]
    · obtain ⟨rfl, U, F⟩ := hp
      exact ⟨moi 1 (247 + (z + 1)), by unfold moi; omega, rfl, rfl, z + 1, by omega, rfl, e11, by rw [e13, nI_1], b.step F U⟩
