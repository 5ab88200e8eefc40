/-! the class's own constructor (printed by wip/whole/genx.py) -/
def LX1 : List (Nat × Nat × Nat) := [(2, 0, 3), (1, 0, 2), (4, 0, 5), (1, 1, 4), (6, 0, 7), (1, 2, 6), (8, 0, 9), (1, 3, 8), (10, 0, 11), (1, 4, 10), (13, 0, 14), (12, 0, 13), (1, 5, 12), (16, 0, 17), (15, 0, 16), (1, 6, 15), (19, 0, 20), (18, 0, 19), (1, 7, 18), (21, 0, 22), (21, 1, 23), (1, 8, 21), (24, 0, 25), (24, 1, 26), (1, 9, 24), (29, 0, 30), (28, 0, 29), (28, 1, 31), (28, 2, 32), (27, 0, 28), (33, 0, 34), (33, 1, 35), (33, 2, 36), (27, 1, 33), (37, 0, 38), (37, 1, 39), (27, 2, 37), (40, 0, 41), (40, 1, 42), (27, 3, 40), (43, 0, 44), (27, 4, 43), (45, 0, 46), (27, 5, 45), (47, 0, 48), (27, 6, 47), (1, 12, 27)]
def LX2 : List (Nat × Nat × Nat) := [(51, 0, 52), (50, 0, 51), (49, 4, 50), (54, 0, 55), (53, 0, 54), (49, 5, 53), (57, 0, 58), (56, 0, 57), (49, 6, 56), (60, 0, 61), (59, 0, 60), (49, 7, 59), (63, 0, 64), (62, 0, 63), (49, 8, 62), (66, 0, 67), (65, 0, 66), (65, 3, 66), (49, 9, 65), (68, 0, 69), (49, 10, 68), (49, 11, 68), (49, 0, 18), (49, 1, 24), (49, 2, 21), (1, 10, 49), (71, 0, 72), (71, 1, 73), (74, 0, 75), (74, 1, 76), (78, 0, 79), (77, 0, 78), (70, 4, 77), (81, 0, 82), (80, 0, 81), (70, 5, 80), (84, 0, 85), (83, 0, 84), (70, 6, 83), (87, 0, 88), (86, 0, 87), (70, 7, 86), (90, 0, 91), (89, 0, 90), (70, 8, 89), (93, 0, 94), (92, 0, 93), (92, 3, 93), (70, 9, 92), (95, 0, 96), (70, 10, 95), (70, 11, 95), (70, 0, 12), (70, 1, 71), (70, 2, 74), (1, 11, 70)]
noncomputable def oi0 : OI := ((UBy, 4, 3), fun _ => 0, [], fun _ => 0, fun _ => 0, -1)
set_option maxRecDepth 40000 in
set_option maxHeartbeats 8000000 in
theorem X_init {w : Wd} {h : Hp} (Z : Zr 0 h) : C_X11_init w (SH.take 1) 1 h 75777 (fun sh1 h1 => sh1 = SH.take 96 ∧ Zr 96 h1 ∧ h1.2.1 = uR (uR h.2.1 LX1) LX2 ∧ XA h1 [] [] [] ∧ XO h1 (UBy, 4, 3) oi0) := by
  have B := Bt.rf (h := h) (Z.up (m := 1) (by decide))
  refine K_X11_init ?_
  refine ⟨rfl, ?_⟩
  refine ⟨⟨fun k => ⟨(B.2.1 _ (Nat.le_of_ble_eq_true rfl) k).1, (B.2.1 _ (Nat.le_of_ble_eq_true rfl) k).2.1⟩, by decide⟩, ?_⟩
  intro sh1 r1 e1 e2
  obtain rfl : sh1 = SH.take 2 := e1
  obtain rfl : r1 = 2 := e2
  have B := B.more (m := 2) (by decide) rfl
  refine ⟨rfl, ?_⟩
  refine ⟨8000, _, B_X8_init_2 B.2.1, by decide, ?_⟩
  intro sh1 h1 B2; obtain rfl := B2.1; have B := B.go B2
  refine ⟨rfl, ?_⟩
  intro h1 e1; subst e1
  have B := B.setR 1 0 2 (by decide)
  refine ⟨⟨fun k => ⟨(B.2.1 _ (Nat.le_of_ble_eq_true rfl) k).1, (B.2.1 _ (Nat.le_of_ble_eq_true rfl) k).2.1⟩, by decide⟩, ?_⟩
  intro sh1 r1 e1 e2
  obtain rfl : sh1 = SH.take 4 := e1
  obtain rfl : r1 = 4 := e2
  have B := B.more (m := 4) (by decide) rfl
  refine ⟨rfl, ?_⟩
  refine ⟨8000, _, B_X8_init_4 B.2.1, by decide, ?_⟩
  intro sh1 h1 B2; obtain rfl := B2.1; have B := B.go B2
  refine ⟨rfl, ?_⟩
  intro h1 e1; subst e1
  have B := B.setR 1 1 4 (by decide)
  refine ⟨⟨fun k => ⟨(B.2.1 _ (Nat.le_of_ble_eq_true rfl) k).1, (B.2.1 _ (Nat.le_of_ble_eq_true rfl) k).2.1⟩, by decide⟩, ?_⟩
  intro sh1 r1 e1 e2
  obtain rfl : sh1 = SH.take 6 := e1
  obtain rfl : r1 = 6 := e2
  have B := B.more (m := 6) (by decide) rfl
  refine ⟨rfl, ?_⟩
  refine ⟨8000, _, B_X8_init_6 B.2.1, by decide, ?_⟩
  intro sh1 h1 B2; obtain rfl := B2.1; have B := B.go B2
  refine ⟨rfl, ?_⟩
  intro h1 e1; subst e1
  have B := B.setR 1 2 6 (by decide)
  refine ⟨⟨fun k => ⟨(B.2.1 _ (Nat.le_of_ble_eq_true rfl) k).1, (B.2.1 _ (Nat.le_of_ble_eq_true rfl) k).2.1⟩, by decide⟩, ?_⟩
  intro sh1 r1 e1 e2
  obtain rfl : sh1 = SH.take 8 := e1
  obtain rfl : r1 = 8 := e2
  have B := B.more (m := 8) (by decide) rfl
  refine ⟨rfl, ?_⟩
  refine ⟨4000, _, B_X8_init_8 B.2.1, by decide, ?_⟩
  intro sh1 h1 B2; obtain rfl := B2.1; have B := B.go B2
  refine ⟨rfl, ?_⟩
  intro h1 e1; subst e1
  have B := B.setR 1 3 8 (by decide)
  refine ⟨⟨fun k => ⟨(B.2.1 _ (Nat.le_of_ble_eq_true rfl) k).1, (B.2.1 _ (Nat.le_of_ble_eq_true rfl) k).2.1⟩, by decide⟩, ?_⟩
  intro sh1 r1 e1 e2
  obtain rfl : sh1 = SH.take 10 := e1
  obtain rfl : r1 = 10 := e2
  have B := B.more (m := 10) (by decide) rfl
  refine ⟨rfl, ?_⟩
  refine ⟨2048, _, B_X8_init_10 B.2.1, by decide, ?_⟩
  intro sh1 h1 B2; obtain rfl := B2.1; have B := B.go B2
  refine ⟨rfl, ?_⟩
  intro h1 e1; subst e1
  have B := B.setR 1 4 10 (by decide)
  refine ⟨⟨fun k => ⟨(B.2.1 _ (Nat.le_of_ble_eq_true rfl) k).1, (B.2.1 _ (Nat.le_of_ble_eq_true rfl) k).2.1⟩, by decide⟩, ?_⟩
  intro sh1 r1 e1 e2
  obtain rfl : sh1 = SH.take 12 := e1
  obtain rfl : r1 = 12 := e2
  have B := B.more (m := 12) (by decide) rfl
  refine ⟨rfl, ?_⟩
  refine ⟨1539, _, B_X10_init_12 B.2.1, by decide, ?_⟩
  intro sh1 h1 B2; obtain rfl := B2.1; have B := B.go B2
  refine ⟨rfl, ?_⟩
  intro h1 e1; subst e1
  have B := B.setR 1 5 12 (by decide)
  refine ⟨⟨fun k => ⟨(B.2.1 _ (Nat.le_of_ble_eq_true rfl) k).1, (B.2.1 _ (Nat.le_of_ble_eq_true rfl) k).2.1⟩, by decide⟩, ?_⟩
  intro sh1 r1 e1 e2
  obtain rfl : sh1 = SH.take 15 := e1
  obtain rfl : r1 = 15 := e2
  have B := B.more (m := 15) (by decide) rfl
  refine ⟨rfl, ?_⟩
  refine ⟨1539, _, B_X10_init_15 B.2.1, by decide, ?_⟩
  intro sh1 h1 B2; obtain rfl := B2.1; have B := B.go B2
  refine ⟨rfl, ?_⟩
  intro h1 e1; subst e1
  have B := B.setR 1 6 15 (by decide)
  refine ⟨⟨fun k => ⟨(B.2.1 _ (Nat.le_of_ble_eq_true rfl) k).1, (B.2.1 _ (Nat.le_of_ble_eq_true rfl) k).2.1⟩, by decide⟩, ?_⟩
  intro sh1 r1 e1 e2
  obtain rfl : sh1 = SH.take 18 := e1
  obtain rfl : r1 = 18 := e2
  have B := B.more (m := 18) (by decide) rfl
  refine ⟨rfl, ?_⟩
  refine ⟨1539, _, B_X10_init_18 B.2.1, by decide, ?_⟩
  intro sh1 h1 B2; obtain rfl := B2.1; have B := B.go B2
  refine ⟨rfl, ?_⟩
  intro h1 e1; subst e1
  have B := B.setR 1 7 18 (by decide)
  refine ⟨⟨fun k => ⟨(B.2.1 _ (Nat.le_of_ble_eq_true rfl) k).1, (B.2.1 _ (Nat.le_of_ble_eq_true rfl) k).2.1⟩, by decide⟩, ?_⟩
  intro sh1 r1 e1 e2
  obtain rfl : sh1 = SH.take 21 := e1
  obtain rfl : r1 = 21 := e2
  have B := B.more (m := 21) (by decide) rfl
  refine ⟨rfl, ?_⟩
  refine ⟨8008, _, B_X4_init_21 B.2.1, by decide, ?_⟩
  intro sh1 h1 B2; obtain rfl := B2.1; have B := B.go B2
  refine ⟨rfl, ?_⟩
  intro h1 e1; subst e1
  have B := B.setR 1 8 21 (by decide)
  refine ⟨⟨fun k => ⟨(B.2.1 _ (Nat.le_of_ble_eq_true rfl) k).1, (B.2.1 _ (Nat.le_of_ble_eq_true rfl) k).2.1⟩, by decide⟩, ?_⟩
  intro sh1 r1 e1 e2
  obtain rfl : sh1 = SH.take 24 := e1
  obtain rfl : r1 = 24 := e2
  have B := B.more (m := 24) (by decide) rfl
  refine ⟨rfl, ?_⟩
  refine ⟨4128, _, B_X0_init_24 B.2.1, by decide, ?_⟩
  intro sh1 h1 B2; obtain rfl := B2.1; have B := B.go B2
  refine ⟨rfl, ?_⟩
  intro h1 e1; subst e1
  have B := B.setR 1 9 24 (by decide)
  refine ⟨⟨fun k => ⟨(B.2.1 _ (Nat.le_of_ble_eq_true rfl) k).1, (B.2.1 _ (Nat.le_of_ble_eq_true rfl) k).2.1⟩, by decide⟩, ?_⟩
  intro sh1 r1 e1 e2
  obtain rfl : sh1 = SH.take 27 := e1
  obtain rfl : r1 = 27 := e2
  have B := B.more (m := 27) (by decide) rfl
  refine ⟨rfl, ?_⟩
  refine ⟨28029, _, B_X5_init_27 B.2.1, by decide, ?_⟩
  intro sh1 h1 B2; obtain rfl := B2.1; have B := B.go B2
  refine ⟨rfl, ?_⟩
  intro h1 e1; subst e1
  have B := B.setR 1 12 27 (by decide)
  obtain ⟨hb, ehb⟩ : ∃ z, z = wR h1 1 12 27 := ⟨_, rfl⟩
  rw [← ehb] at B ⊢
  have hR := B.2.2.1
  have hI : hb.1 = h.1 := B.2.2.2.1
  have Zb := B.2.1
  have rv0 : ∀ r a N, shAt (SH.take 48) r = some (.inr 8) → shAt (SH.take 48) a = some (.inl (0, N)) → hb.2.1 r 0 = a → N ≤ 40000 → 0 < r → RowV (SH.take 48) hb r a N [] false := fun r a N q1 q2 q3 q4 q5 => ⟨q1, q2, q3, q4, Nat.zero_le _, by rw [hI]; exact (Z r q5 1).1, fun j hj => absurd hj (Nat.not_lt_zero _), by rw [hI]; exact (Z r q5 2).1⟩
  refine ⟨by rw [hR]; rfl, _, by rw [show hb.2.1 1 5 = 12 from by rw [hR]; rfl]; exact S_becomeUsual rfl (by rw [hR]; rfl) (rv0 13 14 1536 rfl rfl (by rw [hR]; rfl) (by decide) (by decide)) (by decide) (by decide), by decide, ?_⟩
  intro k1 hp; obtain ⟨T1, F1, a1, a2⟩ := hp
  refine ⟨by rw [F1.1, hR]; rfl, _, by rw [show k1.2.1 1 6 = 15 from by rw [F1.1, hR]; rfl]; exact S_becomeUsual rfl (by rw [F1.1, hR]; rfl) ((rv0 16 17 1536 rfl rfl (by rw [hR]; rfl) (by decide) (by decide)).fr F1 (by decide) (by decide)) (by decide) (by decide), by decide, ?_⟩
  intro k2 hp; obtain ⟨T2, F2, b1, b2⟩ := hp
  refine ⟨by rw [F2.1, F1.1, hR]; rfl, _, by rw [show k2.2.1 1 7 = 18 from by rw [F2.1, F1.1, hR]; rfl]; exact S_becomeUsual rfl (by rw [F2.1, F1.1, hR]; rfl) (((rv0 19 20 1536 rfl rfl (by rw [hR]; rfl) (by decide) (by decide)).fr F1 (by decide) (by decide)).fr F2 (by decide) (by decide)) (by decide) (by decide), by decide, ?_⟩
  intro k3 hp; obtain ⟨T3, F3, d1, d2⟩ := hp
  have hR3 : k3.2.1 = uR h.2.1 LX1 := by rw [F3.1, F2.1, F1.1, hR]; rfl
  refine ⟨by rw [hR3]; rfl, _, by rw [show k3.2.1 1 9 = 24 from by rw [hR3]; rfl]; exact S_fit (an := 25) (as := 26) rfl (by rw [hR3]; rfl) (by rw [hR3]; rfl) rfl rfl (by decide) (by decide) (by decide) 4 3 (by decide) (by decide), by decide, ?_⟩
  intro h4 hp; obtain ⟨f1, f2, f3, f4, f5, F4⟩ := hp
  have FF : Fr [12, 13, 14, 15, 16, 17, 18, 19, 20, 24, 25, 26] hb h4 := (((F1.mono (by simp)).tr1 (F2.mono (by simp))).tr1 (F3.mono (by simp))).tr1 (F4.mono (by simp))
  have hR4 : h4.2.1 = uR h.2.1 LX1 := by rw [F4.1, hR3]
  have Z4 : Zr 48 h4 := Zb.fr FF (by decide)
  have g5 : h4.2.1 1 5 = 12 := by rw [hR4]; rfl
  have g7 : h4.2.1 1 7 = 18 := by rw [hR4]; rfl
  have g8 : h4.2.1 1 8 = 21 := by rw [hR4]; rfl
  have g9 : h4.2.1 1 9 = 24 := by rw [hR4]; rfl
  have B := Bt.rf (h := h4) Z4
  refine ⟨⟨fun k => ⟨(B.2.1 _ (Nat.le_of_ble_eq_true rfl) k).1, (B.2.1 _ (Nat.le_of_ble_eq_true rfl) k).2.1⟩, by decide⟩, ?_⟩
  intro sh1 r1 e1 e2
  obtain rfl : sh1 = SH.take 49 := e1
  obtain rfl : r1 = 49 := e2
  have B := B.more (m := 49) (by decide) rfl
  refine ⟨rfl, ?_⟩
  refine ⟨rfl, ?_⟩
  refine ⟨41, _, by rw [g7, g9, g8]; exact B_X7_init_49 B.2.1, by decide, ?_⟩
  intro sh1 h1 B2; obtain rfl := B2.1; have B := B.go B2
  refine ⟨rfl, ?_⟩
  intro h1 e1; subst e1
  have B := B.setR 1 10 49 (by decide)
  have g5w : (wR h1 1 10 49).2.1 1 5 = 12 := by rw [B.2.2.1]; exact g5
  refine ⟨⟨fun k => ⟨(B.2.1 _ (Nat.le_of_ble_eq_true rfl) k).1, (B.2.1 _ (Nat.le_of_ble_eq_true rfl) k).2.1⟩, by decide⟩, ?_⟩
  intro sh1 r1 e1 e2
  obtain rfl : sh1 = SH.take 70 := e1
  obtain rfl : r1 = 70 := e2
  have B := B.more (m := 70) (by decide) rfl
  refine ⟨rfl, ?_⟩
  refine ⟨⟨fun k => ⟨(B.2.1 _ (Nat.le_of_ble_eq_true rfl) k).1, (B.2.1 _ (Nat.le_of_ble_eq_true rfl) k).2.1⟩, by decide⟩, ?_⟩
  intro sh1 r1 e1 e2
  obtain rfl : sh1 = SH.take 71 := e1
  obtain rfl : r1 = 71 := e2
  have B := B.more (m := 71) (by decide) rfl
  refine ⟨rfl, ?_⟩
  refine ⟨772, _, B_X0_init_71 B.2.1, by decide, ?_⟩
  intro sh1 h1 B2; obtain rfl := B2.1; have B := B.go B2
  refine ⟨⟨fun k => ⟨(B.2.1 _ (Nat.le_of_ble_eq_true rfl) k).1, (B.2.1 _ (Nat.le_of_ble_eq_true rfl) k).2.1⟩, by decide⟩, ?_⟩
  intro sh1 r1 e1 e2
  obtain rfl : sh1 = SH.take 74 := e1
  obtain rfl : r1 = 74 := e2
  have B := B.more (m := 74) (by decide) rfl
  refine ⟨rfl, ?_⟩
  refine ⟨8, _, B_X4_init_74 B.2.1, by decide, ?_⟩
  intro sh1 h1 B2; obtain rfl := B2.1; have B := B.go B2
  refine ⟨rfl, ?_⟩
  refine ⟨41, _, by rw [g5w]; exact B_X7_init_70 B.2.1, by decide, ?_⟩
  intro sh1 h1 B2; obtain rfl := B2.1; have B := B.go B2
  refine ⟨rfl, ?_⟩
  intro h1 e1; subst e1
  have B := B.setR 1 11 70 (by decide)
  refine ⟨rfl, B.1, B.2.1, by rw [B.2.2.1, hR4]; rfl, ?_⟩
  obtain ⟨he, ehe⟩ : ∃ z, z = wR h1 1 11 70 := ⟨_, rfl⟩
  rw [← ehe] at B ⊢
  have hRe : he.2.1 = uR (uR h.2.1 LX1) LX2 := by rw [B.2.2.1, hR4]; rfl
  have hIe : ∀ c, c ≠ 49 → c ≠ 70 → he.1 c = h4.1 c := fun c h49 h70 => by
    rw [B.2.2.2.1]
    funext j
    simp [uI, h49, h70]
  have hIz : ∀ c, 0 < c → c ∉ [12, 13, 14, 15, 16, 17, 18, 19, 20, 24, 25, 26] → c ≠ 49 → c ≠ 70 → ∀ k, he.1 c k = 0 := fun c h0 hs h49 h70 k => by rw [hIe c h49 h70, FF.2.2 c hs, hI]; exact (Z c h0 k).1
  have rz : ∀ r a N, shAt SH r = some (.inr 8) → shAt SH a = some (.inl (0, N)) → he.2.1 r 0 = a → N ≤ 40000 → 0 < r → r ∉ [12, 13, 14, 15, 16, 17, 18, 19, 20, 24, 25, 26] → r ≠ 49 → r ≠ 70 → RowV SH he r a N [] false := fun r a N q1 q2 q3 q4 q5 q6 q7 q8 => ⟨q1, q2, q3, q4, Nat.zero_le _, by rw [hIz r q5 q6 q7 q8]; rfl, fun j hj => absurd hj (Nat.not_lt_zero _), hIz r q5 q6 q7 q8 2⟩
  have tb : ∀ t r a, shAt SH t = some (.inr 10) → shAt SH r = some (.inr 8) → shAt SH a = some (.inl (0, 1536)) → TabS (SH.take 48) h4 t r a UBy → h4.1 t 1 = nI 4 → h4.1 t 2 = nI 3 → he.2.1 t 0 = r → he.2.1 r 0 = a → (t ≠ 49 ∧ t ≠ 70 ∧ r ≠ 49 ∧ r ≠ 70 ∧ a ≠ 49 ∧ a ≠ 70) → TabV he t r a (UBy, 4, 3) := fun t r a s1 s2 s3 T n1 n2 e1 e2 ne => by
    obtain ⟨q1, q2, ⟨p1, p2, p3, p4, p5, p6, p7, p8⟩, q4, q5, q6⟩ := T
    refine ⟨s1, e1, ⟨s2, s3, e2, p4, p5, by rw [hIe r ne.2.2.1 ne.2.2.2.1]; exact p6, fun j hj => by rw [hIe a ne.2.2.2.2.1 ne.2.2.2.2.2]; exact p7 j hj, by rw [hIe r ne.2.2.1 ne.2.2.2.1]; exact p8⟩, q4, by rw [hIe t ne.1 ne.2.1]; exact n1, by rw [hIe t ne.1 ne.2.1]; exact n2, by decide, by decide⟩
  have T1' : TabS (SH.take 48) h4 12 13 14 UBy := ⟨rfl, by rw [hR4]; rfl, ((T1.2.2.1.fr F2 (by decide) (by decide)).fr F3 (by decide) (by decide)).fr F4 (by decide) (by decide), T1.2.2.2⟩
  have T2' : TabS (SH.take 48) h4 15 16 17 UBy := ⟨rfl, by rw [hR4]; rfl, (T2.2.2.1.fr F3 (by decide) (by decide)).fr F4 (by decide) (by decide), T2.2.2.2⟩
  have T3' : TabS (SH.take 48) h4 18 19 20 UBy := ⟨rfl, by rw [hR4]; rfl, T3.2.2.1.fr F4 (by decide) (by decide), T3.2.2.2⟩
  have i12 : h4.1 12 = k1.1 12 := by rw [F4.2.2 12 (by decide), F3.2.2 12 (by decide), F2.2.2 12 (by decide)]
  have i15 : h4.1 15 = k2.1 15 := by rw [F4.2.2 15 (by decide), F3.2.2 15 (by decide)]
  have i18 : h4.1 18 = k3.1 18 := F4.2.2 18 (by decide)
  have M49 : ∀ k, he.1 49 k = uI h4.1 [(49, 12, (0 : Int32)), (49, 13, (-1 : Int32)), (49, 3, (6 : Int32)), (70, 12, (0 : Int32)), (70, 13, (-1 : Int32)), (70, 3, (4 : Int32))] 49 k := fun k => by rw [B.2.2.2.1]; rfl
  have M70 : ∀ k, he.1 70 k = uI h4.1 [(49, 12, (0 : Int32)), (49, 13, (-1 : Int32)), (49, 3, (6 : Int32)), (70, 12, (0 : Int32)), (70, 13, (-1 : Int32)), (70, 3, (4 : Int32))] 70 k := fun k => by rw [B.2.2.2.1]; rfl
  refine ⟨⟨2, 4, 6, by simp [PermR], by rw [hRe]; rfl, by rw [hRe]; rfl, by rw [hRe]; rfl, rz 2 3 8000 rfl rfl (by rw [hRe]; rfl) (by decide) (by decide) (by decide) (by decide) (by decide), rz 4 5 8000 rfl rfl (by rw [hRe]; rfl) (by decide) (by decide) (by decide) (by decide) (by decide), ⟨[], false, rz 6 7 8000 rfl rfl (by rw [hRe]; rfl) (by decide) (by decide) (by decide) (by decide) (by decide)⟩, rz 8 9 4000 rfl rfl (by rw [hRe]; rfl) (by decide) (by decide) (by decide) (by decide) (by decide)⟩, ?_⟩
  refine ⟨tb 12 13 14 rfl rfl rfl T1' (by rw [i12]; exact a1) (by rw [i12]; exact a2) (by rw [hRe]; rfl) (by rw [hRe]; rfl) (by decide), tb 15 16 17 rfl rfl rfl T2' (by rw [i15]; exact b1) (by rw [i15]; exact b2) (by rw [hRe]; rfl) (by rw [hRe]; rfl) (by decide), tb 18 19 20 rfl rfl rfl T3' (by rw [i18]; exact d1) (by rw [i18]; exact d2) (by rw [hRe]; rfl) (by rw [hRe]; rfl) (by decide), ⟨[], false, rz 10 11 2048 rfl rfl (by rw [hRe]; rfl) (by decide) (by decide) (by decide) (by decide) (by decide)⟩, ⟨fun j _ => ⟨hIz 22 (by decide) (by decide) (by decide) (by decide) j, trivial⟩, hIz 21 (by decide) (by decide) (by decide) (by decide) 2, by decide, fun i hi => absurd hi (Nat.not_lt_zero _)⟩, ⟨by rw [hIe 24 (by decide) (by decide)]; exact f4, by rw [hIe 24 (by decide) (by decide)]; exact f5, by decide, by decide, fun i hi => by rw [hIe 25 (by decide) (by decide)]; exact f1 i (Nat.lt_of_lt_of_le hi (by decide)), fun i hi => by rw [hIe 26 (by decide) (by decide)]; exact f2 i (Nat.lt_of_lt_of_le hi (by decide))⟩, (M49 13).trans rfl, (M49 3).trans rfl, (M70 3).trans rfl, ⟨[], false, rz 29 30 6048 rfl rfl (by rw [hRe]; rfl) (by decide) (by decide) (by decide) (by decide) (by decide)⟩, ⟨[], false, rz 43 44 2048 rfl rfl (by rw [hRe]; rfl) (by decide) (by decide) (by decide) (by decide) (by decide)⟩, ⟨[], false, rz 45 46 3072 rfl rfl (by rw [hRe]; rfl) (by decide) (by decide) (by decide) (by decide) (by decide)⟩, ⟨[], false, rz 47 48 2048 rfl rfl (by rw [hRe]; rfl) (by decide) (by decide) (by decide) (by decide) (by decide)⟩⟩
