/-! what each constructor makes, at its cells (printed by wip/whole/genbuilt.py) -/
set_option maxRecDepth 20000 in
theorem B_X8_init_2 {w : Wd} {h : Hp} (Z : Zr 2 h) : C_X8_init w (SH.take 2) 2 (8000 : Int32) h 8000 (fun sh1 h1 => Bt 3 h [(2, 0, 3)] [] sh1 h1) := by
  have B := Bt.rf (h := h) Z
  refine K_X8_init ?_
  refine ⟨rfl, ?_⟩
  refine ⟨8000, ⟨by decide, by decide, by decide, fun k => ⟨(B.2.1 _ (Nat.le_of_ble_eq_true rfl) k).1, (B.2.1 _ (Nat.le_of_ble_eq_true rfl) k).2.2⟩, by decide⟩, ?_⟩
  intro sh1 r1 e1 e2
  obtain rfl : sh1 = SH.take 3 := e1
  obtain rfl : r1 = 3 := e2
  have B := B.more (m := 3) (by decide) rfl
  refine ⟨rfl, ?_⟩
  intro h1 e1; subst e1
  have B := B.setR 2 0 3 (by decide)
  exact ⟨rfl, B⟩
set_option maxRecDepth 20000 in
theorem B_X8_init_4 {w : Wd} {h : Hp} (Z : Zr 4 h) : C_X8_init w (SH.take 4) 4 (8000 : Int32) h 8000 (fun sh1 h1 => Bt 5 h [(4, 0, 5)] [] sh1 h1) := by
  have B := Bt.rf (h := h) Z
  refine K_X8_init ?_
  refine ⟨rfl, ?_⟩
  refine ⟨8000, ⟨by decide, by decide, by decide, fun k => ⟨(B.2.1 _ (Nat.le_of_ble_eq_true rfl) k).1, (B.2.1 _ (Nat.le_of_ble_eq_true rfl) k).2.2⟩, by decide⟩, ?_⟩
  intro sh1 r1 e1 e2
  obtain rfl : sh1 = SH.take 5 := e1
  obtain rfl : r1 = 5 := e2
  have B := B.more (m := 5) (by decide) rfl
  refine ⟨rfl, ?_⟩
  intro h1 e1; subst e1
  have B := B.setR 4 0 5 (by decide)
  exact ⟨rfl, B⟩
set_option maxRecDepth 20000 in
theorem B_X8_init_6 {w : Wd} {h : Hp} (Z : Zr 6 h) : C_X8_init w (SH.take 6) 6 (8000 : Int32) h 8000 (fun sh1 h1 => Bt 7 h [(6, 0, 7)] [] sh1 h1) := by
  have B := Bt.rf (h := h) Z
  refine K_X8_init ?_
  refine ⟨rfl, ?_⟩
  refine ⟨8000, ⟨by decide, by decide, by decide, fun k => ⟨(B.2.1 _ (Nat.le_of_ble_eq_true rfl) k).1, (B.2.1 _ (Nat.le_of_ble_eq_true rfl) k).2.2⟩, by decide⟩, ?_⟩
  intro sh1 r1 e1 e2
  obtain rfl : sh1 = SH.take 7 := e1
  obtain rfl : r1 = 7 := e2
  have B := B.more (m := 7) (by decide) rfl
  refine ⟨rfl, ?_⟩
  intro h1 e1; subst e1
  have B := B.setR 6 0 7 (by decide)
  exact ⟨rfl, B⟩
set_option maxRecDepth 20000 in
theorem B_X8_init_8 {w : Wd} {h : Hp} (Z : Zr 8 h) : C_X8_init w (SH.take 8) 8 (4000 : Int32) h 4000 (fun sh1 h1 => Bt 9 h [(8, 0, 9)] [] sh1 h1) := by
  have B := Bt.rf (h := h) Z
  refine K_X8_init ?_
  refine ⟨rfl, ?_⟩
  refine ⟨4000, ⟨by decide, by decide, by decide, fun k => ⟨(B.2.1 _ (Nat.le_of_ble_eq_true rfl) k).1, (B.2.1 _ (Nat.le_of_ble_eq_true rfl) k).2.2⟩, by decide⟩, ?_⟩
  intro sh1 r1 e1 e2
  obtain rfl : sh1 = SH.take 9 := e1
  obtain rfl : r1 = 9 := e2
  have B := B.more (m := 9) (by decide) rfl
  refine ⟨rfl, ?_⟩
  intro h1 e1; subst e1
  have B := B.setR 8 0 9 (by decide)
  exact ⟨rfl, B⟩
set_option maxRecDepth 20000 in
theorem B_X8_init_10 {w : Wd} {h : Hp} (Z : Zr 10 h) : C_X8_init w (SH.take 10) 10 (2048 : Int32) h 2048 (fun sh1 h1 => Bt 11 h [(10, 0, 11)] [] sh1 h1) := by
  have B := Bt.rf (h := h) Z
  refine K_X8_init ?_
  refine ⟨rfl, ?_⟩
  refine ⟨2048, ⟨by decide, by decide, by decide, fun k => ⟨(B.2.1 _ (Nat.le_of_ble_eq_true rfl) k).1, (B.2.1 _ (Nat.le_of_ble_eq_true rfl) k).2.2⟩, by decide⟩, ?_⟩
  intro sh1 r1 e1 e2
  obtain rfl : sh1 = SH.take 11 := e1
  obtain rfl : r1 = 11 := e2
  have B := B.more (m := 11) (by decide) rfl
  refine ⟨rfl, ?_⟩
  intro h1 e1; subst e1
  have B := B.setR 10 0 11 (by decide)
  exact ⟨rfl, B⟩
set_option maxRecDepth 20000 in
theorem B_X8_init_13 {w : Wd} {h : Hp} (Z : Zr 13 h) : C_X8_init w (SH.take 13) 13 (1536 : Int32) h 1536 (fun sh1 h1 => Bt 14 h [(13, 0, 14)] [] sh1 h1) := by
  have B := Bt.rf (h := h) Z
  refine K_X8_init ?_
  refine ⟨rfl, ?_⟩
  refine ⟨1536, ⟨by decide, by decide, by decide, fun k => ⟨(B.2.1 _ (Nat.le_of_ble_eq_true rfl) k).1, (B.2.1 _ (Nat.le_of_ble_eq_true rfl) k).2.2⟩, by decide⟩, ?_⟩
  intro sh1 r1 e1 e2
  obtain rfl : sh1 = SH.take 14 := e1
  obtain rfl : r1 = 14 := e2
  have B := B.more (m := 14) (by decide) rfl
  refine ⟨rfl, ?_⟩
  intro h1 e1; subst e1
  have B := B.setR 13 0 14 (by decide)
  exact ⟨rfl, B⟩
set_option maxRecDepth 20000 in
theorem B_X10_init_12 {w : Wd} {h : Hp} (Z : Zr 12 h) : C_X10_init w (SH.take 12) 12  h 1539 (fun sh1 h1 => Bt 14 h [(13, 0, 14), (12, 0, 13)] [] sh1 h1) := by
  have B := Bt.rf (h := h) Z
  refine K_X10_init ?_
  refine ⟨rfl, ?_⟩
  refine ⟨⟨fun k => ⟨(B.2.1 _ (Nat.le_of_ble_eq_true rfl) k).1, (B.2.1 _ (Nat.le_of_ble_eq_true rfl) k).2.1⟩, by decide⟩, ?_⟩
  intro sh1 r1 e1 e2
  obtain rfl : sh1 = SH.take 13 := e1
  obtain rfl : r1 = 13 := e2
  have B := B.more (m := 13) (by decide) rfl
  refine ⟨rfl, ?_⟩
  refine ⟨1536, _, B_X8_init_13 B.2.1, by decide, ?_⟩
  intro sh1 h1 B2; obtain rfl := B2.1; have B := B.go B2
  refine ⟨rfl, ?_⟩
  intro h1 e1; subst e1
  have B := B.setR 12 0 13 (by decide)
  exact ⟨rfl, B⟩
set_option maxRecDepth 20000 in
theorem B_X8_init_16 {w : Wd} {h : Hp} (Z : Zr 16 h) : C_X8_init w (SH.take 16) 16 (1536 : Int32) h 1536 (fun sh1 h1 => Bt 17 h [(16, 0, 17)] [] sh1 h1) := by
  have B := Bt.rf (h := h) Z
  refine K_X8_init ?_
  refine ⟨rfl, ?_⟩
  refine ⟨1536, ⟨by decide, by decide, by decide, fun k => ⟨(B.2.1 _ (Nat.le_of_ble_eq_true rfl) k).1, (B.2.1 _ (Nat.le_of_ble_eq_true rfl) k).2.2⟩, by decide⟩, ?_⟩
  intro sh1 r1 e1 e2
  obtain rfl : sh1 = SH.take 17 := e1
  obtain rfl : r1 = 17 := e2
  have B := B.more (m := 17) (by decide) rfl
  refine ⟨rfl, ?_⟩
  intro h1 e1; subst e1
  have B := B.setR 16 0 17 (by decide)
  exact ⟨rfl, B⟩
set_option maxRecDepth 20000 in
theorem B_X10_init_15 {w : Wd} {h : Hp} (Z : Zr 15 h) : C_X10_init w (SH.take 15) 15  h 1539 (fun sh1 h1 => Bt 17 h [(16, 0, 17), (15, 0, 16)] [] sh1 h1) := by
  have B := Bt.rf (h := h) Z
  refine K_X10_init ?_
  refine ⟨rfl, ?_⟩
  refine ⟨⟨fun k => ⟨(B.2.1 _ (Nat.le_of_ble_eq_true rfl) k).1, (B.2.1 _ (Nat.le_of_ble_eq_true rfl) k).2.1⟩, by decide⟩, ?_⟩
  intro sh1 r1 e1 e2
  obtain rfl : sh1 = SH.take 16 := e1
  obtain rfl : r1 = 16 := e2
  have B := B.more (m := 16) (by decide) rfl
  refine ⟨rfl, ?_⟩
  refine ⟨1536, _, B_X8_init_16 B.2.1, by decide, ?_⟩
  intro sh1 h1 B2; obtain rfl := B2.1; have B := B.go B2
  refine ⟨rfl, ?_⟩
  intro h1 e1; subst e1
  have B := B.setR 15 0 16 (by decide)
  exact ⟨rfl, B⟩
set_option maxRecDepth 20000 in
theorem B_X8_init_19 {w : Wd} {h : Hp} (Z : Zr 19 h) : C_X8_init w (SH.take 19) 19 (1536 : Int32) h 1536 (fun sh1 h1 => Bt 20 h [(19, 0, 20)] [] sh1 h1) := by
  have B := Bt.rf (h := h) Z
  refine K_X8_init ?_
  refine ⟨rfl, ?_⟩
  refine ⟨1536, ⟨by decide, by decide, by decide, fun k => ⟨(B.2.1 _ (Nat.le_of_ble_eq_true rfl) k).1, (B.2.1 _ (Nat.le_of_ble_eq_true rfl) k).2.2⟩, by decide⟩, ?_⟩
  intro sh1 r1 e1 e2
  obtain rfl : sh1 = SH.take 20 := e1
  obtain rfl : r1 = 20 := e2
  have B := B.more (m := 20) (by decide) rfl
  refine ⟨rfl, ?_⟩
  intro h1 e1; subst e1
  have B := B.setR 19 0 20 (by decide)
  exact ⟨rfl, B⟩
set_option maxRecDepth 20000 in
theorem B_X10_init_18 {w : Wd} {h : Hp} (Z : Zr 18 h) : C_X10_init w (SH.take 18) 18  h 1539 (fun sh1 h1 => Bt 20 h [(19, 0, 20), (18, 0, 19)] [] sh1 h1) := by
  have B := Bt.rf (h := h) Z
  refine K_X10_init ?_
  refine ⟨rfl, ?_⟩
  refine ⟨⟨fun k => ⟨(B.2.1 _ (Nat.le_of_ble_eq_true rfl) k).1, (B.2.1 _ (Nat.le_of_ble_eq_true rfl) k).2.1⟩, by decide⟩, ?_⟩
  intro sh1 r1 e1 e2
  obtain rfl : sh1 = SH.take 19 := e1
  obtain rfl : r1 = 19 := e2
  have B := B.more (m := 19) (by decide) rfl
  refine ⟨rfl, ?_⟩
  refine ⟨1536, _, B_X8_init_19 B.2.1, by decide, ?_⟩
  intro sh1 h1 B2; obtain rfl := B2.1; have B := B.go B2
  refine ⟨rfl, ?_⟩
  intro h1 e1; subst e1
  have B := B.setR 18 0 19 (by decide)
  exact ⟨rfl, B⟩
set_option maxRecDepth 20000 in
theorem B_X4_init_21 {w : Wd} {h : Hp} (Z : Zr 21 h) : C_X4_init w (SH.take 21) 21 (2000 : Int32) h 8008 (fun sh1 h1 => Bt 23 h [(21, 0, 22), (21, 1, 23)] [] sh1 h1) := by
  have B := Bt.rf (h := h) Z
  refine K_X4_init ?_
  refine ⟨rfl, ?_⟩
  refine ⟨8, ⟨by decide, by decide, by decide, fun k => ⟨(B.2.1 _ (Nat.le_of_ble_eq_true rfl) k).1, (B.2.1 _ (Nat.le_of_ble_eq_true rfl) k).2.2⟩, by decide⟩, ?_⟩
  intro sh1 r1 e1 e2
  obtain rfl : sh1 = SH.take 22 := e1
  obtain rfl : r1 = 22 := e2
  have B := B.more (m := 22) (by decide) rfl
  refine ⟨rfl, ?_⟩
  intro h1 e1; subst e1
  have B := B.setR 21 0 22 (by decide)
  refine ⟨8000, ⟨by decide, by decide, by decide, fun k => ⟨(B.2.1 _ (Nat.le_of_ble_eq_true rfl) k).1, (B.2.1 _ (Nat.le_of_ble_eq_true rfl) k).2.2⟩, by decide⟩, ?_⟩
  intro sh1 r1 e1 e2
  obtain rfl : sh1 = SH.take 23 := e1
  obtain rfl : r1 = 23 := e2
  have B := B.more (m := 23) (by decide) rfl
  refine ⟨rfl, ?_⟩
  intro h1 e1; subst e1
  have B := B.setR 21 1 23 (by decide)
  exact ⟨rfl, B⟩
set_option maxRecDepth 20000 in
theorem B_X0_init_24 {w : Wd} {h : Hp} (Z : Zr 24 h) : C_X0_init w (SH.take 24) 24 (32 : Int32) (16 : Int32) h 4128 (fun sh1 h1 => Bt 26 h [(24, 0, 25), (24, 1, 26)] [] sh1 h1) := by
  have B := Bt.rf (h := h) Z
  refine K_X0_init ?_
  refine ⟨rfl, ?_⟩
  refine ⟨32, ⟨by decide, by decide, by decide, fun k => ⟨(B.2.1 _ (Nat.le_of_ble_eq_true rfl) k).1, (B.2.1 _ (Nat.le_of_ble_eq_true rfl) k).2.2⟩, by decide⟩, ?_⟩
  intro sh1 r1 e1 e2
  obtain rfl : sh1 = SH.take 25 := e1
  obtain rfl : r1 = 25 := e2
  have B := B.more (m := 25) (by decide) rfl
  refine ⟨rfl, ?_⟩
  intro h1 e1; subst e1
  have B := B.setR 24 0 25 (by decide)
  refine ⟨4096, ⟨by decide, by decide, by decide, fun k => ⟨(B.2.1 _ (Nat.le_of_ble_eq_true rfl) k).1, (B.2.1 _ (Nat.le_of_ble_eq_true rfl) k).2.2⟩, by decide⟩, ?_⟩
  intro sh1 r1 e1 e2
  obtain rfl : sh1 = SH.take 26 := e1
  obtain rfl : r1 = 26 := e2
  have B := B.more (m := 26) (by decide) rfl
  refine ⟨rfl, ?_⟩
  intro h1 e1; subst e1
  have B := B.setR 24 1 26 (by decide)
  exact ⟨rfl, B⟩
set_option maxRecDepth 20000 in
theorem B_X8_init_29 {w : Wd} {h : Hp} (Z : Zr 29 h) : C_X8_init w (SH.take 29) 29 (6048 : Int32) h 6048 (fun sh1 h1 => Bt 30 h [(29, 0, 30)] [] sh1 h1) := by
  have B := Bt.rf (h := h) Z
  refine K_X8_init ?_
  refine ⟨rfl, ?_⟩
  refine ⟨6048, ⟨by decide, by decide, by decide, fun k => ⟨(B.2.1 _ (Nat.le_of_ble_eq_true rfl) k).1, (B.2.1 _ (Nat.le_of_ble_eq_true rfl) k).2.2⟩, by decide⟩, ?_⟩
  intro sh1 r1 e1 e2
  obtain rfl : sh1 = SH.take 30 := e1
  obtain rfl : r1 = 30 := e2
  have B := B.more (m := 30) (by decide) rfl
  refine ⟨rfl, ?_⟩
  intro h1 e1; subst e1
  have B := B.setR 29 0 30 (by decide)
  exact ⟨rfl, B⟩
set_option maxRecDepth 20000 in
theorem B_X3_init_28 {w : Wd} {h : Hp} (Z : Zr 28 h) : C_X3_init w (SH.take 28) 28  h 13123 (fun sh1 h1 => Bt 32 h [(29, 0, 30), (28, 0, 29), (28, 1, 31), (28, 2, 32)] [] sh1 h1) := by
  have B := Bt.rf (h := h) Z
  refine K_X3_init ?_
  refine ⟨rfl, ?_⟩
  refine ⟨⟨fun k => ⟨(B.2.1 _ (Nat.le_of_ble_eq_true rfl) k).1, (B.2.1 _ (Nat.le_of_ble_eq_true rfl) k).2.1⟩, by decide⟩, ?_⟩
  intro sh1 r1 e1 e2
  obtain rfl : sh1 = SH.take 29 := e1
  obtain rfl : r1 = 29 := e2
  have B := B.more (m := 29) (by decide) rfl
  refine ⟨rfl, ?_⟩
  refine ⟨6048, _, B_X8_init_29 B.2.1, by decide, ?_⟩
  intro sh1 h1 B2; obtain rfl := B2.1; have B := B.go B2
  refine ⟨rfl, ?_⟩
  intro h1 e1; subst e1
  have B := B.setR 28 0 29 (by decide)
  refine ⟨1024, ⟨by decide, by decide, by decide, fun k => ⟨(B.2.1 _ (Nat.le_of_ble_eq_true rfl) k).1, (B.2.1 _ (Nat.le_of_ble_eq_true rfl) k).2.2⟩, by decide⟩, ?_⟩
  intro sh1 r1 e1 e2
  obtain rfl : sh1 = SH.take 31 := e1
  obtain rfl : r1 = 31 := e2
  have B := B.more (m := 31) (by decide) rfl
  refine ⟨rfl, ?_⟩
  intro h1 e1; subst e1
  have B := B.setR 28 1 31 (by decide)
  refine ⟨6048, ⟨by decide, by decide, by decide, fun k => ⟨(B.2.1 _ (Nat.le_of_ble_eq_true rfl) k).1, (B.2.1 _ (Nat.le_of_ble_eq_true rfl) k).2.2⟩, by decide⟩, ?_⟩
  intro sh1 r1 e1 e2
  obtain rfl : sh1 = SH.take 32 := e1
  obtain rfl : r1 = 32 := e2
  have B := B.more (m := 32) (by decide) rfl
  refine ⟨rfl, ?_⟩
  intro h1 e1; subst e1
  have B := B.setR 28 2 32 (by decide)
  exact ⟨rfl, B⟩
set_option maxRecDepth 20000 in
theorem B_X6_init_33 {w : Wd} {h : Hp} (Z : Zr 33 h) : C_X6_init w (SH.take 33) 33  h 3072 (fun sh1 h1 => Bt 36 h [(33, 0, 34), (33, 1, 35), (33, 2, 36)] [] sh1 h1) := by
  have B := Bt.rf (h := h) Z
  refine K_X6_init ?_
  refine ⟨rfl, ?_⟩
  refine ⟨1024, ⟨by decide, by decide, by decide, fun k => ⟨(B.2.1 _ (Nat.le_of_ble_eq_true rfl) k).1, (B.2.1 _ (Nat.le_of_ble_eq_true rfl) k).2.2⟩, by decide⟩, ?_⟩
  intro sh1 r1 e1 e2
  obtain rfl : sh1 = SH.take 34 := e1
  obtain rfl : r1 = 34 := e2
  have B := B.more (m := 34) (by decide) rfl
  refine ⟨rfl, ?_⟩
  intro h1 e1; subst e1
  have B := B.setR 33 0 34 (by decide)
  refine ⟨1024, ⟨by decide, by decide, by decide, fun k => ⟨(B.2.1 _ (Nat.le_of_ble_eq_true rfl) k).1, (B.2.1 _ (Nat.le_of_ble_eq_true rfl) k).2.2⟩, by decide⟩, ?_⟩
  intro sh1 r1 e1 e2
  obtain rfl : sh1 = SH.take 35 := e1
  obtain rfl : r1 = 35 := e2
  have B := B.more (m := 35) (by decide) rfl
  refine ⟨rfl, ?_⟩
  intro h1 e1; subst e1
  have B := B.setR 33 1 35 (by decide)
  refine ⟨1024, ⟨by decide, by decide, by decide, fun k => ⟨(B.2.1 _ (Nat.le_of_ble_eq_true rfl) k).1, (B.2.1 _ (Nat.le_of_ble_eq_true rfl) k).2.2⟩, by decide⟩, ?_⟩
  intro sh1 r1 e1 e2
  obtain rfl : sh1 = SH.take 36 := e1
  obtain rfl : r1 = 36 := e2
  have B := B.more (m := 36) (by decide) rfl
  refine ⟨rfl, ?_⟩
  intro h1 e1; subst e1
  have B := B.setR 33 2 36 (by decide)
  exact ⟨rfl, B⟩
set_option maxRecDepth 20000 in
theorem B_X1_init_37 {w : Wd} {h : Hp} (Z : Zr 37 h) : C_X1_init w (SH.take 37) 37  h 512 (fun sh1 h1 => Bt 39 h [(37, 0, 38), (37, 1, 39)] [] sh1 h1) := by
  have B := Bt.rf (h := h) Z
  refine K_X1_init ?_
  refine ⟨rfl, ?_⟩
  refine ⟨256, ⟨by decide, by decide, by decide, fun k => ⟨(B.2.1 _ (Nat.le_of_ble_eq_true rfl) k).1, (B.2.1 _ (Nat.le_of_ble_eq_true rfl) k).2.2⟩, by decide⟩, ?_⟩
  intro sh1 r1 e1 e2
  obtain rfl : sh1 = SH.take 38 := e1
  obtain rfl : r1 = 38 := e2
  have B := B.more (m := 38) (by decide) rfl
  refine ⟨rfl, ?_⟩
  intro h1 e1; subst e1
  have B := B.setR 37 0 38 (by decide)
  refine ⟨256, ⟨by decide, by decide, by decide, fun k => ⟨(B.2.1 _ (Nat.le_of_ble_eq_true rfl) k).1, (B.2.1 _ (Nat.le_of_ble_eq_true rfl) k).2.2⟩, by decide⟩, ?_⟩
  intro sh1 r1 e1 e2
  obtain rfl : sh1 = SH.take 39 := e1
  obtain rfl : r1 = 39 := e2
  have B := B.more (m := 39) (by decide) rfl
  refine ⟨rfl, ?_⟩
  intro h1 e1; subst e1
  have B := B.setR 37 1 39 (by decide)
  exact ⟨rfl, B⟩
set_option maxRecDepth 20000 in
theorem B_X0_init_40 {w : Wd} {h : Hp} (Z : Zr 40 h) : C_X0_init w (SH.take 40) 40 (32 : Int32) (16 : Int32) h 4128 (fun sh1 h1 => Bt 42 h [(40, 0, 41), (40, 1, 42)] [] sh1 h1) := by
  have B := Bt.rf (h := h) Z
  refine K_X0_init ?_
  refine ⟨rfl, ?_⟩
  refine ⟨32, ⟨by decide, by decide, by decide, fun k => ⟨(B.2.1 _ (Nat.le_of_ble_eq_true rfl) k).1, (B.2.1 _ (Nat.le_of_ble_eq_true rfl) k).2.2⟩, by decide⟩, ?_⟩
  intro sh1 r1 e1 e2
  obtain rfl : sh1 = SH.take 41 := e1
  obtain rfl : r1 = 41 := e2
  have B := B.more (m := 41) (by decide) rfl
  refine ⟨rfl, ?_⟩
  intro h1 e1; subst e1
  have B := B.setR 40 0 41 (by decide)
  refine ⟨4096, ⟨by decide, by decide, by decide, fun k => ⟨(B.2.1 _ (Nat.le_of_ble_eq_true rfl) k).1, (B.2.1 _ (Nat.le_of_ble_eq_true rfl) k).2.2⟩, by decide⟩, ?_⟩
  intro sh1 r1 e1 e2
  obtain rfl : sh1 = SH.take 42 := e1
  obtain rfl : r1 = 42 := e2
  have B := B.more (m := 42) (by decide) rfl
  refine ⟨rfl, ?_⟩
  intro h1 e1; subst e1
  have B := B.setR 40 1 42 (by decide)
  exact ⟨rfl, B⟩
set_option maxRecDepth 20000 in
theorem B_X8_init_43 {w : Wd} {h : Hp} (Z : Zr 43 h) : C_X8_init w (SH.take 43) 43 (2048 : Int32) h 2048 (fun sh1 h1 => Bt 44 h [(43, 0, 44)] [] sh1 h1) := by
  have B := Bt.rf (h := h) Z
  refine K_X8_init ?_
  refine ⟨rfl, ?_⟩
  refine ⟨2048, ⟨by decide, by decide, by decide, fun k => ⟨(B.2.1 _ (Nat.le_of_ble_eq_true rfl) k).1, (B.2.1 _ (Nat.le_of_ble_eq_true rfl) k).2.2⟩, by decide⟩, ?_⟩
  intro sh1 r1 e1 e2
  obtain rfl : sh1 = SH.take 44 := e1
  obtain rfl : r1 = 44 := e2
  have B := B.more (m := 44) (by decide) rfl
  refine ⟨rfl, ?_⟩
  intro h1 e1; subst e1
  have B := B.setR 43 0 44 (by decide)
  exact ⟨rfl, B⟩
set_option maxRecDepth 20000 in
theorem B_X8_init_45 {w : Wd} {h : Hp} (Z : Zr 45 h) : C_X8_init w (SH.take 45) 45 (3072 : Int32) h 3072 (fun sh1 h1 => Bt 46 h [(45, 0, 46)] [] sh1 h1) := by
  have B := Bt.rf (h := h) Z
  refine K_X8_init ?_
  refine ⟨rfl, ?_⟩
  refine ⟨3072, ⟨by decide, by decide, by decide, fun k => ⟨(B.2.1 _ (Nat.le_of_ble_eq_true rfl) k).1, (B.2.1 _ (Nat.le_of_ble_eq_true rfl) k).2.2⟩, by decide⟩, ?_⟩
  intro sh1 r1 e1 e2
  obtain rfl : sh1 = SH.take 46 := e1
  obtain rfl : r1 = 46 := e2
  have B := B.more (m := 46) (by decide) rfl
  refine ⟨rfl, ?_⟩
  intro h1 e1; subst e1
  have B := B.setR 45 0 46 (by decide)
  exact ⟨rfl, B⟩
set_option maxRecDepth 20000 in
theorem B_X8_init_47 {w : Wd} {h : Hp} (Z : Zr 47 h) : C_X8_init w (SH.take 47) 47 (2048 : Int32) h 2048 (fun sh1 h1 => Bt 48 h [(47, 0, 48)] [] sh1 h1) := by
  have B := Bt.rf (h := h) Z
  refine K_X8_init ?_
  refine ⟨rfl, ?_⟩
  refine ⟨2048, ⟨by decide, by decide, by decide, fun k => ⟨(B.2.1 _ (Nat.le_of_ble_eq_true rfl) k).1, (B.2.1 _ (Nat.le_of_ble_eq_true rfl) k).2.2⟩, by decide⟩, ?_⟩
  intro sh1 r1 e1 e2
  obtain rfl : sh1 = SH.take 48 := e1
  obtain rfl : r1 = 48 := e2
  have B := B.more (m := 48) (by decide) rfl
  refine ⟨rfl, ?_⟩
  intro h1 e1; subst e1
  have B := B.setR 47 0 48 (by decide)
  exact ⟨rfl, B⟩
set_option maxRecDepth 20000 in
theorem B_X5_init_27 {w : Wd} {h : Hp} (Z : Zr 27 h) : C_X5_init w (SH.take 27) 27  h 28029 (fun sh1 h1 => Bt 48 h [(29, 0, 30), (28, 0, 29), (28, 1, 31), (28, 2, 32), (27, 0, 28), (33, 0, 34), (33, 1, 35), (33, 2, 36), (27, 1, 33), (37, 0, 38), (37, 1, 39), (27, 2, 37), (40, 0, 41), (40, 1, 42), (27, 3, 40), (43, 0, 44), (27, 4, 43), (45, 0, 46), (27, 5, 45), (47, 0, 48), (27, 6, 47)] [] sh1 h1) := by
  have B := Bt.rf (h := h) Z
  refine K_X5_init ?_
  refine ⟨rfl, ?_⟩
  refine ⟨⟨fun k => ⟨(B.2.1 _ (Nat.le_of_ble_eq_true rfl) k).1, (B.2.1 _ (Nat.le_of_ble_eq_true rfl) k).2.1⟩, by decide⟩, ?_⟩
  intro sh1 r1 e1 e2
  obtain rfl : sh1 = SH.take 28 := e1
  obtain rfl : r1 = 28 := e2
  have B := B.more (m := 28) (by decide) rfl
  refine ⟨rfl, ?_⟩
  refine ⟨13123, _, B_X3_init_28 B.2.1, by decide, ?_⟩
  intro sh1 h1 B2; obtain rfl := B2.1; have B := B.go B2
  refine ⟨rfl, ?_⟩
  intro h1 e1; subst e1
  have B := B.setR 27 0 28 (by decide)
  refine ⟨⟨fun k => ⟨(B.2.1 _ (Nat.le_of_ble_eq_true rfl) k).1, (B.2.1 _ (Nat.le_of_ble_eq_true rfl) k).2.1⟩, by decide⟩, ?_⟩
  intro sh1 r1 e1 e2
  obtain rfl : sh1 = SH.take 33 := e1
  obtain rfl : r1 = 33 := e2
  have B := B.more (m := 33) (by decide) rfl
  refine ⟨rfl, ?_⟩
  refine ⟨3072, _, B_X6_init_33 B.2.1, by decide, ?_⟩
  intro sh1 h1 B2; obtain rfl := B2.1; have B := B.go B2
  refine ⟨rfl, ?_⟩
  intro h1 e1; subst e1
  have B := B.setR 27 1 33 (by decide)
  refine ⟨⟨fun k => ⟨(B.2.1 _ (Nat.le_of_ble_eq_true rfl) k).1, (B.2.1 _ (Nat.le_of_ble_eq_true rfl) k).2.1⟩, by decide⟩, ?_⟩
  intro sh1 r1 e1 e2
  obtain rfl : sh1 = SH.take 37 := e1
  obtain rfl : r1 = 37 := e2
  have B := B.more (m := 37) (by decide) rfl
  refine ⟨rfl, ?_⟩
  refine ⟨512, _, B_X1_init_37 B.2.1, by decide, ?_⟩
  intro sh1 h1 B2; obtain rfl := B2.1; have B := B.go B2
  refine ⟨rfl, ?_⟩
  intro h1 e1; subst e1
  have B := B.setR 27 2 37 (by decide)
  refine ⟨⟨fun k => ⟨(B.2.1 _ (Nat.le_of_ble_eq_true rfl) k).1, (B.2.1 _ (Nat.le_of_ble_eq_true rfl) k).2.1⟩, by decide⟩, ?_⟩
  intro sh1 r1 e1 e2
  obtain rfl : sh1 = SH.take 40 := e1
  obtain rfl : r1 = 40 := e2
  have B := B.more (m := 40) (by decide) rfl
  refine ⟨rfl, ?_⟩
  refine ⟨4128, _, B_X0_init_40 B.2.1, by decide, ?_⟩
  intro sh1 h1 B2; obtain rfl := B2.1; have B := B.go B2
  refine ⟨rfl, ?_⟩
  intro h1 e1; subst e1
  have B := B.setR 27 3 40 (by decide)
  refine ⟨⟨fun k => ⟨(B.2.1 _ (Nat.le_of_ble_eq_true rfl) k).1, (B.2.1 _ (Nat.le_of_ble_eq_true rfl) k).2.1⟩, by decide⟩, ?_⟩
  intro sh1 r1 e1 e2
  obtain rfl : sh1 = SH.take 43 := e1
  obtain rfl : r1 = 43 := e2
  have B := B.more (m := 43) (by decide) rfl
  refine ⟨rfl, ?_⟩
  refine ⟨2048, _, B_X8_init_43 B.2.1, by decide, ?_⟩
  intro sh1 h1 B2; obtain rfl := B2.1; have B := B.go B2
  refine ⟨rfl, ?_⟩
  intro h1 e1; subst e1
  have B := B.setR 27 4 43 (by decide)
  refine ⟨⟨fun k => ⟨(B.2.1 _ (Nat.le_of_ble_eq_true rfl) k).1, (B.2.1 _ (Nat.le_of_ble_eq_true rfl) k).2.1⟩, by decide⟩, ?_⟩
  intro sh1 r1 e1 e2
  obtain rfl : sh1 = SH.take 45 := e1
  obtain rfl : r1 = 45 := e2
  have B := B.more (m := 45) (by decide) rfl
  refine ⟨rfl, ?_⟩
  refine ⟨3072, _, B_X8_init_45 B.2.1, by decide, ?_⟩
  intro sh1 h1 B2; obtain rfl := B2.1; have B := B.go B2
  refine ⟨rfl, ?_⟩
  intro h1 e1; subst e1
  have B := B.setR 27 5 45 (by decide)
  refine ⟨⟨fun k => ⟨(B.2.1 _ (Nat.le_of_ble_eq_true rfl) k).1, (B.2.1 _ (Nat.le_of_ble_eq_true rfl) k).2.1⟩, by decide⟩, ?_⟩
  intro sh1 r1 e1 e2
  obtain rfl : sh1 = SH.take 47 := e1
  obtain rfl : r1 = 47 := e2
  have B := B.more (m := 47) (by decide) rfl
  refine ⟨rfl, ?_⟩
  refine ⟨2048, _, B_X8_init_47 B.2.1, by decide, ?_⟩
  intro sh1 h1 B2; obtain rfl := B2.1; have B := B.go B2
  refine ⟨rfl, ?_⟩
  intro h1 e1; subst e1
  have B := B.setR 27 6 47 (by decide)
  exact ⟨rfl, B⟩
set_option maxRecDepth 20000 in
theorem B_X8_init_51 {w : Wd} {h : Hp} (Z : Zr 51 h) : C_X8_init w (SH.take 51) 51 (0 : Int32) h 0 (fun sh1 h1 => Bt 52 h [(51, 0, 52)] [] sh1 h1) := by
  have B := Bt.rf (h := h) Z
  refine K_X8_init ?_
  refine ⟨rfl, ?_⟩
  refine ⟨0, ⟨by decide, by decide, by decide, fun k => ⟨(B.2.1 _ (Nat.le_of_ble_eq_true rfl) k).1, (B.2.1 _ (Nat.le_of_ble_eq_true rfl) k).2.2⟩, by decide⟩, ?_⟩
  intro sh1 r1 e1 e2
  obtain rfl : sh1 = SH.take 52 := e1
  obtain rfl : r1 = 52 := e2
  have B := B.more (m := 52) (by decide) rfl
  refine ⟨rfl, ?_⟩
  intro h1 e1; subst e1
  have B := B.setR 51 0 52 (by decide)
  exact ⟨rfl, B⟩
set_option maxRecDepth 20000 in
theorem B_X2_init_50 {w : Wd} {h : Hp} (Z : Zr 50 h) : C_X2_init w (SH.take 50) 50  h 3 (fun sh1 h1 => Bt 52 h [(51, 0, 52), (50, 0, 51)] [] sh1 h1) := by
  have B := Bt.rf (h := h) Z
  refine K_X2_init ?_
  refine ⟨rfl, ?_⟩
  refine ⟨⟨fun k => ⟨(B.2.1 _ (Nat.le_of_ble_eq_true rfl) k).1, (B.2.1 _ (Nat.le_of_ble_eq_true rfl) k).2.1⟩, by decide⟩, ?_⟩
  intro sh1 r1 e1 e2
  obtain rfl : sh1 = SH.take 51 := e1
  obtain rfl : r1 = 51 := e2
  have B := B.more (m := 51) (by decide) rfl
  refine ⟨rfl, ?_⟩
  refine ⟨0, _, B_X8_init_51 B.2.1, by decide, ?_⟩
  intro sh1 h1 B2; obtain rfl := B2.1; have B := B.go B2
  refine ⟨rfl, ?_⟩
  intro h1 e1; subst e1
  have B := B.setR 50 0 51 (by decide)
  exact ⟨rfl, B⟩
set_option maxRecDepth 20000 in
theorem B_X8_init_54 {w : Wd} {h : Hp} (Z : Zr 54 h) : C_X8_init w (SH.take 54) 54 (0 : Int32) h 0 (fun sh1 h1 => Bt 55 h [(54, 0, 55)] [] sh1 h1) := by
  have B := Bt.rf (h := h) Z
  refine K_X8_init ?_
  refine ⟨rfl, ?_⟩
  refine ⟨0, ⟨by decide, by decide, by decide, fun k => ⟨(B.2.1 _ (Nat.le_of_ble_eq_true rfl) k).1, (B.2.1 _ (Nat.le_of_ble_eq_true rfl) k).2.2⟩, by decide⟩, ?_⟩
  intro sh1 r1 e1 e2
  obtain rfl : sh1 = SH.take 55 := e1
  obtain rfl : r1 = 55 := e2
  have B := B.more (m := 55) (by decide) rfl
  refine ⟨rfl, ?_⟩
  intro h1 e1; subst e1
  have B := B.setR 54 0 55 (by decide)
  exact ⟨rfl, B⟩
set_option maxRecDepth 20000 in
theorem B_X2_init_53 {w : Wd} {h : Hp} (Z : Zr 53 h) : C_X2_init w (SH.take 53) 53  h 3 (fun sh1 h1 => Bt 55 h [(54, 0, 55), (53, 0, 54)] [] sh1 h1) := by
  have B := Bt.rf (h := h) Z
  refine K_X2_init ?_
  refine ⟨rfl, ?_⟩
  refine ⟨⟨fun k => ⟨(B.2.1 _ (Nat.le_of_ble_eq_true rfl) k).1, (B.2.1 _ (Nat.le_of_ble_eq_true rfl) k).2.1⟩, by decide⟩, ?_⟩
  intro sh1 r1 e1 e2
  obtain rfl : sh1 = SH.take 54 := e1
  obtain rfl : r1 = 54 := e2
  have B := B.more (m := 54) (by decide) rfl
  refine ⟨rfl, ?_⟩
  refine ⟨0, _, B_X8_init_54 B.2.1, by decide, ?_⟩
  intro sh1 h1 B2; obtain rfl := B2.1; have B := B.go B2
  refine ⟨rfl, ?_⟩
  intro h1 e1; subst e1
  have B := B.setR 53 0 54 (by decide)
  exact ⟨rfl, B⟩
set_option maxRecDepth 20000 in
theorem B_X8_init_57 {w : Wd} {h : Hp} (Z : Zr 57 h) : C_X8_init w (SH.take 57) 57 (0 : Int32) h 0 (fun sh1 h1 => Bt 58 h [(57, 0, 58)] [] sh1 h1) := by
  have B := Bt.rf (h := h) Z
  refine K_X8_init ?_
  refine ⟨rfl, ?_⟩
  refine ⟨0, ⟨by decide, by decide, by decide, fun k => ⟨(B.2.1 _ (Nat.le_of_ble_eq_true rfl) k).1, (B.2.1 _ (Nat.le_of_ble_eq_true rfl) k).2.2⟩, by decide⟩, ?_⟩
  intro sh1 r1 e1 e2
  obtain rfl : sh1 = SH.take 58 := e1
  obtain rfl : r1 = 58 := e2
  have B := B.more (m := 58) (by decide) rfl
  refine ⟨rfl, ?_⟩
  intro h1 e1; subst e1
  have B := B.setR 57 0 58 (by decide)
  exact ⟨rfl, B⟩
set_option maxRecDepth 20000 in
theorem B_X2_init_56 {w : Wd} {h : Hp} (Z : Zr 56 h) : C_X2_init w (SH.take 56) 56  h 3 (fun sh1 h1 => Bt 58 h [(57, 0, 58), (56, 0, 57)] [] sh1 h1) := by
  have B := Bt.rf (h := h) Z
  refine K_X2_init ?_
  refine ⟨rfl, ?_⟩
  refine ⟨⟨fun k => ⟨(B.2.1 _ (Nat.le_of_ble_eq_true rfl) k).1, (B.2.1 _ (Nat.le_of_ble_eq_true rfl) k).2.1⟩, by decide⟩, ?_⟩
  intro sh1 r1 e1 e2
  obtain rfl : sh1 = SH.take 57 := e1
  obtain rfl : r1 = 57 := e2
  have B := B.more (m := 57) (by decide) rfl
  refine ⟨rfl, ?_⟩
  refine ⟨0, _, B_X8_init_57 B.2.1, by decide, ?_⟩
  intro sh1 h1 B2; obtain rfl := B2.1; have B := B.go B2
  refine ⟨rfl, ?_⟩
  intro h1 e1; subst e1
  have B := B.setR 56 0 57 (by decide)
  exact ⟨rfl, B⟩
set_option maxRecDepth 20000 in
theorem B_X8_init_60 {w : Wd} {h : Hp} (Z : Zr 60 h) : C_X8_init w (SH.take 60) 60 (0 : Int32) h 0 (fun sh1 h1 => Bt 61 h [(60, 0, 61)] [] sh1 h1) := by
  have B := Bt.rf (h := h) Z
  refine K_X8_init ?_
  refine ⟨rfl, ?_⟩
  refine ⟨0, ⟨by decide, by decide, by decide, fun k => ⟨(B.2.1 _ (Nat.le_of_ble_eq_true rfl) k).1, (B.2.1 _ (Nat.le_of_ble_eq_true rfl) k).2.2⟩, by decide⟩, ?_⟩
  intro sh1 r1 e1 e2
  obtain rfl : sh1 = SH.take 61 := e1
  obtain rfl : r1 = 61 := e2
  have B := B.more (m := 61) (by decide) rfl
  refine ⟨rfl, ?_⟩
  intro h1 e1; subst e1
  have B := B.setR 60 0 61 (by decide)
  exact ⟨rfl, B⟩
set_option maxRecDepth 20000 in
theorem B_X2_init_59 {w : Wd} {h : Hp} (Z : Zr 59 h) : C_X2_init w (SH.take 59) 59  h 3 (fun sh1 h1 => Bt 61 h [(60, 0, 61), (59, 0, 60)] [] sh1 h1) := by
  have B := Bt.rf (h := h) Z
  refine K_X2_init ?_
  refine ⟨rfl, ?_⟩
  refine ⟨⟨fun k => ⟨(B.2.1 _ (Nat.le_of_ble_eq_true rfl) k).1, (B.2.1 _ (Nat.le_of_ble_eq_true rfl) k).2.1⟩, by decide⟩, ?_⟩
  intro sh1 r1 e1 e2
  obtain rfl : sh1 = SH.take 60 := e1
  obtain rfl : r1 = 60 := e2
  have B := B.more (m := 60) (by decide) rfl
  refine ⟨rfl, ?_⟩
  refine ⟨0, _, B_X8_init_60 B.2.1, by decide, ?_⟩
  intro sh1 h1 B2; obtain rfl := B2.1; have B := B.go B2
  refine ⟨rfl, ?_⟩
  intro h1 e1; subst e1
  have B := B.setR 59 0 60 (by decide)
  exact ⟨rfl, B⟩
set_option maxRecDepth 20000 in
theorem B_X8_init_63 {w : Wd} {h : Hp} (Z : Zr 63 h) : C_X8_init w (SH.take 63) 63 (0 : Int32) h 0 (fun sh1 h1 => Bt 64 h [(63, 0, 64)] [] sh1 h1) := by
  have B := Bt.rf (h := h) Z
  refine K_X8_init ?_
  refine ⟨rfl, ?_⟩
  refine ⟨0, ⟨by decide, by decide, by decide, fun k => ⟨(B.2.1 _ (Nat.le_of_ble_eq_true rfl) k).1, (B.2.1 _ (Nat.le_of_ble_eq_true rfl) k).2.2⟩, by decide⟩, ?_⟩
  intro sh1 r1 e1 e2
  obtain rfl : sh1 = SH.take 64 := e1
  obtain rfl : r1 = 64 := e2
  have B := B.more (m := 64) (by decide) rfl
  refine ⟨rfl, ?_⟩
  intro h1 e1; subst e1
  have B := B.setR 63 0 64 (by decide)
  exact ⟨rfl, B⟩
set_option maxRecDepth 20000 in
theorem B_X2_init_62 {w : Wd} {h : Hp} (Z : Zr 62 h) : C_X2_init w (SH.take 62) 62  h 3 (fun sh1 h1 => Bt 64 h [(63, 0, 64), (62, 0, 63)] [] sh1 h1) := by
  have B := Bt.rf (h := h) Z
  refine K_X2_init ?_
  refine ⟨rfl, ?_⟩
  refine ⟨⟨fun k => ⟨(B.2.1 _ (Nat.le_of_ble_eq_true rfl) k).1, (B.2.1 _ (Nat.le_of_ble_eq_true rfl) k).2.1⟩, by decide⟩, ?_⟩
  intro sh1 r1 e1 e2
  obtain rfl : sh1 = SH.take 63 := e1
  obtain rfl : r1 = 63 := e2
  have B := B.more (m := 63) (by decide) rfl
  refine ⟨rfl, ?_⟩
  refine ⟨0, _, B_X8_init_63 B.2.1, by decide, ?_⟩
  intro sh1 h1 B2; obtain rfl := B2.1; have B := B.go B2
  refine ⟨rfl, ?_⟩
  intro h1 e1; subst e1
  have B := B.setR 62 0 63 (by decide)
  exact ⟨rfl, B⟩
set_option maxRecDepth 20000 in
theorem B_X8_init_66 {w : Wd} {h : Hp} (Z : Zr 66 h) : C_X8_init w (SH.take 66) 66 (0 : Int32) h 0 (fun sh1 h1 => Bt 67 h [(66, 0, 67)] [] sh1 h1) := by
  have B := Bt.rf (h := h) Z
  refine K_X8_init ?_
  refine ⟨rfl, ?_⟩
  refine ⟨0, ⟨by decide, by decide, by decide, fun k => ⟨(B.2.1 _ (Nat.le_of_ble_eq_true rfl) k).1, (B.2.1 _ (Nat.le_of_ble_eq_true rfl) k).2.2⟩, by decide⟩, ?_⟩
  intro sh1 r1 e1 e2
  obtain rfl : sh1 = SH.take 67 := e1
  obtain rfl : r1 = 67 := e2
  have B := B.more (m := 67) (by decide) rfl
  refine ⟨rfl, ?_⟩
  intro h1 e1; subst e1
  have B := B.setR 66 0 67 (by decide)
  exact ⟨rfl, B⟩
set_option maxRecDepth 20000 in
theorem B_X9_init_65 {w : Wd} {h : Hp} (Z : Zr 65 h) : C_X9_init w (SH.take 65) 65  h 3 (fun sh1 h1 => Bt 67 h [(66, 0, 67), (65, 0, 66), (65, 3, 66)] [] sh1 h1) := by
  have B := Bt.rf (h := h) Z
  refine K_X9_init ?_
  refine ⟨rfl, ?_⟩
  refine ⟨⟨fun k => ⟨(B.2.1 _ (Nat.le_of_ble_eq_true rfl) k).1, (B.2.1 _ (Nat.le_of_ble_eq_true rfl) k).2.1⟩, by decide⟩, ?_⟩
  intro sh1 r1 e1 e2
  obtain rfl : sh1 = SH.take 66 := e1
  obtain rfl : r1 = 66 := e2
  have B := B.more (m := 66) (by decide) rfl
  refine ⟨rfl, ?_⟩
  refine ⟨0, _, B_X8_init_66 B.2.1, by decide, ?_⟩
  intro sh1 h1 B2; obtain rfl := B2.1; have B := B.go B2
  refine ⟨rfl, ?_⟩
  intro h1 e1; subst e1
  have B := B.setR 65 0 66 (by decide)
  intro h1 e1; subst e1
  have B := B.setR 65 3 66 (by decide)
  exact ⟨rfl, B⟩
set_option maxRecDepth 20000 in
theorem B_X8_init_68 {w : Wd} {h : Hp} (Z : Zr 68 h) : C_X8_init w (SH.take 68) 68 (0 : Int32) h 0 (fun sh1 h1 => Bt 69 h [(68, 0, 69)] [] sh1 h1) := by
  have B := Bt.rf (h := h) Z
  refine K_X8_init ?_
  refine ⟨rfl, ?_⟩
  refine ⟨0, ⟨by decide, by decide, by decide, fun k => ⟨(B.2.1 _ (Nat.le_of_ble_eq_true rfl) k).1, (B.2.1 _ (Nat.le_of_ble_eq_true rfl) k).2.2⟩, by decide⟩, ?_⟩
  intro sh1 r1 e1 e2
  obtain rfl : sh1 = SH.take 69 := e1
  obtain rfl : r1 = 69 := e2
  have B := B.more (m := 69) (by decide) rfl
  refine ⟨rfl, ?_⟩
  intro h1 e1; subst e1
  have B := B.setR 68 0 69 (by decide)
  exact ⟨rfl, B⟩
set_option maxRecDepth 20000 in
theorem B_X7_init_49 {w : Wd} {h : Hp} (Z : Zr 49 h) : C_X7_init w (SH.take 49) 49 18 24 21 (6 : Int32) h 41 (fun sh1 h1 => Bt 69 h [(51, 0, 52), (50, 0, 51), (49, 4, 50), (54, 0, 55), (53, 0, 54), (49, 5, 53), (57, 0, 58), (56, 0, 57), (49, 6, 56), (60, 0, 61), (59, 0, 60), (49, 7, 59), (63, 0, 64), (62, 0, 63), (49, 8, 62), (66, 0, 67), (65, 0, 66), (65, 3, 66), (49, 9, 65), (68, 0, 69), (49, 10, 68), (49, 11, 68), (49, 0, 18), (49, 1, 24), (49, 2, 21)] [(49, 12, (0 : Int32)), (49, 13, (-1 : Int32)), (49, 3, (6 : Int32))] sh1 h1) := by
  have B := Bt.rf (h := h) Z
  refine K_X7_init ?_
  refine ⟨rfl, ?_⟩
  refine ⟨⟨fun k => ⟨(B.2.1 _ (Nat.le_of_ble_eq_true rfl) k).1, (B.2.1 _ (Nat.le_of_ble_eq_true rfl) k).2.1⟩, by decide⟩, ?_⟩
  intro sh1 r1 e1 e2
  obtain rfl : sh1 = SH.take 50 := e1
  obtain rfl : r1 = 50 := e2
  have B := B.more (m := 50) (by decide) rfl
  refine ⟨rfl, ?_⟩
  refine ⟨3, _, B_X2_init_50 B.2.1, by decide, ?_⟩
  intro sh1 h1 B2; obtain rfl := B2.1; have B := B.go B2
  refine ⟨rfl, ?_⟩
  intro h1 e1; subst e1
  have B := B.setR 49 4 50 (by decide)
  refine ⟨⟨fun k => ⟨(B.2.1 _ (Nat.le_of_ble_eq_true rfl) k).1, (B.2.1 _ (Nat.le_of_ble_eq_true rfl) k).2.1⟩, by decide⟩, ?_⟩
  intro sh1 r1 e1 e2
  obtain rfl : sh1 = SH.take 53 := e1
  obtain rfl : r1 = 53 := e2
  have B := B.more (m := 53) (by decide) rfl
  refine ⟨rfl, ?_⟩
  refine ⟨3, _, B_X2_init_53 B.2.1, by decide, ?_⟩
  intro sh1 h1 B2; obtain rfl := B2.1; have B := B.go B2
  refine ⟨rfl, ?_⟩
  intro h1 e1; subst e1
  have B := B.setR 49 5 53 (by decide)
  refine ⟨⟨fun k => ⟨(B.2.1 _ (Nat.le_of_ble_eq_true rfl) k).1, (B.2.1 _ (Nat.le_of_ble_eq_true rfl) k).2.1⟩, by decide⟩, ?_⟩
  intro sh1 r1 e1 e2
  obtain rfl : sh1 = SH.take 56 := e1
  obtain rfl : r1 = 56 := e2
  have B := B.more (m := 56) (by decide) rfl
  refine ⟨rfl, ?_⟩
  refine ⟨3, _, B_X2_init_56 B.2.1, by decide, ?_⟩
  intro sh1 h1 B2; obtain rfl := B2.1; have B := B.go B2
  refine ⟨rfl, ?_⟩
  intro h1 e1; subst e1
  have B := B.setR 49 6 56 (by decide)
  refine ⟨⟨fun k => ⟨(B.2.1 _ (Nat.le_of_ble_eq_true rfl) k).1, (B.2.1 _ (Nat.le_of_ble_eq_true rfl) k).2.1⟩, by decide⟩, ?_⟩
  intro sh1 r1 e1 e2
  obtain rfl : sh1 = SH.take 59 := e1
  obtain rfl : r1 = 59 := e2
  have B := B.more (m := 59) (by decide) rfl
  refine ⟨rfl, ?_⟩
  refine ⟨3, _, B_X2_init_59 B.2.1, by decide, ?_⟩
  intro sh1 h1 B2; obtain rfl := B2.1; have B := B.go B2
  refine ⟨rfl, ?_⟩
  intro h1 e1; subst e1
  have B := B.setR 49 7 59 (by decide)
  refine ⟨⟨fun k => ⟨(B.2.1 _ (Nat.le_of_ble_eq_true rfl) k).1, (B.2.1 _ (Nat.le_of_ble_eq_true rfl) k).2.1⟩, by decide⟩, ?_⟩
  intro sh1 r1 e1 e2
  obtain rfl : sh1 = SH.take 62 := e1
  obtain rfl : r1 = 62 := e2
  have B := B.more (m := 62) (by decide) rfl
  refine ⟨rfl, ?_⟩
  refine ⟨3, _, B_X2_init_62 B.2.1, by decide, ?_⟩
  intro sh1 h1 B2; obtain rfl := B2.1; have B := B.go B2
  refine ⟨rfl, ?_⟩
  intro h1 e1; subst e1
  have B := B.setR 49 8 62 (by decide)
  refine ⟨⟨fun k => ⟨(B.2.1 _ (Nat.le_of_ble_eq_true rfl) k).1, (B.2.1 _ (Nat.le_of_ble_eq_true rfl) k).2.1⟩, by decide⟩, ?_⟩
  intro sh1 r1 e1 e2
  obtain rfl : sh1 = SH.take 65 := e1
  obtain rfl : r1 = 65 := e2
  have B := B.more (m := 65) (by decide) rfl
  refine ⟨rfl, ?_⟩
  refine ⟨3, _, B_X9_init_65 B.2.1, by decide, ?_⟩
  intro sh1 h1 B2; obtain rfl := B2.1; have B := B.go B2
  refine ⟨rfl, ?_⟩
  intro h1 e1; subst e1
  have B := B.setR 49 9 65 (by decide)
  refine ⟨⟨fun k => ⟨(B.2.1 _ (Nat.le_of_ble_eq_true rfl) k).1, (B.2.1 _ (Nat.le_of_ble_eq_true rfl) k).2.1⟩, by decide⟩, ?_⟩
  intro sh1 r1 e1 e2
  obtain rfl : sh1 = SH.take 68 := e1
  obtain rfl : r1 = 68 := e2
  have B := B.more (m := 68) (by decide) rfl
  refine ⟨rfl, ?_⟩
  refine ⟨0, _, B_X8_init_68 B.2.1, by decide, ?_⟩
  intro sh1 h1 B2; obtain rfl := B2.1; have B := B.go B2
  refine ⟨rfl, ?_⟩
  intro h1 e1; subst e1
  have B := B.setR 49 10 68 (by decide)
  intro h1 e1; subst e1
  have B := B.setR 49 11 68 (by decide)
  intro h1 e1; subst e1
  have B := B.setI 49 12 (0 : Int32) (by decide)
  intro h1 e1; subst e1
  have B := B.setI 49 13 (-1 : Int32) (by decide)
  intro h1 e1; subst e1
  have B := B.setR 49 0 18 (by decide)
  intro h1 e1; subst e1
  have B := B.setR 49 1 24 (by decide)
  intro h1 e1; subst e1
  have B := B.setR 49 2 21 (by decide)
  intro h1 e1; subst e1
  have B := B.setI 49 3 (6 : Int32) (by decide)
  exact ⟨rfl, B⟩
set_option maxRecDepth 20000 in
theorem B_X0_init_71 {w : Wd} {h : Hp} (Z : Zr 71 h) : C_X0_init w (SH.take 71) 71 (4 : Int32) (3 : Int32) h 772 (fun sh1 h1 => Bt 73 h [(71, 0, 72), (71, 1, 73)] [] sh1 h1) := by
  have B := Bt.rf (h := h) Z
  refine K_X0_init ?_
  refine ⟨rfl, ?_⟩
  refine ⟨4, ⟨by decide, by decide, by decide, fun k => ⟨(B.2.1 _ (Nat.le_of_ble_eq_true rfl) k).1, (B.2.1 _ (Nat.le_of_ble_eq_true rfl) k).2.2⟩, by decide⟩, ?_⟩
  intro sh1 r1 e1 e2
  obtain rfl : sh1 = SH.take 72 := e1
  obtain rfl : r1 = 72 := e2
  have B := B.more (m := 72) (by decide) rfl
  refine ⟨rfl, ?_⟩
  intro h1 e1; subst e1
  have B := B.setR 71 0 72 (by decide)
  refine ⟨768, ⟨by decide, by decide, by decide, fun k => ⟨(B.2.1 _ (Nat.le_of_ble_eq_true rfl) k).1, (B.2.1 _ (Nat.le_of_ble_eq_true rfl) k).2.2⟩, by decide⟩, ?_⟩
  intro sh1 r1 e1 e2
  obtain rfl : sh1 = SH.take 73 := e1
  obtain rfl : r1 = 73 := e2
  have B := B.more (m := 73) (by decide) rfl
  refine ⟨rfl, ?_⟩
  intro h1 e1; subst e1
  have B := B.setR 71 1 73 (by decide)
  exact ⟨rfl, B⟩
set_option maxRecDepth 20000 in
theorem B_X4_init_74 {w : Wd} {h : Hp} (Z : Zr 74 h) : C_X4_init w (SH.take 74) 74 (0 : Int32) h 8 (fun sh1 h1 => Bt 76 h [(74, 0, 75), (74, 1, 76)] [] sh1 h1) := by
  have B := Bt.rf (h := h) Z
  refine K_X4_init ?_
  refine ⟨rfl, ?_⟩
  refine ⟨8, ⟨by decide, by decide, by decide, fun k => ⟨(B.2.1 _ (Nat.le_of_ble_eq_true rfl) k).1, (B.2.1 _ (Nat.le_of_ble_eq_true rfl) k).2.2⟩, by decide⟩, ?_⟩
  intro sh1 r1 e1 e2
  obtain rfl : sh1 = SH.take 75 := e1
  obtain rfl : r1 = 75 := e2
  have B := B.more (m := 75) (by decide) rfl
  refine ⟨rfl, ?_⟩
  intro h1 e1; subst e1
  have B := B.setR 74 0 75 (by decide)
  refine ⟨0, ⟨by decide, by decide, by decide, fun k => ⟨(B.2.1 _ (Nat.le_of_ble_eq_true rfl) k).1, (B.2.1 _ (Nat.le_of_ble_eq_true rfl) k).2.2⟩, by decide⟩, ?_⟩
  intro sh1 r1 e1 e2
  obtain rfl : sh1 = SH.take 76 := e1
  obtain rfl : r1 = 76 := e2
  have B := B.more (m := 76) (by decide) rfl
  refine ⟨rfl, ?_⟩
  intro h1 e1; subst e1
  have B := B.setR 74 1 76 (by decide)
  exact ⟨rfl, B⟩
set_option maxRecDepth 20000 in
theorem B_X8_init_78 {w : Wd} {h : Hp} (Z : Zr 78 h) : C_X8_init w (SH.take 78) 78 (0 : Int32) h 0 (fun sh1 h1 => Bt 79 h [(78, 0, 79)] [] sh1 h1) := by
  have B := Bt.rf (h := h) Z
  refine K_X8_init ?_
  refine ⟨rfl, ?_⟩
  refine ⟨0, ⟨by decide, by decide, by decide, fun k => ⟨(B.2.1 _ (Nat.le_of_ble_eq_true rfl) k).1, (B.2.1 _ (Nat.le_of_ble_eq_true rfl) k).2.2⟩, by decide⟩, ?_⟩
  intro sh1 r1 e1 e2
  obtain rfl : sh1 = SH.take 79 := e1
  obtain rfl : r1 = 79 := e2
  have B := B.more (m := 79) (by decide) rfl
  refine ⟨rfl, ?_⟩
  intro h1 e1; subst e1
  have B := B.setR 78 0 79 (by decide)
  exact ⟨rfl, B⟩
set_option maxRecDepth 20000 in
theorem B_X2_init_77 {w : Wd} {h : Hp} (Z : Zr 77 h) : C_X2_init w (SH.take 77) 77  h 3 (fun sh1 h1 => Bt 79 h [(78, 0, 79), (77, 0, 78)] [] sh1 h1) := by
  have B := Bt.rf (h := h) Z
  refine K_X2_init ?_
  refine ⟨rfl, ?_⟩
  refine ⟨⟨fun k => ⟨(B.2.1 _ (Nat.le_of_ble_eq_true rfl) k).1, (B.2.1 _ (Nat.le_of_ble_eq_true rfl) k).2.1⟩, by decide⟩, ?_⟩
  intro sh1 r1 e1 e2
  obtain rfl : sh1 = SH.take 78 := e1
  obtain rfl : r1 = 78 := e2
  have B := B.more (m := 78) (by decide) rfl
  refine ⟨rfl, ?_⟩
  refine ⟨0, _, B_X8_init_78 B.2.1, by decide, ?_⟩
  intro sh1 h1 B2; obtain rfl := B2.1; have B := B.go B2
  refine ⟨rfl, ?_⟩
  intro h1 e1; subst e1
  have B := B.setR 77 0 78 (by decide)
  exact ⟨rfl, B⟩
set_option maxRecDepth 20000 in
theorem B_X8_init_81 {w : Wd} {h : Hp} (Z : Zr 81 h) : C_X8_init w (SH.take 81) 81 (0 : Int32) h 0 (fun sh1 h1 => Bt 82 h [(81, 0, 82)] [] sh1 h1) := by
  have B := Bt.rf (h := h) Z
  refine K_X8_init ?_
  refine ⟨rfl, ?_⟩
  refine ⟨0, ⟨by decide, by decide, by decide, fun k => ⟨(B.2.1 _ (Nat.le_of_ble_eq_true rfl) k).1, (B.2.1 _ (Nat.le_of_ble_eq_true rfl) k).2.2⟩, by decide⟩, ?_⟩
  intro sh1 r1 e1 e2
  obtain rfl : sh1 = SH.take 82 := e1
  obtain rfl : r1 = 82 := e2
  have B := B.more (m := 82) (by decide) rfl
  refine ⟨rfl, ?_⟩
  intro h1 e1; subst e1
  have B := B.setR 81 0 82 (by decide)
  exact ⟨rfl, B⟩
set_option maxRecDepth 20000 in
theorem B_X2_init_80 {w : Wd} {h : Hp} (Z : Zr 80 h) : C_X2_init w (SH.take 80) 80  h 3 (fun sh1 h1 => Bt 82 h [(81, 0, 82), (80, 0, 81)] [] sh1 h1) := by
  have B := Bt.rf (h := h) Z
  refine K_X2_init ?_
  refine ⟨rfl, ?_⟩
  refine ⟨⟨fun k => ⟨(B.2.1 _ (Nat.le_of_ble_eq_true rfl) k).1, (B.2.1 _ (Nat.le_of_ble_eq_true rfl) k).2.1⟩, by decide⟩, ?_⟩
  intro sh1 r1 e1 e2
  obtain rfl : sh1 = SH.take 81 := e1
  obtain rfl : r1 = 81 := e2
  have B := B.more (m := 81) (by decide) rfl
  refine ⟨rfl, ?_⟩
  refine ⟨0, _, B_X8_init_81 B.2.1, by decide, ?_⟩
  intro sh1 h1 B2; obtain rfl := B2.1; have B := B.go B2
  refine ⟨rfl, ?_⟩
  intro h1 e1; subst e1
  have B := B.setR 80 0 81 (by decide)
  exact ⟨rfl, B⟩
set_option maxRecDepth 20000 in
theorem B_X8_init_84 {w : Wd} {h : Hp} (Z : Zr 84 h) : C_X8_init w (SH.take 84) 84 (0 : Int32) h 0 (fun sh1 h1 => Bt 85 h [(84, 0, 85)] [] sh1 h1) := by
  have B := Bt.rf (h := h) Z
  refine K_X8_init ?_
  refine ⟨rfl, ?_⟩
  refine ⟨0, ⟨by decide, by decide, by decide, fun k => ⟨(B.2.1 _ (Nat.le_of_ble_eq_true rfl) k).1, (B.2.1 _ (Nat.le_of_ble_eq_true rfl) k).2.2⟩, by decide⟩, ?_⟩
  intro sh1 r1 e1 e2
  obtain rfl : sh1 = SH.take 85 := e1
  obtain rfl : r1 = 85 := e2
  have B := B.more (m := 85) (by decide) rfl
  refine ⟨rfl, ?_⟩
  intro h1 e1; subst e1
  have B := B.setR 84 0 85 (by decide)
  exact ⟨rfl, B⟩
set_option maxRecDepth 20000 in
theorem B_X2_init_83 {w : Wd} {h : Hp} (Z : Zr 83 h) : C_X2_init w (SH.take 83) 83  h 3 (fun sh1 h1 => Bt 85 h [(84, 0, 85), (83, 0, 84)] [] sh1 h1) := by
  have B := Bt.rf (h := h) Z
  refine K_X2_init ?_
  refine ⟨rfl, ?_⟩
  refine ⟨⟨fun k => ⟨(B.2.1 _ (Nat.le_of_ble_eq_true rfl) k).1, (B.2.1 _ (Nat.le_of_ble_eq_true rfl) k).2.1⟩, by decide⟩, ?_⟩
  intro sh1 r1 e1 e2
  obtain rfl : sh1 = SH.take 84 := e1
  obtain rfl : r1 = 84 := e2
  have B := B.more (m := 84) (by decide) rfl
  refine ⟨rfl, ?_⟩
  refine ⟨0, _, B_X8_init_84 B.2.1, by decide, ?_⟩
  intro sh1 h1 B2; obtain rfl := B2.1; have B := B.go B2
  refine ⟨rfl, ?_⟩
  intro h1 e1; subst e1
  have B := B.setR 83 0 84 (by decide)
  exact ⟨rfl, B⟩
set_option maxRecDepth 20000 in
theorem B_X8_init_87 {w : Wd} {h : Hp} (Z : Zr 87 h) : C_X8_init w (SH.take 87) 87 (0 : Int32) h 0 (fun sh1 h1 => Bt 88 h [(87, 0, 88)] [] sh1 h1) := by
  have B := Bt.rf (h := h) Z
  refine K_X8_init ?_
  refine ⟨rfl, ?_⟩
  refine ⟨0, ⟨by decide, by decide, by decide, fun k => ⟨(B.2.1 _ (Nat.le_of_ble_eq_true rfl) k).1, (B.2.1 _ (Nat.le_of_ble_eq_true rfl) k).2.2⟩, by decide⟩, ?_⟩
  intro sh1 r1 e1 e2
  obtain rfl : sh1 = SH.take 88 := e1
  obtain rfl : r1 = 88 := e2
  have B := B.more (m := 88) (by decide) rfl
  refine ⟨rfl, ?_⟩
  intro h1 e1; subst e1
  have B := B.setR 87 0 88 (by decide)
  exact ⟨rfl, B⟩
set_option maxRecDepth 20000 in
theorem B_X2_init_86 {w : Wd} {h : Hp} (Z : Zr 86 h) : C_X2_init w (SH.take 86) 86  h 3 (fun sh1 h1 => Bt 88 h [(87, 0, 88), (86, 0, 87)] [] sh1 h1) := by
  have B := Bt.rf (h := h) Z
  refine K_X2_init ?_
  refine ⟨rfl, ?_⟩
  refine ⟨⟨fun k => ⟨(B.2.1 _ (Nat.le_of_ble_eq_true rfl) k).1, (B.2.1 _ (Nat.le_of_ble_eq_true rfl) k).2.1⟩, by decide⟩, ?_⟩
  intro sh1 r1 e1 e2
  obtain rfl : sh1 = SH.take 87 := e1
  obtain rfl : r1 = 87 := e2
  have B := B.more (m := 87) (by decide) rfl
  refine ⟨rfl, ?_⟩
  refine ⟨0, _, B_X8_init_87 B.2.1, by decide, ?_⟩
  intro sh1 h1 B2; obtain rfl := B2.1; have B := B.go B2
  refine ⟨rfl, ?_⟩
  intro h1 e1; subst e1
  have B := B.setR 86 0 87 (by decide)
  exact ⟨rfl, B⟩
set_option maxRecDepth 20000 in
theorem B_X8_init_90 {w : Wd} {h : Hp} (Z : Zr 90 h) : C_X8_init w (SH.take 90) 90 (0 : Int32) h 0 (fun sh1 h1 => Bt 91 h [(90, 0, 91)] [] sh1 h1) := by
  have B := Bt.rf (h := h) Z
  refine K_X8_init ?_
  refine ⟨rfl, ?_⟩
  refine ⟨0, ⟨by decide, by decide, by decide, fun k => ⟨(B.2.1 _ (Nat.le_of_ble_eq_true rfl) k).1, (B.2.1 _ (Nat.le_of_ble_eq_true rfl) k).2.2⟩, by decide⟩, ?_⟩
  intro sh1 r1 e1 e2
  obtain rfl : sh1 = SH.take 91 := e1
  obtain rfl : r1 = 91 := e2
  have B := B.more (m := 91) (by decide) rfl
  refine ⟨rfl, ?_⟩
  intro h1 e1; subst e1
  have B := B.setR 90 0 91 (by decide)
  exact ⟨rfl, B⟩
set_option maxRecDepth 20000 in
theorem B_X2_init_89 {w : Wd} {h : Hp} (Z : Zr 89 h) : C_X2_init w (SH.take 89) 89  h 3 (fun sh1 h1 => Bt 91 h [(90, 0, 91), (89, 0, 90)] [] sh1 h1) := by
  have B := Bt.rf (h := h) Z
  refine K_X2_init ?_
  refine ⟨rfl, ?_⟩
  refine ⟨⟨fun k => ⟨(B.2.1 _ (Nat.le_of_ble_eq_true rfl) k).1, (B.2.1 _ (Nat.le_of_ble_eq_true rfl) k).2.1⟩, by decide⟩, ?_⟩
  intro sh1 r1 e1 e2
  obtain rfl : sh1 = SH.take 90 := e1
  obtain rfl : r1 = 90 := e2
  have B := B.more (m := 90) (by decide) rfl
  refine ⟨rfl, ?_⟩
  refine ⟨0, _, B_X8_init_90 B.2.1, by decide, ?_⟩
  intro sh1 h1 B2; obtain rfl := B2.1; have B := B.go B2
  refine ⟨rfl, ?_⟩
  intro h1 e1; subst e1
  have B := B.setR 89 0 90 (by decide)
  exact ⟨rfl, B⟩
set_option maxRecDepth 20000 in
theorem B_X8_init_93 {w : Wd} {h : Hp} (Z : Zr 93 h) : C_X8_init w (SH.take 93) 93 (0 : Int32) h 0 (fun sh1 h1 => Bt 94 h [(93, 0, 94)] [] sh1 h1) := by
  have B := Bt.rf (h := h) Z
  refine K_X8_init ?_
  refine ⟨rfl, ?_⟩
  refine ⟨0, ⟨by decide, by decide, by decide, fun k => ⟨(B.2.1 _ (Nat.le_of_ble_eq_true rfl) k).1, (B.2.1 _ (Nat.le_of_ble_eq_true rfl) k).2.2⟩, by decide⟩, ?_⟩
  intro sh1 r1 e1 e2
  obtain rfl : sh1 = SH.take 94 := e1
  obtain rfl : r1 = 94 := e2
  have B := B.more (m := 94) (by decide) rfl
  refine ⟨rfl, ?_⟩
  intro h1 e1; subst e1
  have B := B.setR 93 0 94 (by decide)
  exact ⟨rfl, B⟩
set_option maxRecDepth 20000 in
theorem B_X9_init_92 {w : Wd} {h : Hp} (Z : Zr 92 h) : C_X9_init w (SH.take 92) 92  h 3 (fun sh1 h1 => Bt 94 h [(93, 0, 94), (92, 0, 93), (92, 3, 93)] [] sh1 h1) := by
  have B := Bt.rf (h := h) Z
  refine K_X9_init ?_
  refine ⟨rfl, ?_⟩
  refine ⟨⟨fun k => ⟨(B.2.1 _ (Nat.le_of_ble_eq_true rfl) k).1, (B.2.1 _ (Nat.le_of_ble_eq_true rfl) k).2.1⟩, by decide⟩, ?_⟩
  intro sh1 r1 e1 e2
  obtain rfl : sh1 = SH.take 93 := e1
  obtain rfl : r1 = 93 := e2
  have B := B.more (m := 93) (by decide) rfl
  refine ⟨rfl, ?_⟩
  refine ⟨0, _, B_X8_init_93 B.2.1, by decide, ?_⟩
  intro sh1 h1 B2; obtain rfl := B2.1; have B := B.go B2
  refine ⟨rfl, ?_⟩
  intro h1 e1; subst e1
  have B := B.setR 92 0 93 (by decide)
  intro h1 e1; subst e1
  have B := B.setR 92 3 93 (by decide)
  exact ⟨rfl, B⟩
set_option maxRecDepth 20000 in
theorem B_X8_init_95 {w : Wd} {h : Hp} (Z : Zr 95 h) : C_X8_init w (SH.take 95) 95 (0 : Int32) h 0 (fun sh1 h1 => Bt 96 h [(95, 0, 96)] [] sh1 h1) := by
  have B := Bt.rf (h := h) Z
  refine K_X8_init ?_
  refine ⟨rfl, ?_⟩
  refine ⟨0, ⟨by decide, by decide, by decide, fun k => ⟨(B.2.1 _ (Nat.le_of_ble_eq_true rfl) k).1, (B.2.1 _ (Nat.le_of_ble_eq_true rfl) k).2.2⟩, by decide⟩, ?_⟩
  intro sh1 r1 e1 e2
  obtain rfl : sh1 = SH.take 96 := e1
  obtain rfl : r1 = 96 := e2
  have B := B.more (m := 96) (by decide) rfl
  refine ⟨rfl, ?_⟩
  intro h1 e1; subst e1
  have B := B.setR 95 0 96 (by decide)
  exact ⟨rfl, B⟩
set_option maxRecDepth 20000 in
theorem B_X7_init_70 {w : Wd} {h : Hp} (Z : Zr 76 h) : C_X7_init w (SH.take 76) 70 12 71 74 (4 : Int32) h 41 (fun sh1 h1 => Bt 96 h [(78, 0, 79), (77, 0, 78), (70, 4, 77), (81, 0, 82), (80, 0, 81), (70, 5, 80), (84, 0, 85), (83, 0, 84), (70, 6, 83), (87, 0, 88), (86, 0, 87), (70, 7, 86), (90, 0, 91), (89, 0, 90), (70, 8, 89), (93, 0, 94), (92, 0, 93), (92, 3, 93), (70, 9, 92), (95, 0, 96), (70, 10, 95), (70, 11, 95), (70, 0, 12), (70, 1, 71), (70, 2, 74)] [(70, 12, (0 : Int32)), (70, 13, (-1 : Int32)), (70, 3, (4 : Int32))] sh1 h1) := by
  have B := Bt.rf (h := h) Z
  refine K_X7_init ?_
  refine ⟨rfl, ?_⟩
  refine ⟨⟨fun k => ⟨(B.2.1 _ (Nat.le_of_ble_eq_true rfl) k).1, (B.2.1 _ (Nat.le_of_ble_eq_true rfl) k).2.1⟩, by decide⟩, ?_⟩
  intro sh1 r1 e1 e2
  obtain rfl : sh1 = SH.take 77 := e1
  obtain rfl : r1 = 77 := e2
  have B := B.more (m := 77) (by decide) rfl
  refine ⟨rfl, ?_⟩
  refine ⟨3, _, B_X2_init_77 B.2.1, by decide, ?_⟩
  intro sh1 h1 B2; obtain rfl := B2.1; have B := B.go B2
  refine ⟨rfl, ?_⟩
  intro h1 e1; subst e1
  have B := B.setR 70 4 77 (by decide)
  refine ⟨⟨fun k => ⟨(B.2.1 _ (Nat.le_of_ble_eq_true rfl) k).1, (B.2.1 _ (Nat.le_of_ble_eq_true rfl) k).2.1⟩, by decide⟩, ?_⟩
  intro sh1 r1 e1 e2
  obtain rfl : sh1 = SH.take 80 := e1
  obtain rfl : r1 = 80 := e2
  have B := B.more (m := 80) (by decide) rfl
  refine ⟨rfl, ?_⟩
  refine ⟨3, _, B_X2_init_80 B.2.1, by decide, ?_⟩
  intro sh1 h1 B2; obtain rfl := B2.1; have B := B.go B2
  refine ⟨rfl, ?_⟩
  intro h1 e1; subst e1
  have B := B.setR 70 5 80 (by decide)
  refine ⟨⟨fun k => ⟨(B.2.1 _ (Nat.le_of_ble_eq_true rfl) k).1, (B.2.1 _ (Nat.le_of_ble_eq_true rfl) k).2.1⟩, by decide⟩, ?_⟩
  intro sh1 r1 e1 e2
  obtain rfl : sh1 = SH.take 83 := e1
  obtain rfl : r1 = 83 := e2
  have B := B.more (m := 83) (by decide) rfl
  refine ⟨rfl, ?_⟩
  refine ⟨3, _, B_X2_init_83 B.2.1, by decide, ?_⟩
  intro sh1 h1 B2; obtain rfl := B2.1; have B := B.go B2
  refine ⟨rfl, ?_⟩
  intro h1 e1; subst e1
  have B := B.setR 70 6 83 (by decide)
  refine ⟨⟨fun k => ⟨(B.2.1 _ (Nat.le_of_ble_eq_true rfl) k).1, (B.2.1 _ (Nat.le_of_ble_eq_true rfl) k).2.1⟩, by decide⟩, ?_⟩
  intro sh1 r1 e1 e2
  obtain rfl : sh1 = SH.take 86 := e1
  obtain rfl : r1 = 86 := e2
  have B := B.more (m := 86) (by decide) rfl
  refine ⟨rfl, ?_⟩
  refine ⟨3, _, B_X2_init_86 B.2.1, by decide, ?_⟩
  intro sh1 h1 B2; obtain rfl := B2.1; have B := B.go B2
  refine ⟨rfl, ?_⟩
  intro h1 e1; subst e1
  have B := B.setR 70 7 86 (by decide)
  refine ⟨⟨fun k => ⟨(B.2.1 _ (Nat.le_of_ble_eq_true rfl) k).1, (B.2.1 _ (Nat.le_of_ble_eq_true rfl) k).2.1⟩, by decide⟩, ?_⟩
  intro sh1 r1 e1 e2
  obtain rfl : sh1 = SH.take 89 := e1
  obtain rfl : r1 = 89 := e2
  have B := B.more (m := 89) (by decide) rfl
  refine ⟨rfl, ?_⟩
  refine ⟨3, _, B_X2_init_89 B.2.1, by decide, ?_⟩
  intro sh1 h1 B2; obtain rfl := B2.1; have B := B.go B2
  refine ⟨rfl, ?_⟩
  intro h1 e1; subst e1
  have B := B.setR 70 8 89 (by decide)
  refine ⟨⟨fun k => ⟨(B.2.1 _ (Nat.le_of_ble_eq_true rfl) k).1, (B.2.1 _ (Nat.le_of_ble_eq_true rfl) k).2.1⟩, by decide⟩, ?_⟩
  intro sh1 r1 e1 e2
  obtain rfl : sh1 = SH.take 92 := e1
  obtain rfl : r1 = 92 := e2
  have B := B.more (m := 92) (by decide) rfl
  refine ⟨rfl, ?_⟩
  refine ⟨3, _, B_X9_init_92 B.2.1, by decide, ?_⟩
  intro sh1 h1 B2; obtain rfl := B2.1; have B := B.go B2
  refine ⟨rfl, ?_⟩
  intro h1 e1; subst e1
  have B := B.setR 70 9 92 (by decide)
  refine ⟨⟨fun k => ⟨(B.2.1 _ (Nat.le_of_ble_eq_true rfl) k).1, (B.2.1 _ (Nat.le_of_ble_eq_true rfl) k).2.1⟩, by decide⟩, ?_⟩
  intro sh1 r1 e1 e2
  obtain rfl : sh1 = SH.take 95 := e1
  obtain rfl : r1 = 95 := e2
  have B := B.more (m := 95) (by decide) rfl
  refine ⟨rfl, ?_⟩
  refine ⟨0, _, B_X8_init_95 B.2.1, by decide, ?_⟩
  intro sh1 h1 B2; obtain rfl := B2.1; have B := B.go B2
  refine ⟨rfl, ?_⟩
  intro h1 e1; subst e1
  have B := B.setR 70 10 95 (by decide)
  intro h1 e1; subst e1
  have B := B.setR 70 11 95 (by decide)
  intro h1 e1; subst e1
  have B := B.setI 70 12 (0 : Int32) (by decide)
  intro h1 e1; subst e1
  have B := B.setI 70 13 (-1 : Int32) (by decide)
  intro h1 e1; subst e1
  have B := B.setR 70 0 12 (by decide)
  intro h1 e1; subst e1
  have B := B.setR 70 1 71 (by decide)
  intro h1 e1; subst e1
  have B := B.setR 70 2 74 (by decide)
  intro h1 e1; subst e1
  have B := B.setI 70 3 (4 : Int32) (by decide)
  exact ⟨rfl, B⟩
