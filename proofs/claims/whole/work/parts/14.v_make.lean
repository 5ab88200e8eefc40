def V_X3_lay_0 (w : Wd) (sh : List Sh) (x0 : Nat) (x1 : Nat) (x2 : Int32) (x3 : Int32) (x4 : Nat) (x5 : Int32) (x6 : Int32) (h : Hp)  (RET : Hp → Prop) : Prop :=
  shAt sh x0 = some (.inr 3) ∧ (shAt sh (h.2.1 x0 0) = some (.inr 8) ∧ (∃ P3 : Hp → Prop, C_X8_clear w sh (h.2.1 x0 0) h P3 ∧ (∀ h6 : Hp, P3 h6 → (shAt sh (h6.2.1 x0 0) = some (.inr 8) ∧ (∃ P8 : Hp → Prop, C_X8_append w sh (h6.2.1 x0 0) x1 x2 x3 h6 P8 ∧ (∀ h11 : Hp, P8 h11 → (shAt sh (h11.2.1 x0 0) = some (.inr 8) ∧ (∃ P13 : Hp → Prop, C_X8_append w sh (h11.2.1 x0 0) x4 x5 x6 h11 P13 ∧ (∀ h16 : Hp, P13 h16 → (∃ P17 : Hp → Prop, C_J7_fill_53178 w sh (h16.2.1 x0 1) (-1 : Int32) h16 P17 ∧ (∀ h20 : Hp, P17 h20 → (∀ h21 : Hp, h21 = wI h20 x0 3 (0 : Int32) → (RET h21)))))))))))))
set_option maxRecDepth 20000 in
set_option maxHeartbeats 4000000 in
theorem W_X3_lay_0 {w : Wd} {E : GE} {sh : List Sh} {x0 : Nat} {x1 : Nat} {x2 : Int32} {x3 : Int32} {x4 : Nat} {x5 : Int32} {x6 : Int32} {h : Hp}  {RET : Hp → Prop} (X : Cx w E cX3_lay 7 RX3) (Tt : Rt w E none sh.length 0 0 (fun q sh9 h9 => q = none ∧ sh9 = sh ∧ RET h9)) (hR : gR E = { frames := 2, cells := 0, slots := 0, locals := 64 }) (hV : V_X3_lay_0 w sh x0 x1 x2 x3 x4 x5 x6 h RET) : G w E 7 0 [(0, rv w.2.2.2 x0), (1, rv w.2.2.2 x1), (2, Value.int x2), (3, Value.int x3), (4, rv w.2.2.2 x4), (5, Value.int x5), (6, Value.int x6)] [] sh h 0 0 := by
  unfold V_X3_lay_0 at hV
  refine g_aload_n (pc := 0) X 0 rfl rfl dX3_lay_0 ?_
  obtain ⟨q1, hV⟩ := hV
  refine g_getR (pc := 1) X fl_X3_14 q1 dX3_lay_1 ?_
  obtain ⟨q2, hV⟩ := hV
  obtain ⟨P3, t4, hV⟩ := hV
  refine g_cVV (pc := 4) X (As := []) ml_X3_27 rfl q2 t4 (by rw [hR]; exact ⟨by decide, by decide, by decide, by decide⟩) rfl rfl (Nat.zero_le _) dX3_lay_4 (fun h6 p5 => ?_)
  have hV := hV h6 p5
  refine g_aload_n (pc := 7) X 0 rfl rfl dX3_lay_7 ?_
  refine g_getR (pc := 8) X fl_X3_14 q1 dX3_lay_8 ?_
  refine g_aload_n (pc := 11) X 1 rfl rfl dX3_lay_11 ?_
  refine g_iload_n (pc := 12) X 2 rfl rfl dX3_lay_12 ?_
  refine g_iload_n (pc := 13) X 3 rfl rfl dX3_lay_13 ?_
  obtain ⟨q7, hV⟩ := hV
  obtain ⟨P8, t9, hV⟩ := hV
  refine g_cVV (pc := 14) X (As := [rv w.2.2.2 x1, Value.int x2, Value.int x3]) ml_X3_30 rfl q7 t9 (by rw [hR]; exact ⟨by decide, by decide, by decide, by decide⟩) rfl rfl (Nat.zero_le _) dX3_lay_14 (fun h11 p10 => ?_)
  have hV := hV h11 p10
  refine g_aload_n (pc := 17) X 0 rfl rfl dX3_lay_17 ?_
  refine g_getR (pc := 18) X fl_X3_14 q1 dX3_lay_18 ?_
  refine g_aload (pc := 21) X 4 rfl dX3_lay_21 ?_
  refine g_iload (pc := 23) X 5 rfl dX3_lay_23 ?_
  refine g_iload (pc := 25) X 6 rfl dX3_lay_25 ?_
  obtain ⟨q12, hV⟩ := hV
  obtain ⟨P13, t14, hV⟩ := hV
  refine g_cVV (pc := 27) X (As := [rv w.2.2.2 x4, Value.int x5, Value.int x6]) ml_X3_30 rfl q12 t14 (by rw [hR]; exact ⟨by decide, by decide, by decide, by decide⟩) rfl rfl (Nat.zero_le _) dX3_lay_27 (fun h16 p15 => ?_)
  have hV := hV h16 p15
  refine g_aload_n (pc := 30) X 0 rfl rfl dX3_lay_30 ?_
  refine g_getR (pc := 31) X fl_X3_20 q1 dX3_lay_31 ?_
  refine g_iconst (pc := 34) (v := (-1 : Int32)) X dX3_lay_34 (by decide) ?_
  obtain ⟨P17, t18, hV⟩ := hV
  refine g_cSV (pc := 35) X (As := [rv w.2.2.2 (h16.2.1 x0 1), Value.int (-1 : Int32)]) ml_X3_34 t18 (by rw [hR]; exact ⟨by decide, by decide, by decide, by decide⟩) rfl rfl (Nat.zero_le _) dX3_lay_35 (fun h20 p19 => ?_)
  have hV := hV h20 p19
  refine g_aload_n (pc := 38) X 0 rfl rfl dX3_lay_38 ?_
  refine g_iconst (pc := 39) (v := (0 : Int32)) X dX3_lay_39 (by decide) ?_
  refine g_putI (pc := 40) X fl_X3_40 q1 rfl rfl dX3_lay_40 (fun h21 e22 => ?_)
  have hV := hV h21 e22
  exact g_vret (pc := 43) X Tt ⟨rfl, rfl, hV⟩ dX3_lay_43
def C_X3_lay (w : Wd) (sh : List Sh) (x0 : Nat) (x1 : Nat) (x2 : Int32) (x3 : Int32) (x4 : Nat) (x5 : Int32) (x6 : Int32) (h : Hp) (RET : Hp → Prop) : Prop := CV w yX3_lay (.code yX3_lay cX3_lay 7 none) 2 64 [rv w.2.2.2 x0, rv w.2.2.2 x1, Value.int x2, Value.int x3, rv w.2.2.2 x4, Value.int x5, Value.int x6] sh h RET
theorem K_X3_lay {w : Wd} {sh : List Sh} {x0 : Nat} {x1 : Nat} {x2 : Int32} {x3 : Int32} {x4 : Nat} {x5 : Int32} {x6 : Int32} {h : Hp} {RET : Hp → Prop} (hV : V_X3_lay_0 w sh x0 x1 x2 x3 x4 x5 x6 h RET) : C_X3_lay w sh x0 x1 x2 x3 x4 x5 x6 h RET :=
  Ct_of (by decide +kernel) (by simp [lg_sl, rv_cat, cat_int, cat_long]) (fun E X Tt hR _ => by
    rw [show lv_args 0 [rv w.2.2.2 x0, rv w.2.2.2 x1, Value.int x2, Value.int x3, rv w.2.2.2 x4, Value.int x5, Value.int x6] = [(0, rv w.2.2.2 x0), (1, rv w.2.2.2 x1), (2, Value.int x2), (3, Value.int x3), (4, rv w.2.2.2 x4), (5, Value.int x5), (6, Value.int x6)] from by simp [lv_args, rv_cat, cat_int, cat_long]]
    refine g_lv [0, 1, 2, 3, 4, 5, 6] rfl ?_
    exact W_X3_lay_0 X Tt hR hV)
def V_X3_end_0 (w : Wd) (sh : List Sh) (x0 : Nat) (h : Hp)  (RET : Int32 → Hp → Prop) : Prop :=
  shAt sh x0 = some (.inr 3) ∧ (shAt sh (h.2.1 x0 0) = some (.inr 8) ∧ (∃ P3 : Int32 → Hp → Prop, C_X8_length w sh (h.2.1 x0 0) h P3 ∧ (∀ (v7 : Int32) (h6 : Hp), P3 v7 h6 → (RET v7 h6))))
set_option maxRecDepth 20000 in
set_option maxHeartbeats 4000000 in
theorem W_X3_end_0 {w : Wd} {E : GE} {sh : List Sh} {x0 : Nat} {h : Hp}  {RET : Int32 → Hp → Prop} (X : Cx w E cX3_end 1 RX3) (Tt : Rt w E (some .int) sh.length 0 0 (fun q sh9 h9 => ∃ v : Int32, q = some (Value.int v) ∧ sh9 = sh ∧ RET v h9)) (hR : gR E = { frames := 1, cells := 0, slots := 0, locals := 20 }) (hV : V_X3_end_0 w sh x0 h RET) : G w E 1 0 [(0, rv w.2.2.2 x0)] [] sh h 0 0 := by
  unfold V_X3_end_0 at hV
  refine g_aload_n (pc := 0) X 0 rfl rfl dX3_end_0 ?_
  obtain ⟨q1, hV⟩ := hV
  refine g_getR (pc := 1) X fl_X3_14 q1 dX3_end_1 ?_
  obtain ⟨q2, hV⟩ := hV
  obtain ⟨P3, t4, hV⟩ := hV
  refine g_cVI (pc := 4) X (As := []) ml_X3_48 rfl q2 t4 (by rw [hR]; exact ⟨by decide, by decide, by decide, by decide⟩) rfl rfl (Nat.zero_le _) dX3_end_4 (fun v7 h6 p5 => ?_)
  have hV := hV v7 h6 p5
  exact g_iret (pc := 7) X Tt ⟨_, rfl, rfl, hV⟩ dX3_end_7
def C_X3_end (w : Wd) (sh : List Sh) (x0 : Nat) (h : Hp) (RET : Int32 → Hp → Prop) : Prop := CI w yX3_end (.code yX3_end cX3_end 1 (some .int)) 1 20 [rv w.2.2.2 x0] sh h RET
theorem K_X3_end {w : Wd} {sh : List Sh} {x0 : Nat} {h : Hp} {RET : Int32 → Hp → Prop} (hV : V_X3_end_0 w sh x0 h RET) : C_X3_end w sh x0 h RET :=
  Ct_of (by decide +kernel) (by simp [lg_sl, rv_cat, cat_int, cat_long]) (fun E X Tt hR _ => by
    rw [show lv_args 0 [rv w.2.2.2 x0] = [(0, rv w.2.2.2 x0)] from by simp [lv_args, rv_cat, cat_int, cat_long]]
    refine g_lv [0] rfl ?_
    exact W_X3_end_0 X Tt hR hV)
def V_X3_chainOf_0 (w : Wd) (sh : List Sh) (x0 : Nat) (x1 : Int32) (h : Hp)  (RET : Int32 → Hp → Prop) : Prop :=
  shAt sh x0 = some (.inr 3) ∧ (shAt sh (h.2.1 x0 0) = some (.inr 8) ∧ (∃ P3 : Int32 → Hp → Prop, C_X8_at w sh (h.2.1 x0 0) x1 h P3 ∧ (∀ (v7 : Int32) (h6 : Hp), P3 v7 h6 → (shAt sh (h6.2.1 x0 0) = some (.inr 8) ∧ (∃ P9 : Int32 → Hp → Prop, C_X8_at w sh (h6.2.1 x0 0) (x1 + (1 : Int32)) h6 P9 ∧ (∀ (v13 : Int32) (h12 : Hp), P9 v13 h12 → (shAt sh (h12.2.1 x0 0) = some (.inr 8) ∧ (∃ P15 : Int32 → Hp → Prop, C_X8_at w sh (h12.2.1 x0 0) (x1 + (2 : Int32)) h12 P15 ∧ (∀ (v19 : Int32) (h18 : Hp), P15 v19 h18 → (shAt sh (h18.2.1 x0 0) = some (.inr 8) ∧ (∃ P21 : Int32 → Hp → Prop, C_X8_at w sh (h18.2.1 x0 0) (x1 + (3 : Int32)) h18 P21 ∧ (∀ (v25 : Int32) (h24 : Hp), P21 v25 h24 → (∀ y26 : Int32, y26 = ((((v7 <<< ((24 : Int32) &&& 31)) ||| (v13 <<< ((16 : Int32) &&& 31))) ||| (v19 <<< ((8 : Int32) &&& 31))) ||| v25) → (RET ((((y26 * (-1640531535 : Int32)).toUInt32 >>> ((16 : Int32).toUInt32 &&& Int32.toUInt32 31)).toInt32) - (((y26 * (-1640531535 : Int32)).toUInt32 >>> ((16 : Int32).toUInt32 &&& Int32.toUInt32 31)).toInt32) / (1024 : Int32) * (1024 : Int32)) h24))))))))))))))
set_option maxRecDepth 20000 in
set_option maxHeartbeats 4000000 in
theorem W_X3_chainOf_0 {w : Wd} {E : GE} {sh : List Sh} {x0 : Nat} {x1 : Int32} {h : Hp}  {RET : Int32 → Hp → Prop} (X : Cx w E cX3_chainOf 3 RX3) (Tt : Rt w E (some .int) sh.length 0 0 (fun q sh9 h9 => ∃ v : Int32, q = some (Value.int v) ∧ sh9 = sh ∧ RET v h9)) (hR : gR E = { frames := 1, cells := 0, slots := 0, locals := 21 }) (hV : V_X3_chainOf_0 w sh x0 x1 h RET) : G w E 3 0 [(0, rv w.2.2.2 x0), (1, Value.int x1)] [] sh h 0 0 := by
  unfold V_X3_chainOf_0 at hV
  refine g_aload_n (pc := 0) X 0 rfl rfl dX3_chainOf_0 ?_
  obtain ⟨q1, hV⟩ := hV
  refine g_getR (pc := 1) X fl_X3_14 q1 dX3_chainOf_1 ?_
  refine g_iload_n (pc := 4) X 1 rfl rfl dX3_chainOf_4 ?_
  obtain ⟨q2, hV⟩ := hV
  obtain ⟨P3, t4, hV⟩ := hV
  refine g_cVI (pc := 5) X (As := [Value.int x1]) ml_X3_44 rfl q2 t4 (by rw [hR]; exact ⟨by decide, by decide, by decide, by decide⟩) rfl rfl (Nat.zero_le _) dX3_chainOf_5 (fun v7 h6 p5 => ?_)
  have hV := hV v7 h6 p5
  refine g_bipush (pc := 8) (v := (24 : Int32)) X dX3_chainOf_8 (by decide) ?_
  refine g_ishl (pc := 10) X dX3_chainOf_10 ?_
  refine g_aload_n (pc := 11) X 0 rfl rfl dX3_chainOf_11 ?_
  refine g_getR (pc := 12) X fl_X3_14 q1 dX3_chainOf_12 ?_
  refine g_iload_n (pc := 15) X 1 rfl rfl dX3_chainOf_15 ?_
  refine g_iconst (pc := 16) (v := (1 : Int32)) X dX3_chainOf_16 (by decide) ?_
  refine g_iadd (pc := 17) X dX3_chainOf_17 ?_
  obtain ⟨q8, hV⟩ := hV
  obtain ⟨P9, t10, hV⟩ := hV
  refine g_cVI (pc := 18) X (As := [Value.int (x1 + (1 : Int32))]) ml_X3_44 rfl q8 t10 (by rw [hR]; exact ⟨by decide, by decide, by decide, by decide⟩) rfl rfl (Nat.le_of_ble_eq_true rfl) dX3_chainOf_18 (fun v13 h12 p11 => ?_)
  have hV := hV v13 h12 p11
  refine g_bipush (pc := 21) (v := (16 : Int32)) X dX3_chainOf_21 (by decide) ?_
  refine g_ishl (pc := 23) X dX3_chainOf_23 ?_
  refine g_ior (pc := 24) X dX3_chainOf_24 ?_
  refine g_aload_n (pc := 25) X 0 rfl rfl dX3_chainOf_25 ?_
  refine g_getR (pc := 26) X fl_X3_14 q1 dX3_chainOf_26 ?_
  refine g_iload_n (pc := 29) X 1 rfl rfl dX3_chainOf_29 ?_
  refine g_iconst (pc := 30) (v := (2 : Int32)) X dX3_chainOf_30 (by decide) ?_
  refine g_iadd (pc := 31) X dX3_chainOf_31 ?_
  obtain ⟨q14, hV⟩ := hV
  obtain ⟨P15, t16, hV⟩ := hV
  refine g_cVI (pc := 32) X (As := [Value.int (x1 + (2 : Int32))]) ml_X3_44 rfl q14 t16 (by rw [hR]; exact ⟨by decide, by decide, by decide, by decide⟩) rfl rfl (Nat.le_of_ble_eq_true rfl) dX3_chainOf_32 (fun v19 h18 p17 => ?_)
  have hV := hV v19 h18 p17
  refine g_bipush (pc := 35) (v := (8 : Int32)) X dX3_chainOf_35 (by decide) ?_
  refine g_ishl (pc := 37) X dX3_chainOf_37 ?_
  refine g_ior (pc := 38) X dX3_chainOf_38 ?_
  refine g_aload_n (pc := 39) X 0 rfl rfl dX3_chainOf_39 ?_
  refine g_getR (pc := 40) X fl_X3_14 q1 dX3_chainOf_40 ?_
  refine g_iload_n (pc := 43) X 1 rfl rfl dX3_chainOf_43 ?_
  refine g_iconst (pc := 44) (v := (3 : Int32)) X dX3_chainOf_44 (by decide) ?_
  refine g_iadd (pc := 45) X dX3_chainOf_45 ?_
  obtain ⟨q20, hV⟩ := hV
  obtain ⟨P21, t22, hV⟩ := hV
  refine g_cVI (pc := 46) X (As := [Value.int (x1 + (3 : Int32))]) ml_X3_44 rfl q20 t22 (by rw [hR]; exact ⟨by decide, by decide, by decide, by decide⟩) rfl rfl (Nat.le_of_ble_eq_true rfl) dX3_chainOf_46 (fun v25 h24 p23 => ?_)
  have hV := hV v25 h24 p23
  refine g_ior (pc := 49) X dX3_chainOf_49 ?_
  refine g_istore_n (pc := 50) X (i := 2) (rest := [(0, rv w.2.2.2 x0), (1, Value.int x1)]) rfl (by decide) rfl dX3_chainOf_50 (fun y26 e27 => ?_)
  have hV := hV y26 e27
  refine g_iload_n (pc := 51) X 0 rfl rfl dX3_chainOf_51 ?_
  refine g_ldc (pc := 52) X kc_X3_52 dX3_chainOf_52 ?_
  refine g_imul (pc := 54) X dX3_chainOf_54 ?_
  refine g_bipush (pc := 55) (v := (16 : Int32)) X dX3_chainOf_55 (by decide) ?_
  refine g_iushr (pc := 57) X dX3_chainOf_57 ?_
  refine g_sipush (pc := 58) (v := (1024 : Int32)) X dX3_chainOf_58 (by decide) ?_
  refine g_irem (pc := 61) X dX3_chainOf_61 (by decide) ?_
  exact g_iret (pc := 62) X Tt ⟨_, rfl, rfl, hV⟩ dX3_chainOf_62
def C_X3_chainOf (w : Wd) (sh : List Sh) (x0 : Nat) (x1 : Int32) (h : Hp) (RET : Int32 → Hp → Prop) : Prop := CI w yX3_chainOf (.code yX3_chainOf cX3_chainOf 3 (some .int)) 1 21 [rv w.2.2.2 x0, Value.int x1] sh h RET
theorem K_X3_chainOf {w : Wd} {sh : List Sh} {x0 : Nat} {x1 : Int32} {h : Hp} {RET : Int32 → Hp → Prop} (hV : V_X3_chainOf_0 w sh x0 x1 h RET) : C_X3_chainOf w sh x0 x1 h RET :=
  Ct_of (by decide +kernel) (by simp [lg_sl, rv_cat, cat_int, cat_long]) (fun E X Tt hR _ => by
    rw [show lv_args 0 [rv w.2.2.2 x0, Value.int x1] = [(0, rv w.2.2.2 x0), (1, Value.int x1)] from by simp [lv_args, rv_cat, cat_int, cat_long]]
    refine g_lv [0, 1] rfl ?_
    exact W_X3_chainOf_0 X Tt hR hV)
def V_X3_enterUpTo_0 (w : Wd) (sh : List Sh) (x0 : Nat) (x1 : Int32) (h : Hp) (L0 : Nat → Int32 → Hp → Prop) (RET : Hp → Prop) : Prop :=
  shAt sh x0 = some (.inr 3) ∧ (((x1 ≤ (h.1 x0 3)) → (RET h)) ∧ ((¬ x1 ≤ (h.1 x0 3)) → (∃ n4 : Nat, shAt sh (h.2.1 x0 2) = some (.inl (1, n4)) ∧ ((((Int32.ofNat n4) ≤ (h.1 x0 3)) → (RET h)) ∧ ((¬ (Int32.ofNat n4) ≤ (h.1 x0 3)) → (∃ P6 : Int32 → Hp → Prop, C_X3_chainOf w sh x0 (h.1 x0 3) h P6 ∧ (∀ (v10 : Int32) (h9 : Hp), P6 v10 h9 → (∀ y11 : Int32, y11 = v10 → (∃ n14 : Nat, shAt sh (h9.2.1 x0 1) = some (.inl (1, n14)) ∧ (vp_in y11 n14 ∧ (∃ n17 : Nat, shAt sh (h9.2.1 x0 2) = some (.inl (1, n17)) ∧ (vp_in (h9.1 x0 3) n17 ∧ (∀ h19 : Hp, h19 = wI h9 (h9.2.1 x0 2) (h9.1 x0 3).toNatClampNeg (h9.1 (h9.2.1 x0 1) y11.toNatClampNeg) → (vp_in y11 n14 ∧ (∀ h22 : Hp, h22 = wI h19 (h9.2.1 x0 1) y11.toNatClampNeg (h19.1 x0 3) → (∀ h24 : Hp, h24 = wI h22 x0 3 ((h22.1 x0 3) + (1 : Int32)) → (L0 x0 x1 h24)))))))))))))))))
set_option maxRecDepth 20000 in
set_option maxHeartbeats 4000000 in
theorem W_X3_enterUpTo_0 {w : Wd} {E : GE} {sh : List Sh} {x0 : Nat} {x1 : Int32} {h : Hp} {L0 : Nat → Int32 → Hp → Prop} {RET : Hp → Prop} (X : Cx w E cX3_enterUpTo 3 RX3) (Tt : Rt w E none sh.length 0 0 (fun q sh9 h9 => q = none ∧ sh9 = sh ∧ RET h9)) (hR : gR E = { frames := 2, cells := 0, slots := 0, locals := 43 }) (hL0 : ∀ (x0 : Nat) (x1 : Int32) (h : Hp), L0 x0 x1 h → G w E 3 0 [(0, rv w.2.2.2 x0), (1, Value.int x1)] [] sh h 0 0) (hV : V_X3_enterUpTo_0 w sh x0 x1 h L0 RET) : G w E 3 0 [(0, rv w.2.2.2 x0), (1, Value.int x1)] [] sh h 0 0 := by
  unfold V_X3_enterUpTo_0 at hV
  refine g_aload_n (pc := 0) X 0 rfl rfl dX3_enterUpTo_0 ?_
  obtain ⟨q1, hV⟩ := hV
  refine g_getI (pc := 1) X fl_X3_40 q1 dX3_enterUpTo_1 ?_
  refine g_iload_n (pc := 4) X 1 rfl rfl dX3_enterUpTo_4 ?_
  refine g_icmp_ge (pc := 5) X 67 dX3_enterUpTo_5 (by decide) (fun c2 => ?_) (fun c2 => ?_)
  · have hV := hV.1 c2
    exact g_vret (pc := 67) X Tt ⟨rfl, rfl, hV⟩ dX3_enterUpTo_67
  · have hV := hV.2 c2
    refine g_aload_n (pc := 8) X 0 rfl rfl dX3_enterUpTo_8 ?_
    refine g_getI (pc := 9) X fl_X3_40 q1 dX3_enterUpTo_9 ?_
    refine g_aload_n (pc := 12) X 0 rfl rfl dX3_enterUpTo_12 ?_
    refine g_getR (pc := 13) X fl_X3_24 q1 dX3_enterUpTo_13 ?_
    obtain ⟨n4, q3, hV⟩ := hV
    refine g_len (pc := 16) X (t := 1) (by decide) q3 dX3_enterUpTo_16 ?_
    refine g_icmp_ge (pc := 17) X 67 dX3_enterUpTo_17 (by decide) (fun c5 => ?_) (fun c5 => ?_)
    · have hV := hV.1 c5
      exact g_vret (pc := 67) X Tt ⟨rfl, rfl, hV⟩ dX3_enterUpTo_67
    · have hV := hV.2 c5
      refine g_aload_n (pc := 20) X 0 rfl rfl dX3_enterUpTo_20 ?_
      refine g_aload_n (pc := 21) X 0 rfl rfl dX3_enterUpTo_21 ?_
      refine g_getI (pc := 22) X fl_X3_40 q1 dX3_enterUpTo_22 ?_
      obtain ⟨P6, t7, hV⟩ := hV
      refine g_cVI (pc := 25) X (As := [Value.int (h.1 x0 3)]) ml_X3_53 rfl q1 t7 (by rw [hR]; exact ⟨by decide, by decide, by decide, by decide⟩) rfl rfl (Nat.zero_le _) dX3_enterUpTo_25 (fun v10 h9 p8 => ?_)
      have hV := hV v10 h9 p8
      refine g_istore_n (pc := 28) X (i := 2) (rest := [(0, rv w.2.2.2 x0), (1, Value.int x1)]) rfl (by decide) rfl dX3_enterUpTo_28 (fun y11 e12 => ?_)
      have hV := hV y11 e12
      refine g_aload_n (pc := 29) X 1 rfl rfl dX3_enterUpTo_29 ?_
      refine g_getR (pc := 30) X fl_X3_24 q1 dX3_enterUpTo_30 ?_
      refine g_aload_n (pc := 33) X 1 rfl rfl dX3_enterUpTo_33 ?_
      refine g_getI (pc := 34) X fl_X3_40 q1 dX3_enterUpTo_34 ?_
      refine g_aload_n (pc := 37) X 1 rfl rfl dX3_enterUpTo_37 ?_
      refine g_getR (pc := 38) X fl_X3_20 q1 dX3_enterUpTo_38 ?_
      refine g_iload_n (pc := 41) X 0 rfl rfl dX3_enterUpTo_41 ?_
      obtain ⟨n14, q13, hV⟩ := hV
      obtain ⟨q15, hV⟩ := hV
      refine g_iald (pc := 42) X q13 q15 dX3_enterUpTo_42 ?_
      obtain ⟨n17, q16, hV⟩ := hV
      obtain ⟨q18, hV⟩ := hV
      refine g_iast (pc := 43) X q16 q18 dX3_enterUpTo_43 (fun h19 e20 => ?_)
      have hV := hV h19 e20
      refine g_aload_n (pc := 44) X 1 rfl rfl dX3_enterUpTo_44 ?_
      refine g_getRe (pc := 45) X fl_X3_20 q1 (congrFun (congrFun (rfI e20) _) _) dX3_enterUpTo_45 ?_
      refine g_iload_n (pc := 48) X 0 rfl rfl dX3_enterUpTo_48 ?_
      refine g_aload_n (pc := 49) X 1 rfl rfl dX3_enterUpTo_49 ?_
      refine g_getI (pc := 50) X fl_X3_40 q1 dX3_enterUpTo_50 ?_
      obtain ⟨q21, hV⟩ := hV
      refine g_iast (pc := 53) X q13 q21 dX3_enterUpTo_53 (fun h22 e23 => ?_)
      have hV := hV h22 e23
      refine g_aload_n (pc := 54) X 1 rfl rfl dX3_enterUpTo_54 ?_
      refine g_dup (pc := 55) X dX3_enterUpTo_55 (rv_cat _ _) ?_
      refine g_getI (pc := 56) X fl_X3_40 q1 dX3_enterUpTo_56 ?_
      refine g_iconst (pc := 59) (v := (1 : Int32)) X dX3_enterUpTo_59 (by decide) ?_
      refine g_iadd (pc := 60) X dX3_enterUpTo_60 ?_
      refine g_putI (pc := 61) X fl_X3_40 q1 rfl rfl dX3_enterUpTo_61 (fun h24 e25 => ?_)
      have hV := hV h24 e25
      refine g_goto (pc := 64) X 0 dX3_enterUpTo_64 (by decide) ?_
      refine g_lv [1, 2] rfl ?_
      exact hL0 x0 x1 h24 hV
def C_X3_enterUpTo (w : Wd) (sh : List Sh) (x0 : Nat) (x1 : Int32) (h : Hp) (RET : Hp → Prop) : Prop := CV w yX3_enterUpTo (.code yX3_enterUpTo cX3_enterUpTo 3 none) 2 43 [rv w.2.2.2 x0, Value.int x1] sh h RET
set_option maxRecDepth 20000 in
theorem K_X3_enterUpTo {w : Wd} {sh : List Sh} {x0 : Nat} {x1 : Int32} {h : Hp} {RET : Hp → Prop} {α : Type} {r : α → α → Prop} (wf : WellFounded r) (I0 : α → Nat → Int32 → Hp → Prop) (hE : V_X3_enterUpTo_0 w sh x0 x1 h (fun x0 x1 h => ∃ a, I0 a x0 x1 h) RET) (h0 : ∀ (b : α) (x0 : Nat) (x1 : Int32) (h : Hp), I0 b x0 x1 h → V_X3_enterUpTo_0 w sh x0 x1 h (fun x0 x1 h => ∃ a, r a b ∧ I0 a x0 x1 h) RET) : C_X3_enterUpTo w sh x0 x1 h RET :=
  Ct_of (by decide +kernel) (by simp [lg_sl, rv_cat, cat_int, cat_long]) (fun E X Tt hR _ => by
    have key : ∀ a : α, (∀ (x0 : Nat) (x1 : Int32) (h : Hp), I0 a x0 x1 h → G w E 3 0 [(0, rv w.2.2.2 x0), (1, Value.int x1)] [] sh h 0 0) := by
      intro a
      induction a using wf.induction with
      | _ a ih =>
        exact (fun x0 x1 h hi => W_X3_enterUpTo_0 X Tt hR (fun x0 x1 h hx => by obtain ⟨a2, ha, hi⟩ := hx; exact (ih a2 ha) x0 x1 h hi) (h0 a x0 x1 h hi))
    rw [show lv_args 0 [rv w.2.2.2 x0, Value.int x1] = [(0, rv w.2.2.2 x0), (1, Value.int x1)] from by simp [lv_args, rv_cat, cat_int, cat_long]]
    refine g_lv [0, 1] rfl ?_
    exact W_X3_enterUpTo_0 X Tt hR (fun x0 x1 h hx => by obtain ⟨a2, hi⟩ := hx; exact (key a2) x0 x1 h hi) hE)
def V_X3_sameLength_2 (w : Wd) (sh : List Sh) (x0 : Nat) (x1 : Int32) (x2 : Int32) (x3 : Int32) (h : Hp) (L2 : Nat → Int32 → Int32 → Int32 → Hp → Prop) (RET : Int32 → Hp → Prop) : Prop :=
  shAt sh x0 = some (.inr 3) ∧ (shAt sh (h.2.1 x0 0) = some (.inr 8) ∧ (∃ P3 : Int32 → Hp → Prop, C_X8_length w sh (h.2.1 x0 0) h P3 ∧ (∀ (v7 : Int32) (h6 : Hp), P3 v7 h6 → (((v7 ≤ (x2 + x3)) → (RET x3 h6)) ∧ ((¬ v7 ≤ (x2 + x3)) → (shAt sh (h6.2.1 x0 0) = some (.inr 8) ∧ (∃ P10 : Int32 → Hp → Prop, C_X8_at w sh (h6.2.1 x0 0) (x1 + x3) h6 P10 ∧ (∀ (v14 : Int32) (h13 : Hp), P10 v14 h13 → (shAt sh (h13.2.1 x0 0) = some (.inr 8) ∧ (∃ P16 : Int32 → Hp → Prop, C_X8_at w sh (h13.2.1 x0 0) (x2 + x3) h13 P16 ∧ (∀ (v20 : Int32) (h19 : Hp), P16 v20 h19 → (((¬ v14 = v20) → (RET x3 h19)) ∧ ((v14 = v20) → (∀ y22 : Int32, y22 = x3 + (1 : Int32) → (L2 x0 x1 x2 y22 h19)))))))))))))))
set_option maxRecDepth 20000 in
set_option maxHeartbeats 4000000 in
theorem W_X3_sameLength_2 {w : Wd} {E : GE} {sh : List Sh} {x0 : Nat} {x1 : Int32} {x2 : Int32} {x3 : Int32} {h : Hp} {L2 : Nat → Int32 → Int32 → Int32 → Hp → Prop} {RET : Int32 → Hp → Prop} (X : Cx w E cX3_sameLength 4 RX3) (Tt : Rt w E (some .int) sh.length 0 0 (fun q sh9 h9 => ∃ v : Int32, q = some (Value.int v) ∧ sh9 = sh ∧ RET v h9)) (hR : gR E = { frames := 1, cells := 0, slots := 0, locals := 21 }) (hL2 : ∀ (x0 : Nat) (x1 : Int32) (x2 : Int32) (x3 : Int32) (h : Hp), L2 x0 x1 x2 x3 h → G w E 4 2 [(0, rv w.2.2.2 x0), (1, Value.int x1), (2, Value.int x2), (3, Value.int x3)] [] sh h 0 0) (hV : V_X3_sameLength_2 w sh x0 x1 x2 x3 h L2 RET) : G w E 4 2 [(0, rv w.2.2.2 x0), (1, Value.int x1), (2, Value.int x2), (3, Value.int x3)] [] sh h 0 0 := by
  unfold V_X3_sameLength_2 at hV
  refine g_iload_n (pc := 2) X 2 rfl rfl dX3_sameLength_2 ?_
  refine g_iload_n (pc := 3) X 3 rfl rfl dX3_sameLength_3 ?_
  refine g_iadd (pc := 4) X dX3_sameLength_4 ?_
  refine g_aload_n (pc := 5) X 0 rfl rfl dX3_sameLength_5 ?_
  obtain ⟨q1, hV⟩ := hV
  refine g_getR (pc := 6) X fl_X3_14 q1 dX3_sameLength_6 ?_
  obtain ⟨q2, hV⟩ := hV
  obtain ⟨P3, t4, hV⟩ := hV
  refine g_cVI (pc := 9) X (As := []) ml_X3_48 rfl q2 t4 (by rw [hR]; exact ⟨by decide, by decide, by decide, by decide⟩) rfl rfl (Nat.le_of_ble_eq_true rfl) dX3_sameLength_9 (fun v7 h6 p5 => ?_)
  have hV := hV v7 h6 p5
  refine g_icmp_ge (pc := 12) X 44 dX3_sameLength_12 (by decide) (fun c8 => ?_) (fun c8 => ?_)
  · have hV := hV.1 c8
    refine g_iload_n (pc := 44) X 3 rfl rfl dX3_sameLength_44 ?_
    exact g_iret (pc := 45) X Tt ⟨_, rfl, rfl, hV⟩ dX3_sameLength_45
  · have hV := hV.2 c8
    refine g_aload_n (pc := 15) X 0 rfl rfl dX3_sameLength_15 ?_
    refine g_getR (pc := 16) X fl_X3_14 q1 dX3_sameLength_16 ?_
    refine g_iload_n (pc := 19) X 1 rfl rfl dX3_sameLength_19 ?_
    refine g_iload_n (pc := 20) X 3 rfl rfl dX3_sameLength_20 ?_
    refine g_iadd (pc := 21) X dX3_sameLength_21 ?_
    obtain ⟨q9, hV⟩ := hV
    obtain ⟨P10, t11, hV⟩ := hV
    refine g_cVI (pc := 22) X (As := [Value.int (x1 + x3)]) ml_X3_44 rfl q9 t11 (by rw [hR]; exact ⟨by decide, by decide, by decide, by decide⟩) rfl rfl (Nat.zero_le _) dX3_sameLength_22 (fun v14 h13 p12 => ?_)
    have hV := hV v14 h13 p12
    refine g_aload_n (pc := 25) X 0 rfl rfl dX3_sameLength_25 ?_
    refine g_getR (pc := 26) X fl_X3_14 q1 dX3_sameLength_26 ?_
    refine g_iload_n (pc := 29) X 2 rfl rfl dX3_sameLength_29 ?_
    refine g_iload_n (pc := 30) X 3 rfl rfl dX3_sameLength_30 ?_
    refine g_iadd (pc := 31) X dX3_sameLength_31 ?_
    obtain ⟨q15, hV⟩ := hV
    obtain ⟨P16, t17, hV⟩ := hV
    refine g_cVI (pc := 32) X (As := [Value.int (x2 + x3)]) ml_X3_44 rfl q15 t17 (by rw [hR]; exact ⟨by decide, by decide, by decide, by decide⟩) rfl rfl (Nat.le_of_ble_eq_true rfl) dX3_sameLength_32 (fun v20 h19 p18 => ?_)
    have hV := hV v20 h19 p18
    refine g_icmp_ne (pc := 35) X 44 dX3_sameLength_35 (by decide) (fun c21 => ?_) (fun c21 => ?_)
    · have hV := hV.1 c21
      refine g_iload_n (pc := 44) X 3 rfl rfl dX3_sameLength_44 ?_
      exact g_iret (pc := 45) X Tt ⟨_, rfl, rfl, hV⟩ dX3_sameLength_45
    · have hV := hV.2 c21
      refine g_iinc (pc := 38) X 3 (v := (1 : Int32)) (rest := [(0, rv w.2.2.2 x0), (1, Value.int x1), (2, Value.int x2)]) rfl (by decide) rfl (by decide) dX3_sameLength_38 (fun y22 e23 => ?_)
      have hV := hV y22 e23
      refine g_goto (pc := 41) X 2 dX3_sameLength_41 (by decide) ?_
      refine g_lv [1, 2, 3, 0] rfl ?_
      exact hL2 x0 x1 x2 y22 h19 hV
def V_X3_sameLength_0 (w : Wd) (sh : List Sh) (x0 : Nat) (x1 : Int32) (x2 : Int32) (h : Hp) (L2 : Nat → Int32 → Int32 → Int32 → Hp → Prop) (RET : Int32 → Hp → Prop) : Prop :=
  ∀ y1 : Int32, y1 = (0 : Int32) → (L2 x0 x1 x2 y1 h)
set_option maxRecDepth 20000 in
set_option maxHeartbeats 4000000 in
theorem W_X3_sameLength_0 {w : Wd} {E : GE} {sh : List Sh} {x0 : Nat} {x1 : Int32} {x2 : Int32} {h : Hp} {L2 : Nat → Int32 → Int32 → Int32 → Hp → Prop} {RET : Int32 → Hp → Prop} (X : Cx w E cX3_sameLength 4 RX3) (Tt : Rt w E (some .int) sh.length 0 0 (fun q sh9 h9 => ∃ v : Int32, q = some (Value.int v) ∧ sh9 = sh ∧ RET v h9)) (hR : gR E = { frames := 1, cells := 0, slots := 0, locals := 21 }) (hL2 : ∀ (x0 : Nat) (x1 : Int32) (x2 : Int32) (x3 : Int32) (h : Hp), L2 x0 x1 x2 x3 h → G w E 4 2 [(0, rv w.2.2.2 x0), (1, Value.int x1), (2, Value.int x2), (3, Value.int x3)] [] sh h 0 0) (hV : V_X3_sameLength_0 w sh x0 x1 x2 h L2 RET) : G w E 4 0 [(0, rv w.2.2.2 x0), (1, Value.int x1), (2, Value.int x2)] [] sh h 0 0 := by
  unfold V_X3_sameLength_0 at hV
  refine g_iconst (pc := 0) (v := (0 : Int32)) X dX3_sameLength_0 (by decide) ?_
  refine g_istore_n (pc := 1) X (i := 3) (rest := [(0, rv w.2.2.2 x0), (1, Value.int x1), (2, Value.int x2)]) rfl (by decide) rfl dX3_sameLength_1 (fun y1 e2 => ?_)
  have hV := hV y1 e2
  refine g_lv [1, 2, 3, 0] rfl ?_
  exact hL2 x0 x1 x2 y1 h hV
def C_X3_sameLength (w : Wd) (sh : List Sh) (x0 : Nat) (x1 : Int32) (x2 : Int32) (h : Hp) (RET : Int32 → Hp → Prop) : Prop := CI w yX3_sameLength (.code yX3_sameLength cX3_sameLength 4 (some .int)) 1 21 [rv w.2.2.2 x0, Value.int x1, Value.int x2] sh h RET
set_option maxRecDepth 20000 in
theorem K_X3_sameLength {w : Wd} {sh : List Sh} {x0 : Nat} {x1 : Int32} {x2 : Int32} {h : Hp} {RET : Int32 → Hp → Prop} {α : Type} {r : α → α → Prop} (wf : WellFounded r) (I2 : α → Nat → Int32 → Int32 → Int32 → Hp → Prop) (hE : V_X3_sameLength_0 w sh x0 x1 x2 h (fun x0 x1 x2 x3 h => ∃ a, I2 a x0 x1 x2 x3 h) RET) (h2 : ∀ (b : α) (x0 : Nat) (x1 : Int32) (x2 : Int32) (x3 : Int32) (h : Hp), I2 b x0 x1 x2 x3 h → V_X3_sameLength_2 w sh x0 x1 x2 x3 h (fun x0 x1 x2 x3 h => ∃ a, r a b ∧ I2 a x0 x1 x2 x3 h) RET) : C_X3_sameLength w sh x0 x1 x2 h RET :=
  Ct_of (by decide +kernel) (by simp [lg_sl, rv_cat, cat_int, cat_long]) (fun E X Tt hR _ => by
    have key : ∀ a : α, (∀ (x0 : Nat) (x1 : Int32) (x2 : Int32) (x3 : Int32) (h : Hp), I2 a x0 x1 x2 x3 h → G w E 4 2 [(0, rv w.2.2.2 x0), (1, Value.int x1), (2, Value.int x2), (3, Value.int x3)] [] sh h 0 0) := by
      intro a
      induction a using wf.induction with
      | _ a ih =>
        exact (fun x0 x1 x2 x3 h hi => W_X3_sameLength_2 X Tt hR (fun x0 x1 x2 x3 h hx => by obtain ⟨a2, ha, hi⟩ := hx; exact (ih a2 ha) x0 x1 x2 x3 h hi) (h2 a x0 x1 x2 x3 h hi))
    rw [show lv_args 0 [rv w.2.2.2 x0, Value.int x1, Value.int x2] = [(0, rv w.2.2.2 x0), (1, Value.int x1), (2, Value.int x2)] from by simp [lv_args, rv_cat, cat_int, cat_long]]
    refine g_lv [0, 1, 2] rfl ?_
    exact W_X3_sameLength_0 X Tt hR (fun x0 x1 x2 x3 h hx => by obtain ⟨a2, hi⟩ := hx; exact (key a2) x0 x1 x2 x3 h hi) hE)
def V_X3_search_121 (w : Wd) (sh : List Sh) (x0 : Nat) (x1 : Int32) (x2 : Int32) (x3 : Int32) (x4 : Int32) (h : Hp) (L49 : Nat → Int32 → Int32 → Int32 → Int32 → Hp → Prop) (RET : Hp → Prop) : Prop :=
  shAt sh x0 = some (.inr 3) ∧ (∃ n3 : Nat, shAt sh (h.2.1 x0 2) = some (.inl (1, n3)) ∧ (vp_in x2 n3 ∧ (∀ y5 : Int32, y5 = (h.1 (h.2.1 x0 2) x2.toNatClampNeg) → (∀ y7 : Int32, y7 = x4 + (1 : Int32) → (L49 x0 x1 y5 x3 y7 h)))))
set_option maxRecDepth 20000 in
set_option maxHeartbeats 4000000 in
theorem W_X3_search_121 {w : Wd} {E : GE} {sh : List Sh} {x0 : Nat} {x1 : Int32} {x2 : Int32} {x3 : Int32} {x4 : Int32} {h : Hp} {L49 : Nat → Int32 → Int32 → Int32 → Int32 → Hp → Prop} {RET : Hp → Prop} (X : Cx w E cX3_search 6 RX3) (Tt : Rt w E none sh.length 0 0 (fun q sh9 h9 => q = none ∧ sh9 = sh ∧ RET h9)) (hR : gR E = { frames := 3, cells := 0, slots := 0, locals := 65 }) (hL49 : ∀ (x0 : Nat) (x1 : Int32) (x2 : Int32) (x3 : Int32) (x4 : Int32) (h : Hp), L49 x0 x1 x2 x3 x4 h → G w E 6 49 [(0, rv w.2.2.2 x0), (1, Value.int x1), (2, Value.int x2), (3, Value.int x3), (4, Value.int x4)] [] sh h 0 0) (hV : V_X3_search_121 w sh x0 x1 x2 x3 x4 h L49 RET) : G w E 6 121 [(0, rv w.2.2.2 x0), (1, Value.int x1), (2, Value.int x2), (3, Value.int x3), (4, Value.int x4)] [] sh h 0 0 := by
  unfold V_X3_search_121 at hV
  refine g_aload_n (pc := 121) X 0 rfl rfl dX3_search_121 ?_
  obtain ⟨q1, hV⟩ := hV
  refine g_getR (pc := 122) X fl_X3_24 q1 dX3_search_122 ?_
  refine g_iload_n (pc := 125) X 2 rfl rfl dX3_search_125 ?_
  obtain ⟨n3, q2, hV⟩ := hV
  obtain ⟨q4, hV⟩ := hV
  refine g_iald (pc := 126) X q2 q4 dX3_search_126 ?_
  refine g_istore_n (pc := 127) X (i := 2) (rest := [(0, rv w.2.2.2 x0), (1, Value.int x1), (3, Value.int x3), (4, Value.int x4)]) rfl (by decide) rfl dX3_search_127 (fun y5 e6 => ?_)
  have hV := hV y5 e6
  refine g_iinc (pc := 128) X 4 (v := (1 : Int32)) (rest := [(2, Value.int y5), (0, rv w.2.2.2 x0), (1, Value.int x1), (3, Value.int x3)]) rfl (by decide) rfl (by decide) dX3_search_128 (fun y7 e8 => ?_)
  have hV := hV y7 e8
  refine g_goto (pc := 131) X 49 dX3_search_131 (by decide) ?_
  refine g_lv [2, 3, 1, 4, 0] rfl ?_
  exact hL49 x0 x1 y5 x3 y7 h hV
def V_X3_search_95 (w : Wd) (sh : List Sh) (x0 : Nat) (x1 : Int32) (x2 : Int32) (x3 : Int32) (x4 : Int32) (x5 : Int32) (h : Hp) (L49 : Nat → Int32 → Int32 → Int32 → Int32 → Hp → Prop) (RET : Hp → Prop) : Prop :=
  ((x5 < (4 : Int32)) → (V_X3_search_121 w sh x0 x1 x2 x3 x4 h L49 RET)) ∧ ((¬ x5 < (4 : Int32)) → (shAt sh x0 = some (.inr 3) ∧ (((x5 ≤ (h.1 x0 5)) → (V_X3_search_121 w sh x0 x1 x2 x3 x4 h L49 RET)) ∧ ((¬ x5 ≤ (h.1 x0 5)) → (∀ h4 : Hp, h4 = wI h x0 5 x5 → (∀ h6 : Hp, h6 = wI h4 x0 4 x2 → (V_X3_search_121 w sh x0 x1 x2 x3 x4 h6 L49 RET)))))))
set_option maxRecDepth 20000 in
set_option maxHeartbeats 4000000 in
theorem W_X3_search_95 {w : Wd} {E : GE} {sh : List Sh} {x0 : Nat} {x1 : Int32} {x2 : Int32} {x3 : Int32} {x4 : Int32} {x5 : Int32} {h : Hp} {L49 : Nat → Int32 → Int32 → Int32 → Int32 → Hp → Prop} {RET : Hp → Prop} (X : Cx w E cX3_search 6 RX3) (Tt : Rt w E none sh.length 0 0 (fun q sh9 h9 => q = none ∧ sh9 = sh ∧ RET h9)) (hR : gR E = { frames := 3, cells := 0, slots := 0, locals := 65 }) (hL49 : ∀ (x0 : Nat) (x1 : Int32) (x2 : Int32) (x3 : Int32) (x4 : Int32) (h : Hp), L49 x0 x1 x2 x3 x4 h → G w E 6 49 [(0, rv w.2.2.2 x0), (1, Value.int x1), (2, Value.int x2), (3, Value.int x3), (4, Value.int x4)] [] sh h 0 0) (hV : V_X3_search_95 w sh x0 x1 x2 x3 x4 x5 h L49 RET) : G w E 6 95 [(0, rv w.2.2.2 x0), (1, Value.int x1), (2, Value.int x2), (3, Value.int x3), (4, Value.int x4), (5, Value.int x5)] [] sh h 0 0 := by
  unfold V_X3_search_95 at hV
  refine g_iload (pc := 95) X 5 rfl dX3_search_95 ?_
  refine g_iconst (pc := 97) (v := (4 : Int32)) X dX3_search_97 (by decide) ?_
  refine g_icmp_lt (pc := 98) X 121 dX3_search_98 (by decide) (fun c1 => ?_) (fun c1 => ?_)
  · have hV := hV.1 c1
    refine g_lv [0, 1, 2, 3, 4] rfl ?_
    exact W_X3_search_121 X Tt hR hL49 hV
  · have hV := hV.2 c1
    refine g_iload (pc := 101) X 5 rfl dX3_search_101 ?_
    refine g_aload_n (pc := 103) X 0 rfl rfl dX3_search_103 ?_
    obtain ⟨q2, hV⟩ := hV
    refine g_getI (pc := 104) X fl_X3_59 q2 dX3_search_104 ?_
    refine g_icmp_le (pc := 107) X 121 dX3_search_107 (by decide) (fun c3 => ?_) (fun c3 => ?_)
    · have hV := hV.1 c3
      refine g_lv [0, 1, 2, 3, 4] rfl ?_
      exact W_X3_search_121 X Tt hR hL49 hV
    · have hV := hV.2 c3
      refine g_aload_n (pc := 110) X 0 rfl rfl dX3_search_110 ?_
      refine g_iload (pc := 111) X 5 rfl dX3_search_111 ?_
      refine g_putI (pc := 113) X fl_X3_59 q2 rfl rfl dX3_search_113 (fun h4 e5 => ?_)
      have hV := hV h4 e5
      refine g_aload_n (pc := 116) X 0 rfl rfl dX3_search_116 ?_
      refine g_iload_n (pc := 117) X 2 rfl rfl dX3_search_117 ?_
      refine g_putI (pc := 118) X fl_X3_56 q2 rfl rfl dX3_search_118 (fun h6 e7 => ?_)
      have hV := hV h6 e7
      refine g_lv [0, 1, 2, 3, 4] rfl ?_
      exact W_X3_search_121 X Tt hR hL49 hV
def V_X3_search_49 (w : Wd) (sh : List Sh) (x0 : Nat) (x1 : Int32) (x2 : Int32) (x3 : Int32) (x4 : Int32) (h : Hp) (L49 : Nat → Int32 → Int32 → Int32 → Int32 → Hp → Prop) (RET : Hp → Prop) : Prop :=
  shAt sh x0 = some (.inr 3) ∧ (∃ n3 : Nat, shAt sh (h.2.1 x0 2) = some (.inl (1, n3)) ∧ ((((Int32.ofNat n3) ≤ x4) → (RET h)) ∧ ((¬ (Int32.ofNat n3) ≤ x4) → (((x2 < 0) → (RET h)) ∧ ((¬ x2 < 0) → ((((Int32.ofNat n3) ≤ x2) → (RET h)) ∧ ((¬ (Int32.ofNat n3) ≤ x2) → ((((16 : Int32) ≤ x3) → (RET h)) ∧ ((¬ (16 : Int32) ≤ x3) → (∃ P8 : Int32 → Hp → Prop, C_X3_sameLength w sh x0 x2 x1 h P8 ∧ (∀ (v12 : Int32) (h11 : Hp), P8 v12 h11 → (∀ y13 : Int32, y13 = v12 → (((y13 < (4 : Int32)) → (V_X3_search_95 w sh x0 x1 x2 x3 x4 y13 h11 L49 RET)) ∧ ((¬ y13 < (4 : Int32)) → (∀ y16 : Int32, y16 = x3 + (1 : Int32) → (V_X3_search_95 w sh x0 x1 x2 y16 x4 y13 h11 L49 RET))))))))))))))))
set_option maxRecDepth 20000 in
set_option maxHeartbeats 4000000 in
theorem W_X3_search_49 {w : Wd} {E : GE} {sh : List Sh} {x0 : Nat} {x1 : Int32} {x2 : Int32} {x3 : Int32} {x4 : Int32} {h : Hp} {L49 : Nat → Int32 → Int32 → Int32 → Int32 → Hp → Prop} {RET : Hp → Prop} (X : Cx w E cX3_search 6 RX3) (Tt : Rt w E none sh.length 0 0 (fun q sh9 h9 => q = none ∧ sh9 = sh ∧ RET h9)) (hR : gR E = { frames := 3, cells := 0, slots := 0, locals := 65 }) (hL49 : ∀ (x0 : Nat) (x1 : Int32) (x2 : Int32) (x3 : Int32) (x4 : Int32) (h : Hp), L49 x0 x1 x2 x3 x4 h → G w E 6 49 [(0, rv w.2.2.2 x0), (1, Value.int x1), (2, Value.int x2), (3, Value.int x3), (4, Value.int x4)] [] sh h 0 0) (hV : V_X3_search_49 w sh x0 x1 x2 x3 x4 h L49 RET) : G w E 6 49 [(0, rv w.2.2.2 x0), (1, Value.int x1), (2, Value.int x2), (3, Value.int x3), (4, Value.int x4)] [] sh h 0 0 := by
  unfold V_X3_search_49 at hV
  refine g_iload (pc := 49) X 4 rfl dX3_search_49 ?_
  refine g_aload_n (pc := 51) X 0 rfl rfl dX3_search_51 ?_
  obtain ⟨q1, hV⟩ := hV
  refine g_getR (pc := 52) X fl_X3_24 q1 dX3_search_52 ?_
  obtain ⟨n3, q2, hV⟩ := hV
  refine g_len (pc := 55) X (t := 1) (by decide) q2 dX3_search_55 ?_
  refine g_icmp_ge (pc := 56) X 134 dX3_search_56 (by decide) (fun c4 => ?_) (fun c4 => ?_)
  · have hV := hV.1 c4
    exact g_vret (pc := 134) X Tt ⟨rfl, rfl, hV⟩ dX3_search_134
  · have hV := hV.2 c4
    refine g_iload_n (pc := 59) X 2 rfl rfl dX3_search_59 ?_
    refine g_if_lt (pc := 60) X 134 dX3_search_60 (by decide) (fun c5 => ?_) (fun c5 => ?_)
    · have hV := hV.1 c5
      exact g_vret (pc := 134) X Tt ⟨rfl, rfl, hV⟩ dX3_search_134
    · have hV := hV.2 c5
      refine g_iload_n (pc := 63) X 2 rfl rfl dX3_search_63 ?_
      refine g_aload_n (pc := 64) X 0 rfl rfl dX3_search_64 ?_
      refine g_getR (pc := 65) X fl_X3_24 q1 dX3_search_65 ?_
      refine g_len (pc := 68) X (t := 1) (by decide) q2 dX3_search_68 ?_
      refine g_icmp_ge (pc := 69) X 134 dX3_search_69 (by decide) (fun c6 => ?_) (fun c6 => ?_)
      · have hV := hV.1 c6
        exact g_vret (pc := 134) X Tt ⟨rfl, rfl, hV⟩ dX3_search_134
      · have hV := hV.2 c6
        refine g_iload_n (pc := 72) X 3 rfl rfl dX3_search_72 ?_
        refine g_bipush (pc := 73) (v := (16 : Int32)) X dX3_search_73 (by decide) ?_
        refine g_icmp_ge (pc := 75) X 134 dX3_search_75 (by decide) (fun c7 => ?_) (fun c7 => ?_)
        · have hV := hV.1 c7
          exact g_vret (pc := 134) X Tt ⟨rfl, rfl, hV⟩ dX3_search_134
        · have hV := hV.2 c7
          refine g_aload_n (pc := 78) X 0 rfl rfl dX3_search_78 ?_
          refine g_iload_n (pc := 79) X 2 rfl rfl dX3_search_79 ?_
          refine g_iload_n (pc := 80) X 1 rfl rfl dX3_search_80 ?_
          obtain ⟨P8, t9, hV⟩ := hV
          refine g_cVI (pc := 81) X (As := [Value.int x2, Value.int x1]) ml_X3_65 rfl q1 t9 (by rw [hR]; exact ⟨by decide, by decide, by decide, by decide⟩) rfl rfl (Nat.zero_le _) dX3_search_81 (fun v12 h11 p10 => ?_)
          have hV := hV v12 h11 p10
          refine g_istore (pc := 84) X (i := 5) (rest := [(0, rv w.2.2.2 x0), (1, Value.int x1), (2, Value.int x2), (3, Value.int x3), (4, Value.int x4)]) (by decide) rfl dX3_search_84 (fun y13 e14 => ?_)
          have hV := hV y13 e14
          refine g_iload (pc := 86) X 0 rfl dX3_search_86 ?_
          refine g_iconst (pc := 88) (v := (4 : Int32)) X dX3_search_88 (by decide) ?_
          refine g_icmp_lt (pc := 89) X 95 dX3_search_89 (by decide) (fun c15 => ?_) (fun c15 => ?_)
          · have hV := hV.1 c15
            refine g_lv [1, 2, 3, 4, 5, 0] rfl ?_
            exact W_X3_search_95 X Tt hR hL49 hV
          · have hV := hV.2 c15
            refine g_iinc (pc := 92) X 4 (v := (1 : Int32)) (rest := [(5, Value.int y13), (0, rv w.2.2.2 x0), (1, Value.int x1), (2, Value.int x2), (4, Value.int x4)]) rfl (by decide) rfl (by decide) dX3_search_92 (fun y16 e17 => ?_)
            have hV := hV y16 e17
            refine g_lv [2, 3, 4, 0, 5, 1] rfl ?_
            exact W_X3_search_95 X Tt hR hL49 hV
def V_X3_search_0 (w : Wd) (sh : List Sh) (x0 : Nat) (x1 : Int32) (h : Hp) (L49 : Nat → Int32 → Int32 → Int32 → Int32 → Hp → Prop) (RET : Hp → Prop) : Prop :=
  shAt sh x0 = some (.inr 3) ∧ (∀ h2 : Hp, h2 = wI h x0 4 (-1 : Int32) → (∀ h4 : Hp, h4 = wI h2 x0 5 (0 : Int32) → (((x1 < 0) → (RET h4)) ∧ ((¬ x1 < 0) → (shAt sh (h.2.1 x0 0) = some (.inr 8) ∧ (∃ P8 : Int32 → Hp → Prop, C_X8_length w sh (h.2.1 x0 0) h4 P8 ∧ (∀ (v12 : Int32) (h11 : Hp), P8 v12 h11 → ((((x1 + (4 : Int32)) ≤ v12) → (∃ P14 : Hp → Prop, C_X3_enterUpTo w sh x0 x1 h11 P14 ∧ (∀ h17 : Hp, P14 h17 → (∃ P18 : Int32 → Hp → Prop, C_X3_chainOf w sh x0 x1 h17 P18 ∧ (∀ (v22 : Int32) (h21 : Hp), P18 v22 h21 → (∃ n24 : Nat, shAt sh (h17.2.1 x0 1) = some (.inl (1, n24)) ∧ (vp_in v22 n24 ∧ (∀ y26 : Int32, y26 = (h21.1 (h17.2.1 x0 1) v22.toNatClampNeg) → (∀ y28 : Int32, y28 = (0 : Int32) → (∀ y30 : Int32, y30 = (0 : Int32) → (L49 x0 x1 y26 y28 y30 h21))))))))))) ∧ ((¬ (x1 + (4 : Int32)) ≤ v12) → (RET h11))))))))))
set_option maxRecDepth 20000 in
set_option maxHeartbeats 4000000 in
theorem W_X3_search_0 {w : Wd} {E : GE} {sh : List Sh} {x0 : Nat} {x1 : Int32} {h : Hp} {L49 : Nat → Int32 → Int32 → Int32 → Int32 → Hp → Prop} {RET : Hp → Prop} (X : Cx w E cX3_search 6 RX3) (Tt : Rt w E none sh.length 0 0 (fun q sh9 h9 => q = none ∧ sh9 = sh ∧ RET h9)) (hR : gR E = { frames := 3, cells := 0, slots := 0, locals := 65 }) (hL49 : ∀ (x0 : Nat) (x1 : Int32) (x2 : Int32) (x3 : Int32) (x4 : Int32) (h : Hp), L49 x0 x1 x2 x3 x4 h → G w E 6 49 [(0, rv w.2.2.2 x0), (1, Value.int x1), (2, Value.int x2), (3, Value.int x3), (4, Value.int x4)] [] sh h 0 0) (hV : V_X3_search_0 w sh x0 x1 h L49 RET) : G w E 6 0 [(0, rv w.2.2.2 x0), (1, Value.int x1)] [] sh h 0 0 := by
  unfold V_X3_search_0 at hV
  refine g_aload_n (pc := 0) X 0 rfl rfl dX3_search_0 ?_
  refine g_iconst (pc := 1) (v := (-1 : Int32)) X dX3_search_1 (by decide) ?_
  obtain ⟨q1, hV⟩ := hV
  refine g_putI (pc := 2) X fl_X3_56 q1 rfl rfl dX3_search_2 (fun h2 e3 => ?_)
  have hV := hV h2 e3
  refine g_aload_n (pc := 5) X 0 rfl rfl dX3_search_5 ?_
  refine g_iconst (pc := 6) (v := (0 : Int32)) X dX3_search_6 (by decide) ?_
  refine g_putI (pc := 7) X fl_X3_59 q1 rfl rfl dX3_search_7 (fun h4 e5 => ?_)
  have hV := hV h4 e5
  refine g_iload_n (pc := 10) X 1 rfl rfl dX3_search_10 ?_
  refine g_if_lt (pc := 11) X 27 dX3_search_11 (by decide) (fun c6 => ?_) (fun c6 => ?_)
  · have hV := hV.1 c6
    exact g_vret (pc := 27) X Tt ⟨rfl, rfl, hV⟩ dX3_search_27
  · have hV := hV.2 c6
    refine g_iload_n (pc := 14) X 1 rfl rfl dX3_search_14 ?_
    refine g_iconst (pc := 15) (v := (4 : Int32)) X dX3_search_15 (by decide) ?_
    refine g_iadd (pc := 16) X dX3_search_16 ?_
    refine g_aload_n (pc := 17) X 0 rfl rfl dX3_search_17 ?_
    refine g_getRe (pc := 18) X fl_X3_14 q1 (congrFun (congrFun ((rfI e5).trans (rfI e3)) _) _) dX3_search_18 ?_
    obtain ⟨q7, hV⟩ := hV
    obtain ⟨P8, t9, hV⟩ := hV
    refine g_cVI (pc := 21) X (As := []) ml_X3_48 rfl q7 t9 (by rw [hR]; exact ⟨by decide, by decide, by decide, by decide⟩) rfl rfl (Nat.le_of_ble_eq_true rfl) dX3_search_21 (fun v12 h11 p10 => ?_)
    have hV := hV v12 h11 p10
    refine g_icmp_le (pc := 24) X 28 dX3_search_24 (by decide) (fun c13 => ?_) (fun c13 => ?_)
    · have hV := hV.1 c13
      refine g_aload_n (pc := 28) X 0 rfl rfl dX3_search_28 ?_
      refine g_iload_n (pc := 29) X 1 rfl rfl dX3_search_29 ?_
      obtain ⟨P14, t15, hV⟩ := hV
      refine g_cVV (pc := 30) X (As := [Value.int x1]) ml_X3_62 rfl q1 t15 (by rw [hR]; exact ⟨by decide, by decide, by decide, by decide⟩) rfl rfl (Nat.zero_le _) dX3_search_30 (fun h17 p16 => ?_)
      have hV := hV h17 p16
      refine g_aload_n (pc := 33) X 0 rfl rfl dX3_search_33 ?_
      refine g_getR (pc := 34) X fl_X3_20 q1 dX3_search_34 ?_
      refine g_aload_n (pc := 37) X 0 rfl rfl dX3_search_37 ?_
      refine g_iload_n (pc := 38) X 1 rfl rfl dX3_search_38 ?_
      obtain ⟨P18, t19, hV⟩ := hV
      refine g_cVI (pc := 39) X (As := [Value.int x1]) ml_X3_53 rfl q1 t19 (by rw [hR]; exact ⟨by decide, by decide, by decide, by decide⟩) rfl rfl (by simp [rv_cat, cat_int, cat_long]) dX3_search_39 (fun v22 h21 p20 => ?_)
      have hV := hV v22 h21 p20
      obtain ⟨n24, q23, hV⟩ := hV
      obtain ⟨q25, hV⟩ := hV
      refine g_iald (pc := 42) X q23 q25 dX3_search_42 ?_
      refine g_istore_n (pc := 43) X (i := 2) (rest := [(0, rv w.2.2.2 x0), (1, Value.int x1)]) rfl (by decide) rfl dX3_search_43 (fun y26 e27 => ?_)
      have hV := hV y26 e27
      refine g_iconst (pc := 44) (v := (0 : Int32)) X dX3_search_44 (by decide) ?_
      refine g_istore_n (pc := 45) X (i := 3) (rest := [(2, Value.int y26), (0, rv w.2.2.2 x0), (1, Value.int x1)]) rfl (by decide) rfl dX3_search_45 (fun y28 e29 => ?_)
      have hV := hV y28 e29
      refine g_iconst (pc := 46) (v := (0 : Int32)) X dX3_search_46 (by decide) ?_
      refine g_istore (pc := 47) X (i := 4) (rest := [(3, Value.int y28), (2, Value.int y26), (0, rv w.2.2.2 x0), (1, Value.int x1)]) (by decide) rfl dX3_search_47 (fun y30 e31 => ?_)
      have hV := hV y30 e31
      refine g_lv [3, 4, 2, 1, 0] rfl ?_
      exact hL49 x0 x1 y26 y28 y30 h21 hV
    · have hV := hV.2 c13
      exact g_vret (pc := 27) X Tt ⟨rfl, rfl, hV⟩ dX3_search_27
def C_X3_search (w : Wd) (sh : List Sh) (x0 : Nat) (x1 : Int32) (h : Hp) (RET : Hp → Prop) : Prop := CV w yX3_search (.code yX3_search cX3_search 6 none) 3 65 [rv w.2.2.2 x0, Value.int x1] sh h RET
set_option maxRecDepth 20000 in
theorem K_X3_search {w : Wd} {sh : List Sh} {x0 : Nat} {x1 : Int32} {h : Hp} {RET : Hp → Prop} {α : Type} {r : α → α → Prop} (wf : WellFounded r) (I49 : α → Nat → Int32 → Int32 → Int32 → Int32 → Hp → Prop) (hE : V_X3_search_0 w sh x0 x1 h (fun x0 x1 x2 x3 x4 h => ∃ a, I49 a x0 x1 x2 x3 x4 h) RET) (h49 : ∀ (b : α) (x0 : Nat) (x1 : Int32) (x2 : Int32) (x3 : Int32) (x4 : Int32) (h : Hp), I49 b x0 x1 x2 x3 x4 h → V_X3_search_49 w sh x0 x1 x2 x3 x4 h (fun x0 x1 x2 x3 x4 h => ∃ a, r a b ∧ I49 a x0 x1 x2 x3 x4 h) RET) : C_X3_search w sh x0 x1 h RET :=
  Ct_of (by decide +kernel) (by simp [lg_sl, rv_cat, cat_int, cat_long]) (fun E X Tt hR _ => by
    have key : ∀ a : α, (∀ (x0 : Nat) (x1 : Int32) (x2 : Int32) (x3 : Int32) (x4 : Int32) (h : Hp), I49 a x0 x1 x2 x3 x4 h → G w E 6 49 [(0, rv w.2.2.2 x0), (1, Value.int x1), (2, Value.int x2), (3, Value.int x3), (4, Value.int x4)] [] sh h 0 0) := by
      intro a
      induction a using wf.induction with
      | _ a ih =>
        exact (fun x0 x1 x2 x3 x4 h hi => W_X3_search_49 X Tt hR (fun x0 x1 x2 x3 x4 h hx => by obtain ⟨a2, ha, hi⟩ := hx; exact (ih a2 ha) x0 x1 x2 x3 x4 h hi) (h49 a x0 x1 x2 x3 x4 h hi))
    rw [show lv_args 0 [rv w.2.2.2 x0, Value.int x1] = [(0, rv w.2.2.2 x0), (1, Value.int x1)] from by simp [lv_args, rv_cat, cat_int, cat_long]]
    refine g_lv [0, 1] rfl ?_
    exact W_X3_search_0 X Tt hR (fun x0 x1 x2 x3 x4 h hx => by obtain ⟨a2, hi⟩ := hx; exact (key a2) x0 x1 x2 x3 x4 h hi) hE)
def V_X3_runLength_2 (w : Wd) (sh : List Sh) (x0 : Nat) (x1 : Int32) (x2 : Int32) (h : Hp) (L2 : Nat → Int32 → Int32 → Hp → Prop) (RET : Int32 → Hp → Prop) : Prop :=
  shAt sh x0 = some (.inr 3) ∧ (shAt sh (h.2.1 x0 0) = some (.inr 8) ∧ (∃ P3 : Int32 → Hp → Prop, C_X8_length w sh (h.2.1 x0 0) h P3 ∧ (∀ (v7 : Int32) (h6 : Hp), P3 v7 h6 → (((v7 ≤ (x1 + x2)) → (RET x2 h6)) ∧ ((¬ v7 ≤ (x1 + x2)) → (shAt sh (h6.2.1 x0 0) = some (.inr 8) ∧ (∃ P10 : Int32 → Hp → Prop, C_X8_at w sh (h6.2.1 x0 0) (x1 + x2) h6 P10 ∧ (∀ (v14 : Int32) (h13 : Hp), P10 v14 h13 → (shAt sh (h13.2.1 x0 0) = some (.inr 8) ∧ (∃ P16 : Int32 → Hp → Prop, C_X8_at w sh (h13.2.1 x0 0) x1 h13 P16 ∧ (∀ (v20 : Int32) (h19 : Hp), P16 v20 h19 → (((¬ v14 = v20) → (RET x2 h19)) ∧ ((v14 = v20) → (∀ y22 : Int32, y22 = x2 + (1 : Int32) → (L2 x0 x1 y22 h19)))))))))))))))
set_option maxRecDepth 20000 in
set_option maxHeartbeats 4000000 in
theorem W_X3_runLength_2 {w : Wd} {E : GE} {sh : List Sh} {x0 : Nat} {x1 : Int32} {x2 : Int32} {h : Hp} {L2 : Nat → Int32 → Int32 → Hp → Prop} {RET : Int32 → Hp → Prop} (X : Cx w E cX3_runLength 3 RX3) (Tt : Rt w E (some .int) sh.length 0 0 (fun q sh9 h9 => ∃ v : Int32, q = some (Value.int v) ∧ sh9 = sh ∧ RET v h9)) (hR : gR E = { frames := 1, cells := 0, slots := 0, locals := 21 }) (hL2 : ∀ (x0 : Nat) (x1 : Int32) (x2 : Int32) (h : Hp), L2 x0 x1 x2 h → G w E 3 2 [(0, rv w.2.2.2 x0), (1, Value.int x1), (2, Value.int x2)] [] sh h 0 0) (hV : V_X3_runLength_2 w sh x0 x1 x2 h L2 RET) : G w E 3 2 [(0, rv w.2.2.2 x0), (1, Value.int x1), (2, Value.int x2)] [] sh h 0 0 := by
  unfold V_X3_runLength_2 at hV
  refine g_iload_n (pc := 2) X 1 rfl rfl dX3_runLength_2 ?_
  refine g_iload_n (pc := 3) X 2 rfl rfl dX3_runLength_3 ?_
  refine g_iadd (pc := 4) X dX3_runLength_4 ?_
  refine g_aload_n (pc := 5) X 0 rfl rfl dX3_runLength_5 ?_
  obtain ⟨q1, hV⟩ := hV
  refine g_getR (pc := 6) X fl_X3_14 q1 dX3_runLength_6 ?_
  obtain ⟨q2, hV⟩ := hV
  obtain ⟨P3, t4, hV⟩ := hV
  refine g_cVI (pc := 9) X (As := []) ml_X3_48 rfl q2 t4 (by rw [hR]; exact ⟨by decide, by decide, by decide, by decide⟩) rfl rfl (Nat.le_of_ble_eq_true rfl) dX3_runLength_9 (fun v7 h6 p5 => ?_)
  have hV := hV v7 h6 p5
  refine g_icmp_ge (pc := 12) X 42 dX3_runLength_12 (by decide) (fun c8 => ?_) (fun c8 => ?_)
  · have hV := hV.1 c8
    refine g_iload_n (pc := 42) X 2 rfl rfl dX3_runLength_42 ?_
    exact g_iret (pc := 43) X Tt ⟨_, rfl, rfl, hV⟩ dX3_runLength_43
  · have hV := hV.2 c8
    refine g_aload_n (pc := 15) X 0 rfl rfl dX3_runLength_15 ?_
    refine g_getR (pc := 16) X fl_X3_14 q1 dX3_runLength_16 ?_
    refine g_iload_n (pc := 19) X 1 rfl rfl dX3_runLength_19 ?_
    refine g_iload_n (pc := 20) X 2 rfl rfl dX3_runLength_20 ?_
    refine g_iadd (pc := 21) X dX3_runLength_21 ?_
    obtain ⟨q9, hV⟩ := hV
    obtain ⟨P10, t11, hV⟩ := hV
    refine g_cVI (pc := 22) X (As := [Value.int (x1 + x2)]) ml_X3_44 rfl q9 t11 (by rw [hR]; exact ⟨by decide, by decide, by decide, by decide⟩) rfl rfl (Nat.zero_le _) dX3_runLength_22 (fun v14 h13 p12 => ?_)
    have hV := hV v14 h13 p12
    refine g_aload_n (pc := 25) X 0 rfl rfl dX3_runLength_25 ?_
    refine g_getR (pc := 26) X fl_X3_14 q1 dX3_runLength_26 ?_
    refine g_iload_n (pc := 29) X 1 rfl rfl dX3_runLength_29 ?_
    obtain ⟨q15, hV⟩ := hV
    obtain ⟨P16, t17, hV⟩ := hV
    refine g_cVI (pc := 30) X (As := [Value.int x1]) ml_X3_44 rfl q15 t17 (by rw [hR]; exact ⟨by decide, by decide, by decide, by decide⟩) rfl rfl (Nat.le_of_ble_eq_true rfl) dX3_runLength_30 (fun v20 h19 p18 => ?_)
    have hV := hV v20 h19 p18
    refine g_icmp_ne (pc := 33) X 42 dX3_runLength_33 (by decide) (fun c21 => ?_) (fun c21 => ?_)
    · have hV := hV.1 c21
      refine g_iload_n (pc := 42) X 2 rfl rfl dX3_runLength_42 ?_
      exact g_iret (pc := 43) X Tt ⟨_, rfl, rfl, hV⟩ dX3_runLength_43
    · have hV := hV.2 c21
      refine g_iinc (pc := 36) X 2 (v := (1 : Int32)) (rest := [(0, rv w.2.2.2 x0), (1, Value.int x1)]) rfl (by decide) rfl (by decide) dX3_runLength_36 (fun y22 e23 => ?_)
      have hV := hV y22 e23
      refine g_goto (pc := 39) X 2 dX3_runLength_39 (by decide) ?_
      refine g_lv [1, 2, 0] rfl ?_
      exact hL2 x0 x1 y22 h19 hV
def V_X3_runLength_0 (w : Wd) (sh : List Sh) (x0 : Nat) (x1 : Int32) (h : Hp) (L2 : Nat → Int32 → Int32 → Hp → Prop) (RET : Int32 → Hp → Prop) : Prop :=
  ∀ y1 : Int32, y1 = (0 : Int32) → (L2 x0 x1 y1 h)
set_option maxRecDepth 20000 in
set_option maxHeartbeats 4000000 in
theorem W_X3_runLength_0 {w : Wd} {E : GE} {sh : List Sh} {x0 : Nat} {x1 : Int32} {h : Hp} {L2 : Nat → Int32 → Int32 → Hp → Prop} {RET : Int32 → Hp → Prop} (X : Cx w E cX3_runLength 3 RX3) (Tt : Rt w E (some .int) sh.length 0 0 (fun q sh9 h9 => ∃ v : Int32, q = some (Value.int v) ∧ sh9 = sh ∧ RET v h9)) (hR : gR E = { frames := 1, cells := 0, slots := 0, locals := 21 }) (hL2 : ∀ (x0 : Nat) (x1 : Int32) (x2 : Int32) (h : Hp), L2 x0 x1 x2 h → G w E 3 2 [(0, rv w.2.2.2 x0), (1, Value.int x1), (2, Value.int x2)] [] sh h 0 0) (hV : V_X3_runLength_0 w sh x0 x1 h L2 RET) : G w E 3 0 [(0, rv w.2.2.2 x0), (1, Value.int x1)] [] sh h 0 0 := by
  unfold V_X3_runLength_0 at hV
  refine g_iconst (pc := 0) (v := (0 : Int32)) X dX3_runLength_0 (by decide) ?_
  refine g_istore_n (pc := 1) X (i := 2) (rest := [(0, rv w.2.2.2 x0), (1, Value.int x1)]) rfl (by decide) rfl dX3_runLength_1 (fun y1 e2 => ?_)
  have hV := hV y1 e2
  refine g_lv [1, 2, 0] rfl ?_
  exact hL2 x0 x1 y1 h hV
def C_X3_runLength (w : Wd) (sh : List Sh) (x0 : Nat) (x1 : Int32) (h : Hp) (RET : Int32 → Hp → Prop) : Prop := CI w yX3_runLength (.code yX3_runLength cX3_runLength 3 (some .int)) 1 21 [rv w.2.2.2 x0, Value.int x1] sh h RET
set_option maxRecDepth 20000 in
theorem K_X3_runLength {w : Wd} {sh : List Sh} {x0 : Nat} {x1 : Int32} {h : Hp} {RET : Int32 → Hp → Prop} {α : Type} {r : α → α → Prop} (wf : WellFounded r) (I2 : α → Nat → Int32 → Int32 → Hp → Prop) (hE : V_X3_runLength_0 w sh x0 x1 h (fun x0 x1 x2 h => ∃ a, I2 a x0 x1 x2 h) RET) (h2 : ∀ (b : α) (x0 : Nat) (x1 : Int32) (x2 : Int32) (h : Hp), I2 b x0 x1 x2 h → V_X3_runLength_2 w sh x0 x1 x2 h (fun x0 x1 x2 h => ∃ a, r a b ∧ I2 a x0 x1 x2 h) RET) : C_X3_runLength w sh x0 x1 h RET :=
  Ct_of (by decide +kernel) (by simp [lg_sl, rv_cat, cat_int, cat_long]) (fun E X Tt hR _ => by
    have key : ∀ a : α, (∀ (x0 : Nat) (x1 : Int32) (x2 : Int32) (h : Hp), I2 a x0 x1 x2 h → G w E 3 2 [(0, rv w.2.2.2 x0), (1, Value.int x1), (2, Value.int x2)] [] sh h 0 0) := by
      intro a
      induction a using wf.induction with
      | _ a ih =>
        exact (fun x0 x1 x2 h hi => W_X3_runLength_2 X Tt hR (fun x0 x1 x2 h hx => by obtain ⟨a2, ha, hi⟩ := hx; exact (ih a2 ha) x0 x1 x2 h hi) (h2 a x0 x1 x2 h hi))
    rw [show lv_args 0 [rv w.2.2.2 x0, Value.int x1] = [(0, rv w.2.2.2 x0), (1, Value.int x1)] from by simp [lv_args, rv_cat, cat_int, cat_long]]
    refine g_lv [0, 1] rfl ?_
    exact W_X3_runLength_0 X Tt hR (fun x0 x1 x2 h hx => by obtain ⟨a2, hi⟩ := hx; exact (key a2) x0 x1 x2 h hi) hE)
def V_X3_at_0 (w : Wd) (sh : List Sh) (x0 : Nat) (x1 : Int32) (h : Hp)  (RET : Int32 → Hp → Prop) : Prop :=
  shAt sh x0 = some (.inr 3) ∧ (shAt sh (h.2.1 x0 0) = some (.inr 8) ∧ (∃ P3 : Int32 → Hp → Prop, C_X8_at w sh (h.2.1 x0 0) x1 h P3 ∧ (∀ (v7 : Int32) (h6 : Hp), P3 v7 h6 → (RET v7 h6))))
set_option maxRecDepth 20000 in
set_option maxHeartbeats 4000000 in
theorem W_X3_at_0 {w : Wd} {E : GE} {sh : List Sh} {x0 : Nat} {x1 : Int32} {h : Hp}  {RET : Int32 → Hp → Prop} (X : Cx w E cX3_at 2 RX3) (Tt : Rt w E (some .int) sh.length 0 0 (fun q sh9 h9 => ∃ v : Int32, q = some (Value.int v) ∧ sh9 = sh ∧ RET v h9)) (hR : gR E = { frames := 1, cells := 0, slots := 0, locals := 21 }) (hV : V_X3_at_0 w sh x0 x1 h RET) : G w E 2 0 [(0, rv w.2.2.2 x0), (1, Value.int x1)] [] sh h 0 0 := by
  unfold V_X3_at_0 at hV
  refine g_aload_n (pc := 0) X 0 rfl rfl dX3_at_0 ?_
  obtain ⟨q1, hV⟩ := hV
  refine g_getR (pc := 1) X fl_X3_14 q1 dX3_at_1 ?_
  refine g_iload_n (pc := 4) X 1 rfl rfl dX3_at_4 ?_
  obtain ⟨q2, hV⟩ := hV
  obtain ⟨P3, t4, hV⟩ := hV
  refine g_cVI (pc := 5) X (As := [Value.int x1]) ml_X3_44 rfl q2 t4 (by rw [hR]; exact ⟨by decide, by decide, by decide, by decide⟩) rfl rfl (Nat.zero_le _) dX3_at_5 (fun v7 h6 p5 => ?_)
  have hV := hV v7 h6 p5
  exact g_iret (pc := 8) X Tt ⟨_, rfl, rfl, hV⟩ dX3_at_8
def C_X3_at (w : Wd) (sh : List Sh) (x0 : Nat) (x1 : Int32) (h : Hp) (RET : Int32 → Hp → Prop) : Prop := CI w yX3_at (.code yX3_at cX3_at 2 (some .int)) 1 21 [rv w.2.2.2 x0, Value.int x1] sh h RET
theorem K_X3_at {w : Wd} {sh : List Sh} {x0 : Nat} {x1 : Int32} {h : Hp} {RET : Int32 → Hp → Prop} (hV : V_X3_at_0 w sh x0 x1 h RET) : C_X3_at w sh x0 x1 h RET :=
  Ct_of (by decide +kernel) (by simp [lg_sl, rv_cat, cat_int, cat_long]) (fun E X Tt hR _ => by
    rw [show lv_args 0 [rv w.2.2.2 x0, Value.int x1] = [(0, rv w.2.2.2 x0), (1, Value.int x1)] from by simp [lv_args, rv_cat, cat_int, cat_long]]
    refine g_lv [0, 1] rfl ?_
    exact W_X3_at_0 X Tt hR hV)
def V_X5_tellAddress_187 (w : Wd) (sh : List Sh) (x0 : Nat) (x1 : Int32) (x3 : Int32) (h : Hp) (L31 : Nat → Int32 → Int32 → Int32 → Int32 → Hp → Prop) (RET : Int32 → Hp → Prop) : Prop :=
  shAt sh x0 = some (.inr 5) ∧ (shAt sh (h.2.1 x0 3) = some (.inr 0) ∧ (∃ P3 : Hp → Prop, C_X0_keep w sh (h.2.1 x0 3) x1 h P3 ∧ (∀ h6 : Hp, P3 h6 → (RET x3 h6))))
set_option maxRecDepth 20000 in
set_option maxHeartbeats 4000000 in
theorem W_X5_tellAddress_187 {w : Wd} {E : GE} {sh : List Sh} {x0 : Nat} {x1 : Int32} {x3 : Int32} {h : Hp} {L31 : Nat → Int32 → Int32 → Int32 → Int32 → Hp → Prop} {RET : Int32 → Hp → Prop} (X : Cx w E cX5_tellAddress 7 RX5) (Tt : Rt w E (some .int) sh.length 0 0 (fun q sh9 h9 => ∃ v : Int32, q = some (Value.int v) ∧ sh9 = sh ∧ RET v h9)) (hR : gR E = { frames := 2, cells := 0, slots := 0, locals := 47 }) (hL31 : ∀ (x0 : Nat) (x1 : Int32) (x3 : Int32) (x4 : Int32) (x5 : Int32) (h : Hp), L31 x0 x1 x3 x4 x5 h → G w E 7 31 [(0, rv w.2.2.2 x0), (1, Value.int x1), (3, Value.int x3), (4, Value.int x4), (5, Value.int x5)] [] sh h 0 0) (hV : V_X5_tellAddress_187 w sh x0 x1 x3 h L31 RET) : G w E 7 187 [(0, rv w.2.2.2 x0), (1, Value.int x1), (3, Value.int x3)] [] sh h 0 0 := by
  unfold V_X5_tellAddress_187 at hV
  refine g_aload_n (pc := 187) X 0 rfl rfl dX5_tellAddress_187 ?_
  obtain ⟨q1, hV⟩ := hV
  refine g_getR (pc := 188) X fl_X5_37 q1 dX5_tellAddress_188 ?_
  refine g_iload_n (pc := 191) X 1 rfl rfl dX5_tellAddress_191 ?_
  obtain ⟨q2, hV⟩ := hV
  obtain ⟨P3, t4, hV⟩ := hV
  refine g_cVV (pc := 192) X (As := [Value.int x1]) ml_X5_169 rfl q2 t4 (by rw [hR]; exact ⟨by decide, by decide, by decide, by decide⟩) rfl rfl (Nat.zero_le _) dX5_tellAddress_192 (fun h6 p5 => ?_)
  have hV := hV h6 p5
  refine g_iload_n (pc := 195) X 2 rfl rfl dX5_tellAddress_195 ?_
  exact g_iret (pc := 196) X Tt ⟨_, rfl, rfl, hV⟩ dX5_tellAddress_196
def V_X5_tellAddress_177 (w : Wd) (sh : List Sh) (x0 : Nat) (x1 : Int32) (x3 : Int32) (x4 : Int32) (h : Hp) (L31 : Nat → Int32 → Int32 → Int32 → Int32 → Hp → Prop) (RET : Int32 → Hp → Prop) : Prop :=
  shAt sh x0 = some (.inr 5) ∧ (shAt sh (h.2.1 x0 6) = some (.inr 8) ∧ (∃ P3 : Hp → Prop, C_X8_pushBig w sh (h.2.1 x0 6) (x4.toInt64) h P3 ∧ (∀ h6 : Hp, P3 h6 → (V_X5_tellAddress_187 w sh x0 x1 x3 h6 L31 RET))))
set_option maxRecDepth 20000 in
set_option maxHeartbeats 4000000 in
theorem W_X5_tellAddress_177 {w : Wd} {E : GE} {sh : List Sh} {x0 : Nat} {x1 : Int32} {x3 : Int32} {x4 : Int32} {h : Hp} {L31 : Nat → Int32 → Int32 → Int32 → Int32 → Hp → Prop} {RET : Int32 → Hp → Prop} (X : Cx w E cX5_tellAddress 7 RX5) (Tt : Rt w E (some .int) sh.length 0 0 (fun q sh9 h9 => ∃ v : Int32, q = some (Value.int v) ∧ sh9 = sh ∧ RET v h9)) (hR : gR E = { frames := 2, cells := 0, slots := 0, locals := 47 }) (hL31 : ∀ (x0 : Nat) (x1 : Int32) (x3 : Int32) (x4 : Int32) (x5 : Int32) (h : Hp), L31 x0 x1 x3 x4 x5 h → G w E 7 31 [(0, rv w.2.2.2 x0), (1, Value.int x1), (3, Value.int x3), (4, Value.int x4), (5, Value.int x5)] [] sh h 0 0) (hV : V_X5_tellAddress_177 w sh x0 x1 x3 x4 h L31 RET) : G w E 7 177 [(0, rv w.2.2.2 x0), (1, Value.int x1), (3, Value.int x3), (4, Value.int x4)] [] sh h 0 0 := by
  unfold V_X5_tellAddress_177 at hV
  refine g_aload_n (pc := 177) X 0 rfl rfl dX5_tellAddress_177 ?_
  obtain ⟨q1, hV⟩ := hV
  refine g_getR (pc := 178) X fl_X5_53 q1 dX5_tellAddress_178 ?_
  refine g_iload (pc := 181) X 3 rfl dX5_tellAddress_181 ?_
  refine g_i2l (pc := 183) X dX5_tellAddress_183 ?_
  obtain ⟨q2, hV⟩ := hV
  obtain ⟨P3, t4, hV⟩ := hV
  refine g_cVV (pc := 184) X (As := [Value.long (x4.toInt64)]) ml_X5_99 rfl q2 t4 (by rw [hR]; exact ⟨by decide, by decide, by decide, by decide⟩) rfl rfl (Nat.zero_le _) dX5_tellAddress_184 (fun h6 p5 => ?_)
  have hV := hV h6 p5
  refine g_lv [0, 1, 2] rfl ?_
  exact W_X5_tellAddress_187 X Tt hR hL31 hV
def V_X5_tellAddress_114 (w : Wd) (sh : List Sh) (x0 : Nat) (x1 : Int32) (x3 : Int32) (x4 : Int32) (s0 : Int32) (h : Hp) (L31 : Nat → Int32 → Int32 → Int32 → Int32 → Hp → Prop) (RET : Int32 → Hp → Prop) : Prop :=
  ∀ y1 : Int32, y1 = s0 → (((y1 < 0) → (V_X5_tellAddress_177 w sh x0 x1 x3 x4 h L31 RET)) ∧ ((¬ y1 < 0) → (shAt sh x0 = some (.inr 5) ∧ (shAt sh (h.2.1 x0 3) = some (.inr 0) ∧ (∃ P6 : Int32 → Hp → Prop, C_X0_sameAt w sh (h.2.1 x0 3) y1 h P6 ∧ (∀ (v10 : Int32) (h9 : Hp), P6 v10 h9 → (((¬ v10 = x1) → (V_X5_tellAddress_177 w sh x0 x1 x3 x4 h9 L31 RET)) ∧ ((v10 = x1) → (∃ P12 : Int32 → Hp → Prop, C_X11_bigLength w sh (x4.toInt64) h9 P12 ∧ (∀ (v16 : Int32) (h15 : Hp), P12 v16 h15 → (((v16 ≤ (1 : Int32)) → (V_X5_tellAddress_177 w sh x0 x1 x3 x4 h15 L31 RET)) ∧ ((¬ v16 ≤ (1 : Int32)) → (shAt sh (h15.2.1 x0 3) = some (.inr 0) ∧ (∀ y19 : Int32, y19 = (((2 : Int32) + (h15.1 (h15.2.1 x0 3) 2)) + (y1 / (256 : Int32))) → (shAt sh (h15.2.1 x0 6) = some (.inr 8) ∧ (∃ P22 : Hp → Prop, C_X8_push w sh (h15.2.1 x0 6) (y1 - y1 / (256 : Int32) * (256 : Int32)) h15 P22 ∧ (∀ h25 : Hp, P22 h25 → (V_X5_tellAddress_187 w sh x0 x1 y19 h25 L31 RET))))))))))))))))))
set_option maxRecDepth 20000 in
set_option maxHeartbeats 4000000 in
theorem W_X5_tellAddress_114 {w : Wd} {E : GE} {sh : List Sh} {x0 : Nat} {x1 : Int32} {x3 : Int32} {x4 : Int32} {s0 : Int32} {h : Hp} {L31 : Nat → Int32 → Int32 → Int32 → Int32 → Hp → Prop} {RET : Int32 → Hp → Prop} (X : Cx w E cX5_tellAddress 7 RX5) (Tt : Rt w E (some .int) sh.length 0 0 (fun q sh9 h9 => ∃ v : Int32, q = some (Value.int v) ∧ sh9 = sh ∧ RET v h9)) (hR : gR E = { frames := 2, cells := 0, slots := 0, locals := 47 }) (hL31 : ∀ (x0 : Nat) (x1 : Int32) (x3 : Int32) (x4 : Int32) (x5 : Int32) (h : Hp), L31 x0 x1 x3 x4 x5 h → G w E 7 31 [(0, rv w.2.2.2 x0), (1, Value.int x1), (3, Value.int x3), (4, Value.int x4), (5, Value.int x5)] [] sh h 0 0) (hV : V_X5_tellAddress_114 w sh x0 x1 x3 x4 s0 h L31 RET) : G w E 7 114 [(0, rv w.2.2.2 x0), (1, Value.int x1), (3, Value.int x3), (4, Value.int x4)] [Value.int s0] sh h 0 0 := by
  unfold V_X5_tellAddress_114 at hV
  refine g_istore (pc := 114) X (i := 5) (rest := [(0, rv w.2.2.2 x0), (1, Value.int x1), (3, Value.int x3), (4, Value.int x4)]) (by decide) rfl dX5_tellAddress_114 (fun y1 e2 => ?_)
  have hV := hV y1 e2
  refine g_iload (pc := 116) X 0 rfl dX5_tellAddress_116 ?_
  refine g_if_lt (pc := 118) X 177 dX5_tellAddress_118 (by decide) (fun c3 => ?_) (fun c3 => ?_)
  · have hV := hV.1 c3
    refine g_lv [1, 2, 3, 4] rfl ?_
    exact W_X5_tellAddress_177 X Tt hR hL31 hV
  · have hV := hV.2 c3
    refine g_aload_n (pc := 121) X 1 rfl rfl dX5_tellAddress_121 ?_
    obtain ⟨q4, hV⟩ := hV
    refine g_getR (pc := 122) X fl_X5_37 q4 dX5_tellAddress_122 ?_
    refine g_iload (pc := 125) X 0 rfl dX5_tellAddress_125 ?_
    obtain ⟨q5, hV⟩ := hV
    obtain ⟨P6, t7, hV⟩ := hV
    refine g_cVI (pc := 127) X (As := [Value.int y1]) ml_X5_166 rfl q5 t7 (by rw [hR]; exact ⟨by decide, by decide, by decide, by decide⟩) rfl rfl (Nat.zero_le _) dX5_tellAddress_127 (fun v10 h9 p8 => ?_)
    have hV := hV v10 h9 p8
    refine g_iload_n (pc := 130) X 2 rfl rfl dX5_tellAddress_130 ?_
    refine g_icmp_ne (pc := 131) X 177 dX5_tellAddress_131 (by decide) (fun c11 => ?_) (fun c11 => ?_)
    · have hV := hV.1 c11
      refine g_lv [1, 2, 3, 4] rfl ?_
      exact W_X5_tellAddress_177 X Tt hR hL31 hV
    · have hV := hV.2 c11
      refine g_iload (pc := 134) X 4 rfl dX5_tellAddress_134 ?_
      refine g_i2l (pc := 136) X dX5_tellAddress_136 ?_
      obtain ⟨P12, t13, hV⟩ := hV
      refine g_cSI (pc := 137) X (As := [Value.long (x4.toInt64)]) ml_X5_153 t13 (by rw [hR]; exact ⟨by decide, by decide, by decide, by decide⟩) rfl rfl (Nat.zero_le _) dX5_tellAddress_137 (fun v16 h15 p14 => ?_)
      have hV := hV v16 h15 p14
      refine g_iconst (pc := 140) (v := (1 : Int32)) X dX5_tellAddress_140 (by decide) ?_
      refine g_icmp_le (pc := 141) X 177 dX5_tellAddress_141 (by decide) (fun c17 => ?_) (fun c17 => ?_)
      · have hV := hV.1 c17
        refine g_lv [1, 2, 3, 4] rfl ?_
        exact W_X5_tellAddress_177 X Tt hR hL31 hV
      · have hV := hV.2 c17
        refine g_iconst (pc := 144) (v := (2 : Int32)) X dX5_tellAddress_144 (by decide) ?_
        refine g_aload_n (pc := 145) X 1 rfl rfl dX5_tellAddress_145 ?_
        refine g_getR (pc := 146) X fl_X5_37 q4 dX5_tellAddress_146 ?_
        obtain ⟨q18, hV⟩ := hV
        refine g_getI (pc := 149) X fl_X5_157 q18 dX5_tellAddress_149 ?_
        refine g_iadd (pc := 152) X dX5_tellAddress_152 ?_
        refine g_iload (pc := 153) X 0 rfl dX5_tellAddress_153 ?_
        refine g_sipush (pc := 155) (v := (256 : Int32)) X dX5_tellAddress_155 (by decide) ?_
        refine g_idiv (pc := 158) X dX5_tellAddress_158 (by decide) ?_
        refine g_iadd (pc := 159) X dX5_tellAddress_159 ?_
        refine g_istore_n (pc := 160) X (i := 3) (rest := [(5, Value.int y1), (0, rv w.2.2.2 x0), (1, Value.int x1), (4, Value.int x4)]) rfl (by decide) rfl dX5_tellAddress_160 (fun y19 e20 => ?_)
        have hV := hV y19 e20
        refine g_aload_n (pc := 161) X 2 rfl rfl dX5_tellAddress_161 ?_
        refine g_getR (pc := 162) X fl_X5_53 q4 dX5_tellAddress_162 ?_
        refine g_iload (pc := 165) X 1 rfl dX5_tellAddress_165 ?_
        refine g_sipush (pc := 167) (v := (256 : Int32)) X dX5_tellAddress_167 (by decide) ?_
        refine g_irem (pc := 170) X dX5_tellAddress_170 (by decide) ?_
        obtain ⟨q21, hV⟩ := hV
        obtain ⟨P22, t23, hV⟩ := hV
        refine g_cVV (pc := 171) X (As := [Value.int (y1 - y1 / (256 : Int32) * (256 : Int32))]) ml_X5_96 rfl q21 t23 (by rw [hR]; exact ⟨by decide, by decide, by decide, by decide⟩) rfl rfl (Nat.zero_le _) dX5_tellAddress_171 (fun h25 p24 => ?_)
        have hV := hV h25 p24
        refine g_goto (pc := 174) X 187 dX5_tellAddress_174 (by decide) ?_
        refine g_lv [2, 3, 0] rfl ?_
        exact W_X5_tellAddress_187 X Tt hR hL31 hV
def V_X5_tellAddress_85 (w : Wd) (sh : List Sh) (x0 : Nat) (x1 : Int32) (x3 : Int32) (x4 : Int32) (x5 : Int32) (h : Hp) (L31 : Nat → Int32 → Int32 → Int32 → Int32 → Hp → Prop) (RET : Int32 → Hp → Prop) : Prop :=
  ∀ y1 : Int32, y1 = x5 + (1 : Int32) → (L31 x0 x1 x3 x4 y1 h)
set_option maxRecDepth 20000 in
set_option maxHeartbeats 4000000 in
theorem W_X5_tellAddress_85 {w : Wd} {E : GE} {sh : List Sh} {x0 : Nat} {x1 : Int32} {x3 : Int32} {x4 : Int32} {x5 : Int32} {h : Hp} {L31 : Nat → Int32 → Int32 → Int32 → Int32 → Hp → Prop} {RET : Int32 → Hp → Prop} (X : Cx w E cX5_tellAddress 7 RX5) (Tt : Rt w E (some .int) sh.length 0 0 (fun q sh9 h9 => ∃ v : Int32, q = some (Value.int v) ∧ sh9 = sh ∧ RET v h9)) (hR : gR E = { frames := 2, cells := 0, slots := 0, locals := 47 }) (hL31 : ∀ (x0 : Nat) (x1 : Int32) (x3 : Int32) (x4 : Int32) (x5 : Int32) (h : Hp), L31 x0 x1 x3 x4 x5 h → G w E 7 31 [(0, rv w.2.2.2 x0), (1, Value.int x1), (3, Value.int x3), (4, Value.int x4), (5, Value.int x5)] [] sh h 0 0) (hV : V_X5_tellAddress_85 w sh x0 x1 x3 x4 x5 h L31 RET) : G w E 7 85 [(0, rv w.2.2.2 x0), (1, Value.int x1), (3, Value.int x3), (4, Value.int x4), (5, Value.int x5)] [] sh h 0 0 := by
  unfold V_X5_tellAddress_85 at hV
  refine g_iinc (pc := 85) X 4 (v := (1 : Int32)) (rest := [(0, rv w.2.2.2 x0), (1, Value.int x1), (3, Value.int x3), (4, Value.int x4)]) rfl (by decide) rfl (by decide) dX5_tellAddress_85 (fun y1 e2 => ?_)
  have hV := hV y1 e2
  refine g_goto (pc := 88) X 31 dX5_tellAddress_88 (by decide) ?_
  refine g_lv [1, 2, 3, 4, 0] rfl ?_
  exact hL31 x0 x1 x3 x4 y1 h hV
def V_X5_tellAddress_31 (w : Wd) (sh : List Sh) (x0 : Nat) (x1 : Int32) (x3 : Int32) (x4 : Int32) (x5 : Int32) (h : Hp) (L31 : Nat → Int32 → Int32 → Int32 → Int32 → Hp → Prop) (RET : Int32 → Hp → Prop) : Prop :=
  shAt sh x0 = some (.inr 5) ∧ (shAt sh (h.2.1 x0 3) = some (.inr 0) ∧ ((((h.1 (h.2.1 x0 3) 2) ≤ x5) → ((((h.1 (h.2.1 x0 3) 3) ≤ 0) → (V_X5_tellAddress_114 w sh x0 x1 x3 x4 (-1 : Int32) h L31 RET)) ∧ ((¬ (h.1 (h.2.1 x0 3) 3) ≤ 0) → (¬ (h.1 (h.2.1 x0 3) 3) = 0 ∧ (V_X5_tellAddress_114 w sh x0 x1 x3 x4 (x1 - x1 / (h.1 (h.2.1 x0 3) 3) * (h.1 (h.2.1 x0 3) 3)) h L31 RET))))) ∧ ((¬ (h.1 (h.2.1 x0 3) 2) ≤ x5) → (∃ P6 : Int32 → Hp → Prop, C_X0_nearAt w sh (h.2.1 x0 3) x5 h P6 ∧ (∀ (v10 : Int32) (h9 : Hp), P6 v10 h9 → (∀ y11 : Int32, y11 = (x1 - v10) → (((y11 < 0) → (V_X5_tellAddress_85 w sh x0 x1 x3 x4 x5 h9 L31 RET)) ∧ ((¬ y11 < 0) → (∃ P14 : Int32 → Hp → Prop, C_X11_bigLength w sh (y11.toInt64) h9 P14 ∧ (∀ (v18 : Int32) (h17 : Hp), P14 v18 h17 → (∃ P19 : Int32 → Hp → Prop, C_X11_bigLength w sh (x4.toInt64) h17 P19 ∧ (∀ (v23 : Int32) (h22 : Hp), P19 v23 h22 → (((v23 ≤ v18) → (V_X5_tellAddress_85 w sh x0 x1 x3 x4 x5 h22 L31 RET)) ∧ ((¬ v23 ≤ v18) → (∀ y25 : Int32, y25 = ((2 : Int32) + x5) → (∀ y27 : Int32, y27 = y11 → (V_X5_tellAddress_85 w sh x0 x1 y25 y27 x5 h22 L31 RET)))))))))))))))))
set_option maxRecDepth 20000 in
set_option maxHeartbeats 4000000 in
theorem W_X5_tellAddress_31 {w : Wd} {E : GE} {sh : List Sh} {x0 : Nat} {x1 : Int32} {x3 : Int32} {x4 : Int32} {x5 : Int32} {h : Hp} {L31 : Nat → Int32 → Int32 → Int32 → Int32 → Hp → Prop} {RET : Int32 → Hp → Prop} (X : Cx w E cX5_tellAddress 7 RX5) (Tt : Rt w E (some .int) sh.length 0 0 (fun q sh9 h9 => ∃ v : Int32, q = some (Value.int v) ∧ sh9 = sh ∧ RET v h9)) (hR : gR E = { frames := 2, cells := 0, slots := 0, locals := 47 }) (hL31 : ∀ (x0 : Nat) (x1 : Int32) (x3 : Int32) (x4 : Int32) (x5 : Int32) (h : Hp), L31 x0 x1 x3 x4 x5 h → G w E 7 31 [(0, rv w.2.2.2 x0), (1, Value.int x1), (3, Value.int x3), (4, Value.int x4), (5, Value.int x5)] [] sh h 0 0) (hV : V_X5_tellAddress_31 w sh x0 x1 x3 x4 x5 h L31 RET) : G w E 7 31 [(0, rv w.2.2.2 x0), (1, Value.int x1), (3, Value.int x3), (4, Value.int x4), (5, Value.int x5)] [] sh h 0 0 := by
  unfold V_X5_tellAddress_31 at hV
  refine g_iload (pc := 31) X 4 rfl dX5_tellAddress_31 ?_
  refine g_aload_n (pc := 33) X 0 rfl rfl dX5_tellAddress_33 ?_
  obtain ⟨q1, hV⟩ := hV
  refine g_getR (pc := 34) X fl_X5_37 q1 dX5_tellAddress_34 ?_
  obtain ⟨q2, hV⟩ := hV
  refine g_getI (pc := 37) X fl_X5_157 q2 dX5_tellAddress_37 ?_
  refine g_icmp_ge (pc := 40) X 91 dX5_tellAddress_40 (by decide) (fun c3 => ?_) (fun c3 => ?_)
  · have hV := hV.1 c3
    refine g_aload_n (pc := 91) X 0 rfl rfl dX5_tellAddress_91 ?_
    refine g_getR (pc := 92) X fl_X5_37 q1 dX5_tellAddress_92 ?_
    refine g_getI (pc := 95) X fl_X5_163 q2 dX5_tellAddress_95 ?_
    refine g_if_le (pc := 98) X 113 dX5_tellAddress_98 (by decide) (fun c4 => ?_) (fun c4 => ?_)
    · have hV := hV.1 c4
      refine g_iconst (pc := 113) (v := (-1 : Int32)) X dX5_tellAddress_113 (by decide) ?_
      refine g_lv [0, 1, 2, 3] rfl ?_
      exact W_X5_tellAddress_114 X Tt hR hL31 hV
    · have hV := hV.2 c4
      refine g_iload_n (pc := 101) X 1 rfl rfl dX5_tellAddress_101 ?_
      refine g_aload_n (pc := 102) X 0 rfl rfl dX5_tellAddress_102 ?_
      refine g_getR (pc := 103) X fl_X5_37 q1 dX5_tellAddress_103 ?_
      refine g_getI (pc := 106) X fl_X5_163 q2 dX5_tellAddress_106 ?_
      obtain ⟨q5, hV⟩ := hV
      refine g_irem (pc := 109) X dX5_tellAddress_109 q5 ?_
      refine g_goto (pc := 110) X 114 dX5_tellAddress_110 (by decide) ?_
      refine g_lv [0, 1, 2, 3] rfl ?_
      exact W_X5_tellAddress_114 X Tt hR hL31 hV
  · have hV := hV.2 c3
    refine g_iload_n (pc := 43) X 1 rfl rfl dX5_tellAddress_43 ?_
    refine g_aload_n (pc := 44) X 0 rfl rfl dX5_tellAddress_44 ?_
    refine g_getR (pc := 45) X fl_X5_37 q1 dX5_tellAddress_45 ?_
    refine g_iload (pc := 48) X 4 rfl dX5_tellAddress_48 ?_
    obtain ⟨P6, t7, hV⟩ := hV
    refine g_cVI (pc := 50) X (As := [Value.int x5]) ml_X5_160 rfl q2 t7 (by rw [hR]; exact ⟨by decide, by decide, by decide, by decide⟩) rfl rfl (Nat.le_of_ble_eq_true rfl) dX5_tellAddress_50 (fun v10 h9 p8 => ?_)
    have hV := hV v10 h9 p8
    refine g_isub (pc := 53) X dX5_tellAddress_53 ?_
    refine g_istore (pc := 54) X (i := 6) (rest := [(0, rv w.2.2.2 x0), (1, Value.int x1), (3, Value.int x3), (4, Value.int x4), (5, Value.int x5)]) (by decide) rfl dX5_tellAddress_54 (fun y11 e12 => ?_)
    have hV := hV y11 e12
    refine g_iload (pc := 56) X 0 rfl dX5_tellAddress_56 ?_
    refine g_if_lt (pc := 58) X 85 dX5_tellAddress_58 (by decide) (fun c13 => ?_) (fun c13 => ?_)
    · have hV := hV.1 c13
      refine g_lv [1, 2, 3, 4, 5] rfl ?_
      exact W_X5_tellAddress_85 X Tt hR hL31 hV
    · have hV := hV.2 c13
      refine g_iload (pc := 61) X 0 rfl dX5_tellAddress_61 ?_
      refine g_i2l (pc := 63) X dX5_tellAddress_63 ?_
      obtain ⟨P14, t15, hV⟩ := hV
      refine g_cSI (pc := 64) X (As := [Value.long (y11.toInt64)]) ml_X5_153 t15 (by rw [hR]; exact ⟨by decide, by decide, by decide, by decide⟩) rfl rfl (Nat.zero_le _) dX5_tellAddress_64 (fun v18 h17 p16 => ?_)
      have hV := hV v18 h17 p16
      refine g_iload (pc := 67) X 4 rfl dX5_tellAddress_67 ?_
      refine g_i2l (pc := 69) X dX5_tellAddress_69 ?_
      obtain ⟨P19, t20, hV⟩ := hV
      refine g_cSI (pc := 70) X (As := [Value.long (x4.toInt64)]) ml_X5_153 t20 (by rw [hR]; exact ⟨by decide, by decide, by decide, by decide⟩) rfl rfl (Nat.le_of_ble_eq_true rfl) dX5_tellAddress_70 (fun v23 h22 p21 => ?_)
      have hV := hV v23 h22 p21
      refine g_icmp_ge (pc := 73) X 85 dX5_tellAddress_73 (by decide) (fun c24 => ?_) (fun c24 => ?_)
      · have hV := hV.1 c24
        refine g_lv [1, 2, 3, 4, 5] rfl ?_
        exact W_X5_tellAddress_85 X Tt hR hL31 hV
      · have hV := hV.2 c24
        refine g_iconst (pc := 76) (v := (2 : Int32)) X dX5_tellAddress_76 (by decide) ?_
        refine g_iload (pc := 77) X 5 rfl dX5_tellAddress_77 ?_
        refine g_iadd (pc := 79) X dX5_tellAddress_79 ?_
        refine g_istore_n (pc := 80) X (i := 3) (rest := [(6, Value.int y11), (0, rv w.2.2.2 x0), (1, Value.int x1), (4, Value.int x4), (5, Value.int x5)]) rfl (by decide) rfl dX5_tellAddress_80 (fun y25 e26 => ?_)
        have hV := hV y25 e26
        refine g_iload (pc := 81) X 1 rfl dX5_tellAddress_81 ?_
        refine g_istore (pc := 83) X (i := 4) (rest := [(3, Value.int y25), (6, Value.int y11), (0, rv w.2.2.2 x0), (1, Value.int x1), (5, Value.int x5)]) (by decide) rfl dX5_tellAddress_83 (fun y27 e28 => ?_)
        have hV := hV y27 e28
        refine g_lv [3, 4, 1, 0, 5] rfl ?_
        exact W_X5_tellAddress_85 X Tt hR hL31 hV
def V_X5_tellAddress_28 (w : Wd) (sh : List Sh) (x0 : Nat) (x1 : Int32) (x3 : Int32) (x4 : Int32) (h : Hp) (L31 : Nat → Int32 → Int32 → Int32 → Int32 → Hp → Prop) (RET : Int32 → Hp → Prop) : Prop :=
  ∀ y1 : Int32, y1 = (0 : Int32) → (L31 x0 x1 x3 x4 y1 h)
set_option maxRecDepth 20000 in
set_option maxHeartbeats 4000000 in
theorem W_X5_tellAddress_28 {w : Wd} {E : GE} {sh : List Sh} {x0 : Nat} {x1 : Int32} {x3 : Int32} {x4 : Int32} {h : Hp} {L31 : Nat → Int32 → Int32 → Int32 → Int32 → Hp → Prop} {RET : Int32 → Hp → Prop} (X : Cx w E cX5_tellAddress 7 RX5) (Tt : Rt w E (some .int) sh.length 0 0 (fun q sh9 h9 => ∃ v : Int32, q = some (Value.int v) ∧ sh9 = sh ∧ RET v h9)) (hR : gR E = { frames := 2, cells := 0, slots := 0, locals := 47 }) (hL31 : ∀ (x0 : Nat) (x1 : Int32) (x3 : Int32) (x4 : Int32) (x5 : Int32) (h : Hp), L31 x0 x1 x3 x4 x5 h → G w E 7 31 [(0, rv w.2.2.2 x0), (1, Value.int x1), (3, Value.int x3), (4, Value.int x4), (5, Value.int x5)] [] sh h 0 0) (hV : V_X5_tellAddress_28 w sh x0 x1 x3 x4 h L31 RET) : G w E 7 28 [(0, rv w.2.2.2 x0), (1, Value.int x1), (3, Value.int x3), (4, Value.int x4)] [] sh h 0 0 := by
  unfold V_X5_tellAddress_28 at hV
  refine g_iconst (pc := 28) (v := (0 : Int32)) X dX5_tellAddress_28 (by decide) ?_
  refine g_istore (pc := 29) X (i := 5) (rest := [(0, rv w.2.2.2 x0), (1, Value.int x1), (3, Value.int x3), (4, Value.int x4)]) (by decide) rfl dX5_tellAddress_29 (fun y1 e2 => ?_)
  have hV := hV y1 e2
  refine g_lv [1, 2, 3, 4, 0] rfl ?_
  exact hL31 x0 x1 x3 x4 y1 h hV
def V_X5_tellAddress_0 (w : Wd) (sh : List Sh) (x0 : Nat) (x1 : Int32) (x2 : Int32) (h : Hp) (L31 : Nat → Int32 → Int32 → Int32 → Int32 → Hp → Prop) (RET : Int32 → Hp → Prop) : Prop :=
  ∀ y1 : Int32, y1 = (0 : Int32) → (∀ y3 : Int32, y3 = x1 → (∃ P5 : Int32 → Hp → Prop, C_X11_bigLength w sh ((x2 - x1).toInt64) h P5 ∧ (∀ (v9 : Int32) (h8 : Hp), P5 v9 h8 → (∃ P10 : Int32 → Hp → Prop, C_X11_bigLength w sh (y3.toInt64) h8 P10 ∧ (∀ (v14 : Int32) (h13 : Hp), P10 v14 h13 → (((v14 ≤ v9) → (V_X5_tellAddress_28 w sh x0 x1 y1 y3 h13 L31 RET)) ∧ ((¬ v14 ≤ v9) → (∀ y16 : Int32, y16 = (1 : Int32) → (∀ y18 : Int32, y18 = (x2 - x1) → (V_X5_tellAddress_28 w sh x0 x1 y16 y18 h13 L31 RET))))))))))
set_option maxRecDepth 20000 in
set_option maxHeartbeats 4000000 in
theorem W_X5_tellAddress_0 {w : Wd} {E : GE} {sh : List Sh} {x0 : Nat} {x1 : Int32} {x2 : Int32} {h : Hp} {L31 : Nat → Int32 → Int32 → Int32 → Int32 → Hp → Prop} {RET : Int32 → Hp → Prop} (X : Cx w E cX5_tellAddress 7 RX5) (Tt : Rt w E (some .int) sh.length 0 0 (fun q sh9 h9 => ∃ v : Int32, q = some (Value.int v) ∧ sh9 = sh ∧ RET v h9)) (hR : gR E = { frames := 2, cells := 0, slots := 0, locals := 47 }) (hL31 : ∀ (x0 : Nat) (x1 : Int32) (x3 : Int32) (x4 : Int32) (x5 : Int32) (h : Hp), L31 x0 x1 x3 x4 x5 h → G w E 7 31 [(0, rv w.2.2.2 x0), (1, Value.int x1), (3, Value.int x3), (4, Value.int x4), (5, Value.int x5)] [] sh h 0 0) (hV : V_X5_tellAddress_0 w sh x0 x1 x2 h L31 RET) : G w E 7 0 [(0, rv w.2.2.2 x0), (1, Value.int x1), (2, Value.int x2)] [] sh h 0 0 := by
  unfold V_X5_tellAddress_0 at hV
  refine g_iconst (pc := 0) (v := (0 : Int32)) X dX5_tellAddress_0 (by decide) ?_
  refine g_istore_n (pc := 1) X (i := 3) (rest := [(0, rv w.2.2.2 x0), (1, Value.int x1), (2, Value.int x2)]) rfl (by decide) rfl dX5_tellAddress_1 (fun y1 e2 => ?_)
  have hV := hV y1 e2
  refine g_iload_n (pc := 2) X 2 rfl rfl dX5_tellAddress_2 ?_
  refine g_istore (pc := 3) X (i := 4) (rest := [(3, Value.int y1), (0, rv w.2.2.2 x0), (1, Value.int x1), (2, Value.int x2)]) (by decide) rfl dX5_tellAddress_3 (fun y3 e4 => ?_)
  have hV := hV y3 e4
  refine g_iload_n (pc := 5) X 4 rfl rfl dX5_tellAddress_5 ?_
  refine g_iload_n (pc := 6) X 3 rfl rfl dX5_tellAddress_6 ?_
  refine g_isub (pc := 7) X dX5_tellAddress_7 ?_
  refine g_i2l (pc := 8) X dX5_tellAddress_8 ?_
  obtain ⟨P5, t6, hV⟩ := hV
  refine g_cSI (pc := 9) X (As := [Value.long ((x2 - x1).toInt64)]) ml_X5_153 t6 (by rw [hR]; exact ⟨by decide, by decide, by decide, by decide⟩) rfl rfl (Nat.zero_le _) dX5_tellAddress_9 (fun v9 h8 p7 => ?_)
  have hV := hV v9 h8 p7
  refine g_iload (pc := 12) X 0 rfl dX5_tellAddress_12 ?_
  refine g_i2l (pc := 14) X dX5_tellAddress_14 ?_
  obtain ⟨P10, t11, hV⟩ := hV
  refine g_cSI (pc := 15) X (As := [Value.long (y3.toInt64)]) ml_X5_153 t11 (by rw [hR]; exact ⟨by decide, by decide, by decide, by decide⟩) rfl rfl (Nat.le_of_ble_eq_true rfl) dX5_tellAddress_15 (fun v14 h13 p12 => ?_)
  have hV := hV v14 h13 p12
  refine g_icmp_ge (pc := 18) X 28 dX5_tellAddress_18 (by decide) (fun c15 => ?_) (fun c15 => ?_)
  · have hV := hV.1 c15
    refine g_lv [2, 3, 1, 0] rfl ?_
    exact W_X5_tellAddress_28 X Tt hR hL31 hV
  · have hV := hV.2 c15
    refine g_iconst (pc := 21) (v := (1 : Int32)) X dX5_tellAddress_21 (by decide) ?_
    refine g_istore_n (pc := 22) X (i := 3) (rest := [(4, Value.int y3), (0, rv w.2.2.2 x0), (1, Value.int x1), (2, Value.int x2)]) rfl (by decide) rfl dX5_tellAddress_22 (fun y16 e17 => ?_)
    have hV := hV y16 e17
    refine g_iload_n (pc := 23) X 4 rfl rfl dX5_tellAddress_23 ?_
    refine g_iload_n (pc := 24) X 3 rfl rfl dX5_tellAddress_24 ?_
    refine g_isub (pc := 25) X dX5_tellAddress_25 ?_
    refine g_istore (pc := 26) X (i := 4) (rest := [(3, Value.int y16), (0, rv w.2.2.2 x0), (1, Value.int x1), (2, Value.int x2)]) (by decide) rfl dX5_tellAddress_26 (fun y18 e19 => ?_)
    have hV := hV y18 e19
    refine g_lv [2, 3, 1, 0] rfl ?_
    exact W_X5_tellAddress_28 X Tt hR hL31 hV
def C_X5_tellAddress (w : Wd) (sh : List Sh) (x0 : Nat) (x1 : Int32) (x2 : Int32) (h : Hp) (RET : Int32 → Hp → Prop) : Prop := CI w yX5_tellAddress (.code yX5_tellAddress cX5_tellAddress 7 (some .int)) 2 47 [rv w.2.2.2 x0, Value.int x1, Value.int x2] sh h RET
set_option maxRecDepth 20000 in
theorem K_X5_tellAddress {w : Wd} {sh : List Sh} {x0 : Nat} {x1 : Int32} {x2 : Int32} {h : Hp} {RET : Int32 → Hp → Prop} {α : Type} {r : α → α → Prop} (wf : WellFounded r) (I31 : α → Nat → Int32 → Int32 → Int32 → Int32 → Hp → Prop) (hE : V_X5_tellAddress_0 w sh x0 x1 x2 h (fun x0 x1 x3 x4 x5 h => ∃ a, I31 a x0 x1 x3 x4 x5 h) RET) (h31 : ∀ (b : α) (x0 : Nat) (x1 : Int32) (x3 : Int32) (x4 : Int32) (x5 : Int32) (h : Hp), I31 b x0 x1 x3 x4 x5 h → V_X5_tellAddress_31 w sh x0 x1 x3 x4 x5 h (fun x0 x1 x3 x4 x5 h => ∃ a, r a b ∧ I31 a x0 x1 x3 x4 x5 h) RET) : C_X5_tellAddress w sh x0 x1 x2 h RET :=
  Ct_of (by decide +kernel) (by simp [lg_sl, rv_cat, cat_int, cat_long]) (fun E X Tt hR _ => by
    have key : ∀ a : α, (∀ (x0 : Nat) (x1 : Int32) (x3 : Int32) (x4 : Int32) (x5 : Int32) (h : Hp), I31 a x0 x1 x3 x4 x5 h → G w E 7 31 [(0, rv w.2.2.2 x0), (1, Value.int x1), (3, Value.int x3), (4, Value.int x4), (5, Value.int x5)] [] sh h 0 0) := by
      intro a
      induction a using wf.induction with
      | _ a ih =>
        exact (fun x0 x1 x3 x4 x5 h hi => W_X5_tellAddress_31 X Tt hR (fun x0 x1 x3 x4 x5 h hx => by obtain ⟨a2, ha, hi⟩ := hx; exact (ih a2 ha) x0 x1 x3 x4 x5 h hi) (h31 a x0 x1 x3 x4 x5 h hi))
    rw [show lv_args 0 [rv w.2.2.2 x0, Value.int x1, Value.int x2] = [(0, rv w.2.2.2 x0), (1, Value.int x1), (2, Value.int x2)] from by simp [lv_args, rv_cat, cat_int, cat_long]]
    refine g_lv [0, 1, 2] rfl ?_
    exact W_X5_tellAddress_0 X Tt hR (fun x0 x1 x3 x4 x5 h hx => by obtain ⟨a2, hi⟩ := hx; exact (key a2) x0 x1 x3 x4 x5 h hi) hE)
def V_X5_findMoves_184 (w : Wd) (sh : List Sh) (x0 : Nat) (x2 : Int32) (x3 : Int32) (h : Hp) (L32 : Nat → Int32 → Int32 → Hp → Prop) (RET : Hp → Prop) : Prop :=
  ∀ y1 : Int32, y1 = x3 + (1 : Int32) → (L32 x0 x2 y1 h)
set_option maxRecDepth 20000 in
set_option maxHeartbeats 4000000 in
theorem W_X5_findMoves_184 {w : Wd} {E : GE} {sh : List Sh} {x0 : Nat} {x2 : Int32} {x3 : Int32} {h : Hp} {L32 : Nat → Int32 → Int32 → Hp → Prop} {RET : Hp → Prop} (X : Cx w E cX5_findMoves 6 RX5) (Tt : Rt w E none sh.length 0 0 (fun q sh9 h9 => q = none ∧ sh9 = sh ∧ RET h9)) (hR : gR E = { frames := 4, cells := 0, slots := 0, locals := 90 }) (hL32 : ∀ (x0 : Nat) (x2 : Int32) (x3 : Int32) (h : Hp), L32 x0 x2 x3 h → G w E 6 32 [(0, rv w.2.2.2 x0), (2, Value.int x2), (3, Value.int x3)] [] sh h 0 0) (hV : V_X5_findMoves_184 w sh x0 x2 x3 h L32 RET) : G w E 6 184 [(0, rv w.2.2.2 x0), (2, Value.int x2), (3, Value.int x3)] [] sh h 0 0 := by
  unfold V_X5_findMoves_184 at hV
  refine g_iinc (pc := 184) X 2 (v := (1 : Int32)) (rest := [(0, rv w.2.2.2 x0), (2, Value.int x2)]) rfl (by decide) rfl (by decide) dX5_findMoves_184 (fun y1 e2 => ?_)
  have hV := hV y1 e2
  refine g_goto (pc := 187) X 32 dX5_findMoves_187 (by decide) ?_
  refine g_lv [1, 2, 0] rfl ?_
  exact hL32 x0 x2 y1 h hV
def V_X5_findMoves_124 (w : Wd) (sh : List Sh) (x0 : Nat) (x2 : Int32) (x3 : Int32) (x5 : Int32) (h : Hp) (L32 : Nat → Int32 → Int32 → Hp → Prop) (RET : Hp → Prop) : Prop :=
  ((x5 ≤ 0) → (shAt sh x0 = some (.inr 5) ∧ (shAt sh (h.2.1 x0 1) = some (.inr 6) ∧ (∃ P4 : Hp → Prop, C_X6_pushAdded w sh (h.2.1 x0 1) h P4 ∧ (∀ h7 : Hp, P4 h7 → (shAt sh (h7.2.1 x0 0) = some (.inr 3) ∧ (∃ P9 : Int32 → Hp → Prop, C_X3_at w sh (h7.2.1 x0 0) x2 h7 P9 ∧ (∀ (v13 : Int32) (h12 : Hp), P9 v13 h12 → (shAt sh (h7.2.1 x0 4) = some (.inr 8) ∧ (∃ P15 : Hp → Prop, C_X8_push w sh (h7.2.1 x0 4) v13 h12 P15 ∧ (∀ h18 : Hp, P15 h18 → (∀ y19 : Int32, y19 = x2 + (1 : Int32) → (V_X5_findMoves_184 w sh x0 y19 x3 h18 L32 RET))))))))))))) ∧ ((¬ x5 ≤ 0) → (shAt sh x0 = some (.inr 5) ∧ (shAt sh (h.2.1 x0 0) = some (.inr 3) ∧ (∃ P23 : Int32 → Hp → Prop, C_X5_tellAddress w sh x0 (h.1 (h.2.1 x0 0) 4) x2 h P23 ∧ (∀ (v27 : Int32) (h26 : Hp), P23 v27 h26 → (shAt sh (h.2.1 x0 1) = some (.inr 6) ∧ (∃ P29 : Hp → Prop, C_X6_push w sh (h.2.1 x0 1) (3 : Int32) x5 v27 h26 P29 ∧ (∀ h32 : Hp, P29 h32 → (∀ y33 : Int32, y33 = (x2 + x5) → (V_X5_findMoves_184 w sh x0 y33 x3 h32 L32 RET))))))))))
set_option maxRecDepth 20000 in
set_option maxHeartbeats 4000000 in
theorem W_X5_findMoves_124 {w : Wd} {E : GE} {sh : List Sh} {x0 : Nat} {x2 : Int32} {x3 : Int32} {x5 : Int32} {h : Hp} {L32 : Nat → Int32 → Int32 → Hp → Prop} {RET : Hp → Prop} (X : Cx w E cX5_findMoves 6 RX5) (Tt : Rt w E none sh.length 0 0 (fun q sh9 h9 => q = none ∧ sh9 = sh ∧ RET h9)) (hR : gR E = { frames := 4, cells := 0, slots := 0, locals := 90 }) (hL32 : ∀ (x0 : Nat) (x2 : Int32) (x3 : Int32) (h : Hp), L32 x0 x2 x3 h → G w E 6 32 [(0, rv w.2.2.2 x0), (2, Value.int x2), (3, Value.int x3)] [] sh h 0 0) (hV : V_X5_findMoves_124 w sh x0 x2 x3 x5 h L32 RET) : G w E 6 124 [(0, rv w.2.2.2 x0), (2, Value.int x2), (3, Value.int x3), (5, Value.int x5)] [] sh h 0 0 := by
  unfold V_X5_findMoves_124 at hV
  refine g_iload (pc := 124) X 3 rfl dX5_findMoves_124 ?_
  refine g_if_le (pc := 126) X 159 dX5_findMoves_126 (by decide) (fun c1 => ?_) (fun c1 => ?_)
  · have hV := hV.1 c1
    refine g_aload_n (pc := 159) X 0 rfl rfl dX5_findMoves_159 ?_
    obtain ⟨q2, hV⟩ := hV
    refine g_getR (pc := 160) X fl_X5_21 q2 dX5_findMoves_160 ?_
    obtain ⟨q3, hV⟩ := hV
    obtain ⟨P4, t5, hV⟩ := hV
    refine g_cVV (pc := 163) X (As := []) ml_X5_150 rfl q3 t5 (by rw [hR]; exact ⟨by decide, by decide, by decide, by decide⟩) rfl rfl (Nat.zero_le _) dX5_findMoves_163 (fun h7 p6 => ?_)
    have hV := hV h7 p6
    refine g_aload_n (pc := 166) X 0 rfl rfl dX5_findMoves_166 ?_
    refine g_getR (pc := 167) X fl_X5_46 q2 dX5_findMoves_167 ?_
    refine g_aload_n (pc := 170) X 0 rfl rfl dX5_findMoves_170 ?_
    refine g_getR (pc := 171) X fl_X5_12 q2 dX5_findMoves_171 ?_
    refine g_iload_n (pc := 174) X 1 rfl rfl dX5_findMoves_174 ?_
    obtain ⟨q8, hV⟩ := hV
    obtain ⟨P9, t10, hV⟩ := hV
    refine g_cVI (pc := 175) X (As := [Value.int x2]) ml_X5_141 rfl q8 t10 (by rw [hR]; exact ⟨by decide, by decide, by decide, by decide⟩) rfl rfl (by simp [rv_cat, cat_int, cat_long]) dX5_findMoves_175 (fun v13 h12 p11 => ?_)
    have hV := hV v13 h12 p11
    obtain ⟨q14, hV⟩ := hV
    obtain ⟨P15, t16, hV⟩ := hV
    refine g_cVV (pc := 178) X (As := [Value.int v13]) ml_X5_96 rfl q14 t16 (by rw [hR]; exact ⟨by decide, by decide, by decide, by decide⟩) rfl rfl (Nat.zero_le _) dX5_findMoves_178 (fun h18 p17 => ?_)
    have hV := hV h18 p17
    refine g_iinc (pc := 181) X 1 (v := (1 : Int32)) (rest := [(0, rv w.2.2.2 x0), (3, Value.int x3), (5, Value.int x5)]) rfl (by decide) rfl (by decide) dX5_findMoves_181 (fun y19 e20 => ?_)
    have hV := hV y19 e20
    refine g_lv [1, 0, 2] rfl ?_
    exact W_X5_findMoves_184 X Tt hR hL32 hV
  · have hV := hV.2 c1
    refine g_aload_n (pc := 129) X 0 rfl rfl dX5_findMoves_129 ?_
    obtain ⟨q21, hV⟩ := hV
    refine g_getR (pc := 130) X fl_X5_21 q21 dX5_findMoves_130 ?_
    refine g_iconst (pc := 133) (v := (3 : Int32)) X dX5_findMoves_133 (by decide) ?_
    refine g_iload (pc := 134) X 3 rfl dX5_findMoves_134 ?_
    refine g_aload_n (pc := 136) X 0 rfl rfl dX5_findMoves_136 ?_
    refine g_aload_n (pc := 137) X 0 rfl rfl dX5_findMoves_137 ?_
    refine g_getR (pc := 138) X fl_X5_12 q21 dX5_findMoves_138 ?_
    obtain ⟨q22, hV⟩ := hV
    refine g_getI (pc := 141) X fl_X5_144 q22 dX5_findMoves_141 ?_
    refine g_iload_n (pc := 144) X 1 rfl rfl dX5_findMoves_144 ?_
    obtain ⟨P23, t24, hV⟩ := hV
    refine g_cVI (pc := 145) X (As := [Value.int (h.1 (h.2.1 x0 0) 4), Value.int x2]) ml_X5_147 rfl q21 t24 (by rw [hR]; exact ⟨by decide, by decide, by decide, by decide⟩) rfl rfl (by simp [rv_cat, cat_int, cat_long]) dX5_findMoves_145 (fun v27 h26 p25 => ?_)
    have hV := hV v27 h26 p25
    obtain ⟨q28, hV⟩ := hV
    obtain ⟨P29, t30, hV⟩ := hV
    refine g_cVV (pc := 148) X (As := [Value.int (3 : Int32), Value.int x5, Value.int v27]) ml_X5_138 rfl q28 t30 (by rw [hR]; exact ⟨by decide, by decide, by decide, by decide⟩) rfl rfl (Nat.zero_le _) dX5_findMoves_148 (fun h32 p31 => ?_)
    have hV := hV h32 p31
    refine g_iload_n (pc := 151) X 1 rfl rfl dX5_findMoves_151 ?_
    refine g_iload (pc := 152) X 3 rfl dX5_findMoves_152 ?_
    refine g_iadd (pc := 154) X dX5_findMoves_154 ?_
    refine g_istore_n (pc := 155) X (i := 2) (rest := [(0, rv w.2.2.2 x0), (3, Value.int x3), (5, Value.int x5)]) rfl (by decide) rfl dX5_findMoves_155 (fun y33 e34 => ?_)
    have hV := hV y33 e34
    refine g_goto (pc := 156) X 184 dX5_findMoves_156 (by decide) ?_
    refine g_lv [1, 0, 2] rfl ?_
    exact W_X5_findMoves_184 X Tt hR hL32 hV
def V_X5_findMoves_32 (w : Wd) (sh : List Sh) (x0 : Nat) (x2 : Int32) (x3 : Int32) (h : Hp) (L32 : Nat → Int32 → Int32 → Hp → Prop) (RET : Hp → Prop) : Prop :=
  (((2048 : Int32) ≤ x3) → (RET h)) ∧ ((¬ (2048 : Int32) ≤ x3) → (shAt sh x0 = some (.inr 5) ∧ (shAt sh (h.2.1 x0 0) = some (.inr 3) ∧ (∃ P4 : Int32 → Hp → Prop, C_X3_end w sh (h.2.1 x0 0) h P4 ∧ (∀ (v8 : Int32) (h7 : Hp), P4 v8 h7 → (((v8 ≤ x2) → (RET h7)) ∧ ((¬ v8 ≤ x2) → (shAt sh (h7.2.1 x0 0) = some (.inr 3) ∧ (∃ P11 : Hp → Prop, C_X3_search w sh (h7.2.1 x0 0) x2 h7 P11 ∧ (∀ h14 : Hp, P11 h14 → (shAt sh (h14.2.1 x0 0) = some (.inr 3) ∧ (∃ P16 : Int32 → Hp → Prop, C_X3_runLength w sh (h14.2.1 x0 0) x2 h14 P16 ∧ (∀ (v20 : Int32) (h19 : Hp), P16 v20 h19 → (∀ y21 : Int32, y21 = v20 → (shAt sh (h19.2.1 x0 0) = some (.inr 3) ∧ (∀ y24 : Int32, y24 = (h19.1 (h19.2.1 x0 0) 5) → (((y21 < (4 : Int32)) → (V_X5_findMoves_124 w sh x0 x2 x3 y24 h19 L32 RET)) ∧ ((¬ y21 < (4 : Int32)) → (((y21 < y24) → (V_X5_findMoves_124 w sh x0 x2 x3 y24 h19 L32 RET)) ∧ ((¬ y21 < y24) → (shAt sh (h19.2.1 x0 1) = some (.inr 6) ∧ (∃ P29 : Hp → Prop, C_X6_push w sh (h19.2.1 x0 1) (2 : Int32) y21 (0 : Int32) h19 P29 ∧ (∀ h32 : Hp, P29 h32 → (shAt sh (h32.2.1 x0 0) = some (.inr 3) ∧ (∃ P34 : Int32 → Hp → Prop, C_X3_at w sh (h32.2.1 x0 0) x2 h32 P34 ∧ (∀ (v38 : Int32) (h37 : Hp), P34 v38 h37 → (shAt sh (h32.2.1 x0 4) = some (.inr 8) ∧ (∃ P40 : Hp → Prop, C_X8_push w sh (h32.2.1 x0 4) v38 h37 P40 ∧ (∀ h43 : Hp, P40 h43 → (∀ y44 : Int32, y44 = (x2 + y21) → (V_X5_findMoves_184 w sh x0 y44 x3 h43 L32 RET)))))))))))))))))))))))))))))))
set_option maxRecDepth 20000 in
set_option maxHeartbeats 4000000 in
theorem W_X5_findMoves_32 {w : Wd} {E : GE} {sh : List Sh} {x0 : Nat} {x2 : Int32} {x3 : Int32} {h : Hp} {L32 : Nat → Int32 → Int32 → Hp → Prop} {RET : Hp → Prop} (X : Cx w E cX5_findMoves 6 RX5) (Tt : Rt w E none sh.length 0 0 (fun q sh9 h9 => q = none ∧ sh9 = sh ∧ RET h9)) (hR : gR E = { frames := 4, cells := 0, slots := 0, locals := 90 }) (hL32 : ∀ (x0 : Nat) (x2 : Int32) (x3 : Int32) (h : Hp), L32 x0 x2 x3 h → G w E 6 32 [(0, rv w.2.2.2 x0), (2, Value.int x2), (3, Value.int x3)] [] sh h 0 0) (hV : V_X5_findMoves_32 w sh x0 x2 x3 h L32 RET) : G w E 6 32 [(0, rv w.2.2.2 x0), (2, Value.int x2), (3, Value.int x3)] [] sh h 0 0 := by
  unfold V_X5_findMoves_32 at hV
  refine g_iload_n (pc := 32) X 2 rfl rfl dX5_findMoves_32 ?_
  refine g_sipush (pc := 33) (v := (2048 : Int32)) X dX5_findMoves_33 (by decide) ?_
  refine g_icmp_ge (pc := 36) X 190 dX5_findMoves_36 (by decide) (fun c1 => ?_) (fun c1 => ?_)
  · have hV := hV.1 c1
    exact g_vret (pc := 190) X Tt ⟨rfl, rfl, hV⟩ dX5_findMoves_190
  · have hV := hV.2 c1
    refine g_iload_n (pc := 39) X 1 rfl rfl dX5_findMoves_39 ?_
    refine g_aload_n (pc := 40) X 0 rfl rfl dX5_findMoves_40 ?_
    obtain ⟨q2, hV⟩ := hV
    refine g_getR (pc := 41) X fl_X5_12 q2 dX5_findMoves_41 ?_
    obtain ⟨q3, hV⟩ := hV
    obtain ⟨P4, t5, hV⟩ := hV
    refine g_cVI (pc := 44) X (As := []) ml_X5_125 rfl q3 t5 (by rw [hR]; exact ⟨by decide, by decide, by decide, by decide⟩) rfl rfl (Nat.le_of_ble_eq_true rfl) dX5_findMoves_44 (fun v8 h7 p6 => ?_)
    have hV := hV v8 h7 p6
    refine g_icmp_ge (pc := 47) X 190 dX5_findMoves_47 (by decide) (fun c9 => ?_) (fun c9 => ?_)
    · have hV := hV.1 c9
      exact g_vret (pc := 190) X Tt ⟨rfl, rfl, hV⟩ dX5_findMoves_190
    · have hV := hV.2 c9
      refine g_aload_n (pc := 50) X 0 rfl rfl dX5_findMoves_50 ?_
      refine g_getR (pc := 51) X fl_X5_12 q2 dX5_findMoves_51 ?_
      refine g_iload_n (pc := 54) X 1 rfl rfl dX5_findMoves_54 ?_
      obtain ⟨q10, hV⟩ := hV
      obtain ⟨P11, t12, hV⟩ := hV
      refine g_cVV (pc := 55) X (As := [Value.int x2]) ml_X5_128 rfl q10 t12 (by rw [hR]; exact ⟨by decide, by decide, by decide, by decide⟩) rfl rfl (Nat.zero_le _) dX5_findMoves_55 (fun h14 p13 => ?_)
      have hV := hV h14 p13
      refine g_aload_n (pc := 58) X 0 rfl rfl dX5_findMoves_58 ?_
      refine g_getR (pc := 59) X fl_X5_12 q2 dX5_findMoves_59 ?_
      refine g_iload_n (pc := 62) X 1 rfl rfl dX5_findMoves_62 ?_
      obtain ⟨q15, hV⟩ := hV
      obtain ⟨P16, t17, hV⟩ := hV
      refine g_cVI (pc := 63) X (As := [Value.int x2]) ml_X5_131 rfl q15 t17 (by rw [hR]; exact ⟨by decide, by decide, by decide, by decide⟩) rfl rfl (Nat.zero_le _) dX5_findMoves_63 (fun v20 h19 p18 => ?_)
      have hV := hV v20 h19 p18
      refine g_istore (pc := 66) X (i := 4) (rest := [(0, rv w.2.2.2 x0), (2, Value.int x2), (3, Value.int x3)]) (by decide) rfl dX5_findMoves_66 (fun y21 e22 => ?_)
      have hV := hV y21 e22
      refine g_aload_n (pc := 68) X 1 rfl rfl dX5_findMoves_68 ?_
      refine g_getR (pc := 69) X fl_X5_12 q2 dX5_findMoves_69 ?_
      obtain ⟨q23, hV⟩ := hV
      refine g_getI (pc := 72) X fl_X5_135 q23 dX5_findMoves_72 ?_
      refine g_istore (pc := 75) X (i := 5) (rest := [(4, Value.int y21), (0, rv w.2.2.2 x0), (2, Value.int x2), (3, Value.int x3)]) (by decide) rfl dX5_findMoves_75 (fun y24 e25 => ?_)
      have hV := hV y24 e25
      refine g_iload (pc := 77) X 1 rfl dX5_findMoves_77 ?_
      refine g_iconst (pc := 79) (v := (4 : Int32)) X dX5_findMoves_79 (by decide) ?_
      refine g_icmp_lt (pc := 80) X 124 dX5_findMoves_80 (by decide) (fun c26 => ?_) (fun c26 => ?_)
      · have hV := hV.1 c26
        refine g_lv [2, 3, 4, 0] rfl ?_
        exact W_X5_findMoves_124 X Tt hR hL32 hV
      · have hV := hV.2 c26
        refine g_iload (pc := 83) X 0 rfl dX5_findMoves_83 ?_
        refine g_iload (pc := 85) X 1 rfl dX5_findMoves_85 ?_
        refine g_icmp_gt (pc := 87) X 124 dX5_findMoves_87 (by decide) (fun c27 => ?_) (fun c27 => ?_)
        · have hV := hV.1 c27
          refine g_lv [2, 3, 4, 0] rfl ?_
          exact W_X5_findMoves_124 X Tt hR hL32 hV
        · have hV := hV.2 c27
          refine g_aload_n (pc := 90) X 2 rfl rfl dX5_findMoves_90 ?_
          refine g_getR (pc := 91) X fl_X5_21 q2 dX5_findMoves_91 ?_
          refine g_iconst (pc := 94) (v := (2 : Int32)) X dX5_findMoves_94 (by decide) ?_
          refine g_iload (pc := 95) X 1 rfl dX5_findMoves_95 ?_
          refine g_iconst (pc := 97) (v := (0 : Int32)) X dX5_findMoves_97 (by decide) ?_
          obtain ⟨q28, hV⟩ := hV
          obtain ⟨P29, t30, hV⟩ := hV
          refine g_cVV (pc := 98) X (As := [Value.int (2 : Int32), Value.int y21, Value.int (0 : Int32)]) ml_X5_138 rfl q28 t30 (by rw [hR]; exact ⟨by decide, by decide, by decide, by decide⟩) rfl rfl (Nat.zero_le _) dX5_findMoves_98 (fun h32 p31 => ?_)
          have hV := hV h32 p31
          refine g_aload_n (pc := 101) X 2 rfl rfl dX5_findMoves_101 ?_
          refine g_getR (pc := 102) X fl_X5_46 q2 dX5_findMoves_102 ?_
          refine g_aload_n (pc := 105) X 2 rfl rfl dX5_findMoves_105 ?_
          refine g_getR (pc := 106) X fl_X5_12 q2 dX5_findMoves_106 ?_
          refine g_iload_n (pc := 109) X 3 rfl rfl dX5_findMoves_109 ?_
          obtain ⟨q33, hV⟩ := hV
          obtain ⟨P34, t35, hV⟩ := hV
          refine g_cVI (pc := 110) X (As := [Value.int x2]) ml_X5_141 rfl q33 t35 (by rw [hR]; exact ⟨by decide, by decide, by decide, by decide⟩) rfl rfl (by simp [rv_cat, cat_int, cat_long]) dX5_findMoves_110 (fun v38 h37 p36 => ?_)
          have hV := hV v38 h37 p36
          obtain ⟨q39, hV⟩ := hV
          obtain ⟨P40, t41, hV⟩ := hV
          refine g_cVV (pc := 113) X (As := [Value.int v38]) ml_X5_96 rfl q39 t41 (by rw [hR]; exact ⟨by decide, by decide, by decide, by decide⟩) rfl rfl (Nat.zero_le _) dX5_findMoves_113 (fun h43 p42 => ?_)
          have hV := hV h43 p42
          refine g_iload_n (pc := 116) X 3 rfl rfl dX5_findMoves_116 ?_
          refine g_iload (pc := 117) X 1 rfl dX5_findMoves_117 ?_
          refine g_iadd (pc := 119) X dX5_findMoves_119 ?_
          refine g_istore_n (pc := 120) X (i := 2) (rest := [(5, Value.int y24), (4, Value.int y21), (0, rv w.2.2.2 x0), (3, Value.int x3)]) rfl (by decide) rfl dX5_findMoves_120 (fun y44 e45 => ?_)
          have hV := hV y44 e45
          refine g_goto (pc := 121) X 184 dX5_findMoves_121 (by decide) ?_
          refine g_lv [3, 0, 4] rfl ?_
          exact W_X5_findMoves_184 X Tt hR hL32 hV
def V_X5_findMoves_0 (w : Wd) (sh : List Sh) (x0 : Nat) (x1 : Int32) (h : Hp) (L32 : Nat → Int32 → Int32 → Hp → Prop) (RET : Hp → Prop) : Prop :=
  shAt sh x0 = some (.inr 5) ∧ (shAt sh (h.2.1 x0 1) = some (.inr 6) ∧ (∃ P3 : Hp → Prop, C_X6_clear w sh (h.2.1 x0 1) h P3 ∧ (∀ h6 : Hp, P3 h6 → (shAt sh (h6.2.1 x0 4) = some (.inr 8) ∧ (∃ P8 : Hp → Prop, C_X8_clear w sh (h6.2.1 x0 4) h6 P8 ∧ (∀ h11 : Hp, P8 h11 → (shAt sh (h11.2.1 x0 6) = some (.inr 8) ∧ (∃ P13 : Hp → Prop, C_X8_clear w sh (h11.2.1 x0 6) h11 P13 ∧ (∀ h16 : Hp, P13 h16 → (shAt sh (h16.2.1 x0 3) = some (.inr 0) ∧ (∃ P18 : Hp → Prop, C_X0_wipe w sh (h16.2.1 x0 3) h16 P18 ∧ (∀ h21 : Hp, P18 h21 → (∀ y22 : Int32, y22 = x1 → (∀ y24 : Int32, y24 = (0 : Int32) → (L32 x0 y22 y24 h21)))))))))))))))
set_option maxRecDepth 20000 in
set_option maxHeartbeats 4000000 in
theorem W_X5_findMoves_0 {w : Wd} {E : GE} {sh : List Sh} {x0 : Nat} {x1 : Int32} {h : Hp} {L32 : Nat → Int32 → Int32 → Hp → Prop} {RET : Hp → Prop} (X : Cx w E cX5_findMoves 6 RX5) (Tt : Rt w E none sh.length 0 0 (fun q sh9 h9 => q = none ∧ sh9 = sh ∧ RET h9)) (hR : gR E = { frames := 4, cells := 0, slots := 0, locals := 90 }) (hL32 : ∀ (x0 : Nat) (x2 : Int32) (x3 : Int32) (h : Hp), L32 x0 x2 x3 h → G w E 6 32 [(0, rv w.2.2.2 x0), (2, Value.int x2), (3, Value.int x3)] [] sh h 0 0) (hV : V_X5_findMoves_0 w sh x0 x1 h L32 RET) : G w E 6 0 [(0, rv w.2.2.2 x0), (1, Value.int x1)] [] sh h 0 0 := by
  unfold V_X5_findMoves_0 at hV
  refine g_aload_n (pc := 0) X 0 rfl rfl dX5_findMoves_0 ?_
  obtain ⟨q1, hV⟩ := hV
  refine g_getR (pc := 1) X fl_X5_21 q1 dX5_findMoves_1 ?_
  obtain ⟨q2, hV⟩ := hV
  obtain ⟨P3, t4, hV⟩ := hV
  refine g_cVV (pc := 4) X (As := []) ml_X5_118 rfl q2 t4 (by rw [hR]; exact ⟨by decide, by decide, by decide, by decide⟩) rfl rfl (Nat.zero_le _) dX5_findMoves_4 (fun h6 p5 => ?_)
  have hV := hV h6 p5
  refine g_aload_n (pc := 7) X 0 rfl rfl dX5_findMoves_7 ?_
  refine g_getR (pc := 8) X fl_X5_46 q1 dX5_findMoves_8 ?_
  obtain ⟨q7, hV⟩ := hV
  obtain ⟨P8, t9, hV⟩ := hV
  refine g_cVV (pc := 11) X (As := []) ml_X5_121 rfl q7 t9 (by rw [hR]; exact ⟨by decide, by decide, by decide, by decide⟩) rfl rfl (Nat.zero_le _) dX5_findMoves_11 (fun h11 p10 => ?_)
  have hV := hV h11 p10
  refine g_aload_n (pc := 14) X 0 rfl rfl dX5_findMoves_14 ?_
  refine g_getR (pc := 15) X fl_X5_53 q1 dX5_findMoves_15 ?_
  obtain ⟨q12, hV⟩ := hV
  obtain ⟨P13, t14, hV⟩ := hV
  refine g_cVV (pc := 18) X (As := []) ml_X5_121 rfl q12 t14 (by rw [hR]; exact ⟨by decide, by decide, by decide, by decide⟩) rfl rfl (Nat.zero_le _) dX5_findMoves_18 (fun h16 p15 => ?_)
  have hV := hV h16 p15
  refine g_aload_n (pc := 21) X 0 rfl rfl dX5_findMoves_21 ?_
  refine g_getR (pc := 22) X fl_X5_37 q1 dX5_findMoves_22 ?_
  obtain ⟨q17, hV⟩ := hV
  obtain ⟨P18, t19, hV⟩ := hV
  refine g_cVV (pc := 25) X (As := []) ml_X5_122 rfl q17 t19 (by rw [hR]; exact ⟨by decide, by decide, by decide, by decide⟩) rfl rfl (Nat.zero_le _) dX5_findMoves_25 (fun h21 p20 => ?_)
  have hV := hV h21 p20
  refine g_iload_n (pc := 28) X 1 rfl rfl dX5_findMoves_28 ?_
  refine g_istore_n (pc := 29) X (i := 2) (rest := [(0, rv w.2.2.2 x0), (1, Value.int x1)]) rfl (by decide) rfl dX5_findMoves_29 (fun y22 e23 => ?_)
  have hV := hV y22 e23
  refine g_iconst (pc := 30) (v := (0 : Int32)) X dX5_findMoves_30 (by decide) ?_
  refine g_istore_n (pc := 31) X (i := 3) (rest := [(2, Value.int y22), (0, rv w.2.2.2 x0), (1, Value.int x1)]) rfl (by decide) rfl dX5_findMoves_31 (fun y24 e25 => ?_)
  have hV := hV y24 e25
  refine g_lv [2, 1, 0] rfl ?_
  exact hL32 x0 y22 y24 h21 hV
def C_X5_findMoves (w : Wd) (sh : List Sh) (x0 : Nat) (x1 : Int32) (h : Hp) (RET : Hp → Prop) : Prop := CV w yX5_findMoves (.code yX5_findMoves cX5_findMoves 6 none) 4 90 [rv w.2.2.2 x0, Value.int x1] sh h RET
set_option maxRecDepth 20000 in
theorem K_X5_findMoves {w : Wd} {sh : List Sh} {x0 : Nat} {x1 : Int32} {h : Hp} {RET : Hp → Prop} {α : Type} {r : α → α → Prop} (wf : WellFounded r) (I32 : α → Nat → Int32 → Int32 → Hp → Prop) (hE : V_X5_findMoves_0 w sh x0 x1 h (fun x0 x2 x3 h => ∃ a, I32 a x0 x2 x3 h) RET) (h32 : ∀ (b : α) (x0 : Nat) (x2 : Int32) (x3 : Int32) (h : Hp), I32 b x0 x2 x3 h → V_X5_findMoves_32 w sh x0 x2 x3 h (fun x0 x2 x3 h => ∃ a, r a b ∧ I32 a x0 x2 x3 h) RET) : C_X5_findMoves w sh x0 x1 h RET :=
  Ct_of (by decide +kernel) (by simp [lg_sl, rv_cat, cat_int, cat_long]) (fun E X Tt hR _ => by
    have key : ∀ a : α, (∀ (x0 : Nat) (x2 : Int32) (x3 : Int32) (h : Hp), I32 a x0 x2 x3 h → G w E 6 32 [(0, rv w.2.2.2 x0), (2, Value.int x2), (3, Value.int x3)] [] sh h 0 0) := by
      intro a
      induction a using wf.induction with
      | _ a ih =>
        exact (fun x0 x2 x3 h hi => W_X5_findMoves_32 X Tt hR (fun x0 x2 x3 h hx => by obtain ⟨a2, ha, hi⟩ := hx; exact (ih a2 ha) x0 x2 x3 h hi) (h32 a x0 x2 x3 h hi))
    rw [show lv_args 0 [rv w.2.2.2 x0, Value.int x1] = [(0, rv w.2.2.2 x0), (1, Value.int x1)] from by simp [lv_args, rv_cat, cat_int, cat_long]]
    refine g_lv [0, 1] rfl ?_
    exact W_X5_findMoves_0 X Tt hR (fun x0 x2 x3 h hx => by obtain ⟨a2, hi⟩ := hx; exact (key a2) x0 x2 x3 h hi) hE)
def V_X5_tellCodes_134 (w : Wd) (sh : List Sh) (x0 : Nat) (x1 : Nat) (x2 : Int32) (h : Hp) (L9 : Nat → Nat → Int32 → Hp → Prop) (RET : Int32 → Hp → Prop) : Prop :=
  ∀ y1 : Int32, y1 = x2 + (1 : Int32) → (L9 x0 x1 y1 h)
set_option maxRecDepth 20000 in
set_option maxHeartbeats 4000000 in
theorem W_X5_tellCodes_134 {w : Wd} {E : GE} {sh : List Sh} {x0 : Nat} {x1 : Nat} {x2 : Int32} {h : Hp} {L9 : Nat → Nat → Int32 → Hp → Prop} {RET : Int32 → Hp → Prop} (X : Cx w E cX5_tellCodes 4 RX5) (Tt : Rt w E (some .boolean) sh.length 0 0 (fun q sh9 h9 => ∃ v : Int32, q = some (Value.int v) ∧ sh9 = sh ∧ RET v h9)) (hR : gR E = { frames := 4, cells := 0, slots := 0, locals := 95 }) (hL9 : ∀ (x0 : Nat) (x1 : Nat) (x2 : Int32) (h : Hp), L9 x0 x1 x2 h → G w E 4 9 [(0, rv w.2.2.2 x0), (1, rv w.2.2.2 x1), (2, Value.int x2)] [] sh h 0 0) (hV : V_X5_tellCodes_134 w sh x0 x1 x2 h L9 RET) : G w E 4 134 [(0, rv w.2.2.2 x0), (1, rv w.2.2.2 x1), (2, Value.int x2)] [] sh h 0 0 := by
  unfold V_X5_tellCodes_134 at hV
  refine g_iinc (pc := 134) X 2 (v := (1 : Int32)) (rest := [(0, rv w.2.2.2 x0), (1, rv w.2.2.2 x1)]) rfl (by decide) (by simp [flt1, flt2, rv_cat, cat_int, cat_long]) (by decide) dX5_tellCodes_134 (fun y1 e2 => ?_)
  have hV := hV y1 e2
  refine g_goto (pc := 137) X 9 dX5_tellCodes_137 (by decide) ?_
  refine g_lv [1, 2, 0] rfl ?_
  exact hL9 x0 x1 y1 h hV
def V_X5_tellCodes_9 (w : Wd) (sh : List Sh) (x0 : Nat) (x1 : Nat) (x2 : Int32) (h : Hp) (L9 : Nat → Nat → Int32 → Hp → Prop) (RET : Int32 → Hp → Prop) : Prop :=
  shAt sh x0 = some (.inr 5) ∧ (shAt sh (h.2.1 x0 1) = some (.inr 6) ∧ (∃ P3 : Int32 → Hp → Prop, C_X6_length w sh (h.2.1 x0 1) h P3 ∧ (∀ (v7 : Int32) (h6 : Hp), P3 v7 h6 → (((v7 ≤ x2) → (RET (1 : Int32) h6)) ∧ ((¬ v7 ≤ x2) → (shAt sh (h6.2.1 x0 2) = some (.inr 1) ∧ (∃ P10 : Int32 → Hp → Prop, C_X1_pairCode w sh (h6.2.1 x0 2) x1 (h6.2.1 x0 1) x2 h6 P10 ∧ (∀ (v14 : Int32) (h13 : Hp), P10 v14 h13 → (∀ y15 : Int32, y15 = v14 → (((y15 < 0) → (shAt sh (h13.2.1 x0 1) = some (.inr 6) ∧ (∃ P19 : Int32 → Hp → Prop, C_X6_sizeOf w sh (h13.2.1 x0 1) x2 h13 P19 ∧ (∀ (v23 : Int32) (h22 : Hp), P19 v23 h22 → (shAt sh (h13.2.1 x0 2) = some (.inr 1) ∧ (∃ P25 : Int32 → Hp → Prop, C_X1_singleCode w sh (h13.2.1 x0 2) x1 (h13.2.1 x0 1) x2 v23 h22 P25 ∧ (∀ (v29 : Int32) (h28 : Hp), P25 v29 h28 → (∀ y30 : Int32, y30 = v29 → (((y30 < 0) → (shAt sh (h28.2.1 x0 2) = some (.inr 1) ∧ (∃ P34 : Int32 → Hp → Prop, C_X1_singleCode w sh (h28.2.1 x0 2) x1 (h28.2.1 x0 1) x2 (0 : Int32) h28 P34 ∧ (∀ (v38 : Int32) (h37 : Hp), P34 v38 h37 → (∀ y39 : Int32, y39 = v38 → (((0 ≤ y39) → (shAt sh (h37.2.1 x0 5) = some (.inr 8) ∧ (∃ P43 : Hp → Prop, C_X8_push w sh (h37.2.1 x0 5) y39 h37 P43 ∧ (∀ h46 : Hp, P43 h46 → (shAt sh (h46.2.1 x0 1) = some (.inr 6) ∧ (∃ P48 : Int32 → Hp → Prop, C_X6_sizeOf w sh (h46.2.1 x0 1) x2 h46 P48 ∧ (∀ (v52 : Int32) (h51 : Hp), P48 v52 h51 → (shAt sh (h46.2.1 x0 5) = some (.inr 8) ∧ (∃ P54 : Hp → Prop, C_X8_pushBig w sh (h46.2.1 x0 5) (v52.toInt64) h51 P54 ∧ (∀ h57 : Hp, P54 h57 → (V_X5_tellCodes_134 w sh x0 x1 x2 h57 L9 RET))))))))))) ∧ ((¬ 0 ≤ y39) → (RET (0 : Int32) h37)))))))) ∧ ((¬ y30 < 0) → (shAt sh (h28.2.1 x0 5) = some (.inr 8) ∧ (∃ P59 : Hp → Prop, C_X8_push w sh (h28.2.1 x0 5) y30 h28 P59 ∧ (∀ h62 : Hp, P59 h62 → (V_X5_tellCodes_134 w sh x0 x1 x2 h62 L9 RET)))))))))))))) ∧ ((¬ y15 < 0) → (shAt sh (h13.2.1 x0 5) = some (.inr 8) ∧ (∃ P64 : Hp → Prop, C_X8_push w sh (h13.2.1 x0 5) y15 h13 P64 ∧ (∀ h67 : Hp, P64 h67 → (∀ y68 : Int32, y68 = x2 + (1 : Int32) → (V_X5_tellCodes_134 w sh x0 x1 y68 h67 L9 RET))))))))))))))))
set_option maxRecDepth 20000 in
set_option maxHeartbeats 4000000 in
theorem W_X5_tellCodes_9 {w : Wd} {E : GE} {sh : List Sh} {x0 : Nat} {x1 : Nat} {x2 : Int32} {h : Hp} {L9 : Nat → Nat → Int32 → Hp → Prop} {RET : Int32 → Hp → Prop} (X : Cx w E cX5_tellCodes 4 RX5) (Tt : Rt w E (some .boolean) sh.length 0 0 (fun q sh9 h9 => ∃ v : Int32, q = some (Value.int v) ∧ sh9 = sh ∧ RET v h9)) (hR : gR E = { frames := 4, cells := 0, slots := 0, locals := 95 }) (hL9 : ∀ (x0 : Nat) (x1 : Nat) (x2 : Int32) (h : Hp), L9 x0 x1 x2 h → G w E 4 9 [(0, rv w.2.2.2 x0), (1, rv w.2.2.2 x1), (2, Value.int x2)] [] sh h 0 0) (hV : V_X5_tellCodes_9 w sh x0 x1 x2 h L9 RET) : G w E 4 9 [(0, rv w.2.2.2 x0), (1, rv w.2.2.2 x1), (2, Value.int x2)] [] sh h 0 0 := by
  unfold V_X5_tellCodes_9 at hV
  refine g_iload_n (pc := 9) X 2 rfl rfl dX5_tellCodes_9 ?_
  refine g_aload_n (pc := 10) X 0 rfl rfl dX5_tellCodes_10 ?_
  obtain ⟨q1, hV⟩ := hV
  refine g_getR (pc := 11) X fl_X5_21 q1 dX5_tellCodes_11 ?_
  obtain ⟨q2, hV⟩ := hV
  obtain ⟨P3, t4, hV⟩ := hV
  refine g_cVI (pc := 14) X (As := []) ml_X5_172 rfl q2 t4 (by rw [hR]; exact ⟨by decide, by decide, by decide, by decide⟩) rfl rfl (Nat.le_of_ble_eq_true rfl) dX5_tellCodes_14 (fun v7 h6 p5 => ?_)
  have hV := hV v7 h6 p5
  refine g_icmp_ge (pc := 17) X 140 dX5_tellCodes_17 (by decide) (fun c8 => ?_) (fun c8 => ?_)
  · have hV := hV.1 c8
    refine g_iconst (pc := 140) (v := (1 : Int32)) X dX5_tellCodes_140 (by decide) ?_
    exact g_zret (pc := 141) X Tt (by decide) ⟨_, rfl, rfl, hV⟩ dX5_tellCodes_141
  · have hV := hV.2 c8
    refine g_aload_n (pc := 20) X 0 rfl rfl dX5_tellCodes_20 ?_
    refine g_getR (pc := 21) X fl_X5_28 q1 dX5_tellCodes_21 ?_
    refine g_aload_n (pc := 24) X 1 rfl rfl dX5_tellCodes_24 ?_
    refine g_aload_n (pc := 25) X 0 rfl rfl dX5_tellCodes_25 ?_
    refine g_getR (pc := 26) X fl_X5_21 q1 dX5_tellCodes_26 ?_
    refine g_iload_n (pc := 29) X 2 rfl rfl dX5_tellCodes_29 ?_
    obtain ⟨q9, hV⟩ := hV
    obtain ⟨P10, t11, hV⟩ := hV
    refine g_cVI (pc := 30) X (As := [rv w.2.2.2 x1, rv w.2.2.2 (h6.2.1 x0 1), Value.int x2]) ml_X5_173 rfl q9 t11 (by rw [hR]; exact ⟨by decide, by decide, by decide, by decide⟩) rfl rfl (Nat.zero_le _) dX5_tellCodes_30 (fun v14 h13 p12 => ?_)
    have hV := hV v14 h13 p12
    refine g_istore_n (pc := 33) X (i := 3) (rest := [(0, rv w.2.2.2 x0), (1, rv w.2.2.2 x1), (2, Value.int x2)]) rfl (by decide) rfl dX5_tellCodes_33 (fun y15 e16 => ?_)
    have hV := hV y15 e16
    refine g_iload_n (pc := 34) X 0 rfl rfl dX5_tellCodes_34 ?_
    refine g_if_lt (pc := 35) X 52 dX5_tellCodes_35 (by decide) (fun c17 => ?_) (fun c17 => ?_)
    · have hV := hV.1 c17
      refine g_aload_n (pc := 52) X 1 rfl rfl dX5_tellCodes_52 ?_
      refine g_getR (pc := 53) X fl_X5_28 q1 dX5_tellCodes_53 ?_
      refine g_aload_n (pc := 56) X 2 rfl rfl dX5_tellCodes_56 ?_
      refine g_aload_n (pc := 57) X 1 rfl rfl dX5_tellCodes_57 ?_
      refine g_getR (pc := 58) X fl_X5_21 q1 dX5_tellCodes_58 ?_
      refine g_iload_n (pc := 61) X 3 rfl rfl dX5_tellCodes_61 ?_
      refine g_aload_n (pc := 62) X 1 rfl rfl dX5_tellCodes_62 ?_
      refine g_getR (pc := 63) X fl_X5_21 q1 dX5_tellCodes_63 ?_
      refine g_iload_n (pc := 66) X 3 rfl rfl dX5_tellCodes_66 ?_
      obtain ⟨q18, hV⟩ := hV
      obtain ⟨P19, t20, hV⟩ := hV
      refine g_cVI (pc := 67) X (As := [Value.int x2]) ml_X5_177 rfl q18 t20 (by rw [hR]; exact ⟨by decide, by decide, by decide, by decide⟩) rfl rfl (by simp [rv_cat, cat_int, cat_long]) dX5_tellCodes_67 (fun v23 h22 p21 => ?_)
      have hV := hV v23 h22 p21
      obtain ⟨q24, hV⟩ := hV
      obtain ⟨P25, t26, hV⟩ := hV
      refine g_cVI (pc := 70) X (As := [rv w.2.2.2 x1, rv w.2.2.2 (h13.2.1 x0 1), Value.int x2, Value.int v23]) ml_X5_180 rfl q24 t26 (by rw [hR]; exact ⟨by decide, by decide, by decide, by decide⟩) rfl rfl (Nat.zero_le _) dX5_tellCodes_70 (fun v29 h28 p27 => ?_)
      have hV := hV v29 h28 p27
      refine g_istore_n (pc := 73) X (i := 3) (rest := [(0, rv w.2.2.2 x0), (1, rv w.2.2.2 x1), (2, Value.int x2)]) rfl (by decide) rfl dX5_tellCodes_73 (fun y30 e31 => ?_)
      have hV := hV y30 e31
      refine g_iload_n (pc := 74) X 0 rfl rfl dX5_tellCodes_74 ?_
      refine g_if_lt (pc := 75) X 89 dX5_tellCodes_75 (by decide) (fun c32 => ?_) (fun c32 => ?_)
      · have hV := hV.1 c32
        refine g_aload_n (pc := 89) X 1 rfl rfl dX5_tellCodes_89 ?_
        refine g_getR (pc := 90) X fl_X5_28 q1 dX5_tellCodes_90 ?_
        refine g_aload_n (pc := 93) X 2 rfl rfl dX5_tellCodes_93 ?_
        refine g_aload_n (pc := 94) X 1 rfl rfl dX5_tellCodes_94 ?_
        refine g_getR (pc := 95) X fl_X5_21 q1 dX5_tellCodes_95 ?_
        refine g_iload_n (pc := 98) X 3 rfl rfl dX5_tellCodes_98 ?_
        refine g_iconst (pc := 99) (v := (0 : Int32)) X dX5_tellCodes_99 (by decide) ?_
        obtain ⟨q33, hV⟩ := hV
        obtain ⟨P34, t35, hV⟩ := hV
        refine g_cVI (pc := 100) X (As := [rv w.2.2.2 x1, rv w.2.2.2 (h28.2.1 x0 1), Value.int x2, Value.int (0 : Int32)]) ml_X5_180 rfl q33 t35 (by rw [hR]; exact ⟨by decide, by decide, by decide, by decide⟩) rfl rfl (Nat.zero_le _) dX5_tellCodes_100 (fun v38 h37 p36 => ?_)
        have hV := hV v38 h37 p36
        refine g_istore_n (pc := 103) X (i := 3) (rest := [(0, rv w.2.2.2 x0), (1, rv w.2.2.2 x1), (2, Value.int x2)]) rfl (by decide) rfl dX5_tellCodes_103 (fun y39 e40 => ?_)
        have hV := hV y39 e40
        refine g_iload_n (pc := 104) X 0 rfl rfl dX5_tellCodes_104 ?_
        refine g_if_ge (pc := 105) X 110 dX5_tellCodes_105 (by decide) (fun c41 => ?_) (fun c41 => ?_)
        · have hV := hV.1 c41
          refine g_aload_n (pc := 110) X 1 rfl rfl dX5_tellCodes_110 ?_
          refine g_getR (pc := 111) X fl_X5_50 q1 dX5_tellCodes_111 ?_
          refine g_iload_n (pc := 114) X 0 rfl rfl dX5_tellCodes_114 ?_
          obtain ⟨q42, hV⟩ := hV
          obtain ⟨P43, t44, hV⟩ := hV
          refine g_cVV (pc := 115) X (As := [Value.int y39]) ml_X5_96 rfl q42 t44 (by rw [hR]; exact ⟨by decide, by decide, by decide, by decide⟩) rfl rfl (Nat.zero_le _) dX5_tellCodes_115 (fun h46 p45 => ?_)
          have hV := hV h46 p45
          refine g_aload_n (pc := 118) X 1 rfl rfl dX5_tellCodes_118 ?_
          refine g_getR (pc := 119) X fl_X5_50 q1 dX5_tellCodes_119 ?_
          refine g_aload_n (pc := 122) X 1 rfl rfl dX5_tellCodes_122 ?_
          refine g_getR (pc := 123) X fl_X5_21 q1 dX5_tellCodes_123 ?_
          refine g_iload_n (pc := 126) X 3 rfl rfl dX5_tellCodes_126 ?_
          obtain ⟨q47, hV⟩ := hV
          obtain ⟨P48, t49, hV⟩ := hV
          refine g_cVI (pc := 127) X (As := [Value.int x2]) ml_X5_177 rfl q47 t49 (by rw [hR]; exact ⟨by decide, by decide, by decide, by decide⟩) rfl rfl (by simp [rv_cat, cat_int, cat_long]) dX5_tellCodes_127 (fun v52 h51 p50 => ?_)
          have hV := hV v52 h51 p50
          refine g_i2l (pc := 130) X dX5_tellCodes_130 ?_
          obtain ⟨q53, hV⟩ := hV
          obtain ⟨P54, t55, hV⟩ := hV
          refine g_cVV (pc := 131) X (As := [Value.long (v52.toInt64)]) ml_X5_99 rfl q53 t55 (by rw [hR]; exact ⟨by decide, by decide, by decide, by decide⟩) rfl rfl (Nat.zero_le _) dX5_tellCodes_131 (fun h57 p56 => ?_)
          have hV := hV h57 p56
          refine g_lv [1, 2, 3] rfl ?_
          exact W_X5_tellCodes_134 X Tt hR hL9 hV
        · have hV := hV.2 c41
          refine g_iconst (pc := 108) (v := (0 : Int32)) X dX5_tellCodes_108 (by decide) ?_
          exact g_zret (pc := 109) X Tt (by decide) ⟨_, rfl, rfl, hV⟩ dX5_tellCodes_109
      · have hV := hV.2 c32
        refine g_aload_n (pc := 78) X 1 rfl rfl dX5_tellCodes_78 ?_
        refine g_getR (pc := 79) X fl_X5_50 q1 dX5_tellCodes_79 ?_
        refine g_iload_n (pc := 82) X 0 rfl rfl dX5_tellCodes_82 ?_
        obtain ⟨q58, hV⟩ := hV
        obtain ⟨P59, t60, hV⟩ := hV
        refine g_cVV (pc := 83) X (As := [Value.int y30]) ml_X5_96 rfl q58 t60 (by rw [hR]; exact ⟨by decide, by decide, by decide, by decide⟩) rfl rfl (Nat.zero_le _) dX5_tellCodes_83 (fun h62 p61 => ?_)
        have hV := hV h62 p61
        refine g_goto (pc := 86) X 134 dX5_tellCodes_86 (by decide) ?_
        refine g_lv [1, 2, 3] rfl ?_
        exact W_X5_tellCodes_134 X Tt hR hL9 hV
    · have hV := hV.2 c17
      refine g_aload_n (pc := 38) X 1 rfl rfl dX5_tellCodes_38 ?_
      refine g_getR (pc := 39) X fl_X5_50 q1 dX5_tellCodes_39 ?_
      refine g_iload_n (pc := 42) X 0 rfl rfl dX5_tellCodes_42 ?_
      obtain ⟨q63, hV⟩ := hV
      obtain ⟨P64, t65, hV⟩ := hV
      refine g_cVV (pc := 43) X (As := [Value.int y15]) ml_X5_96 rfl q63 t65 (by rw [hR]; exact ⟨by decide, by decide, by decide, by decide⟩) rfl rfl (Nat.zero_le _) dX5_tellCodes_43 (fun h67 p66 => ?_)
      have hV := hV h67 p66
      refine g_iinc (pc := 46) X 3 (v := (1 : Int32)) (rest := [(3, Value.int y15), (0, rv w.2.2.2 x0), (1, rv w.2.2.2 x1)]) rfl (by decide) (by simp [flt1, flt2, rv_cat, cat_int, cat_long]) (by decide) dX5_tellCodes_46 (fun y68 e69 => ?_)
      have hV := hV y68 e69
      refine g_goto (pc := 49) X 134 dX5_tellCodes_49 (by decide) ?_
      refine g_lv [2, 3, 0] rfl ?_
      exact W_X5_tellCodes_134 X Tt hR hL9 hV
def V_X5_tellCodes_0 (w : Wd) (sh : List Sh) (x0 : Nat) (x1 : Nat) (h : Hp) (L9 : Nat → Nat → Int32 → Hp → Prop) (RET : Int32 → Hp → Prop) : Prop :=
  shAt sh x0 = some (.inr 5) ∧ (shAt sh (h.2.1 x0 5) = some (.inr 8) ∧ (∃ P3 : Hp → Prop, C_X8_clear w sh (h.2.1 x0 5) h P3 ∧ (∀ h6 : Hp, P3 h6 → (∀ y7 : Int32, y7 = (0 : Int32) → (L9 x0 x1 y7 h6)))))
set_option maxRecDepth 20000 in
set_option maxHeartbeats 4000000 in
theorem W_X5_tellCodes_0 {w : Wd} {E : GE} {sh : List Sh} {x0 : Nat} {x1 : Nat} {h : Hp} {L9 : Nat → Nat → Int32 → Hp → Prop} {RET : Int32 → Hp → Prop} (X : Cx w E cX5_tellCodes 4 RX5) (Tt : Rt w E (some .boolean) sh.length 0 0 (fun q sh9 h9 => ∃ v : Int32, q = some (Value.int v) ∧ sh9 = sh ∧ RET v h9)) (hR : gR E = { frames := 4, cells := 0, slots := 0, locals := 95 }) (hL9 : ∀ (x0 : Nat) (x1 : Nat) (x2 : Int32) (h : Hp), L9 x0 x1 x2 h → G w E 4 9 [(0, rv w.2.2.2 x0), (1, rv w.2.2.2 x1), (2, Value.int x2)] [] sh h 0 0) (hV : V_X5_tellCodes_0 w sh x0 x1 h L9 RET) : G w E 4 0 [(0, rv w.2.2.2 x0), (1, rv w.2.2.2 x1)] [] sh h 0 0 := by
  unfold V_X5_tellCodes_0 at hV
  refine g_aload_n (pc := 0) X 0 rfl rfl dX5_tellCodes_0 ?_
  obtain ⟨q1, hV⟩ := hV
  refine g_getR (pc := 1) X fl_X5_50 q1 dX5_tellCodes_1 ?_
  obtain ⟨q2, hV⟩ := hV
  obtain ⟨P3, t4, hV⟩ := hV
  refine g_cVV (pc := 4) X (As := []) ml_X5_121 rfl q2 t4 (by rw [hR]; exact ⟨by decide, by decide, by decide, by decide⟩) rfl rfl (Nat.zero_le _) dX5_tellCodes_4 (fun h6 p5 => ?_)
  have hV := hV h6 p5
  refine g_iconst (pc := 7) (v := (0 : Int32)) X dX5_tellCodes_7 (by decide) ?_
  refine g_istore_n (pc := 8) X (i := 2) (rest := [(0, rv w.2.2.2 x0), (1, rv w.2.2.2 x1)]) rfl (by decide) (by simp [flt1, flt2, rv_cat, cat_int, cat_long]) dX5_tellCodes_8 (fun y7 e8 => ?_)
  have hV := hV y7 e8
  refine g_lv [1, 2, 0] rfl ?_
  exact hL9 x0 x1 y7 h6 hV
def C_X5_tellCodes (w : Wd) (sh : List Sh) (x0 : Nat) (x1 : Nat) (h : Hp) (RET : Int32 → Hp → Prop) : Prop := CI w yX5_tellCodes (.code yX5_tellCodes cX5_tellCodes 4 (some .boolean)) 4 95 [rv w.2.2.2 x0, rv w.2.2.2 x1] sh h RET
set_option maxRecDepth 20000 in
theorem K_X5_tellCodes {w : Wd} {sh : List Sh} {x0 : Nat} {x1 : Nat} {h : Hp} {RET : Int32 → Hp → Prop} {α : Type} {r : α → α → Prop} (wf : WellFounded r) (I9 : α → Nat → Nat → Int32 → Hp → Prop) (hE : V_X5_tellCodes_0 w sh x0 x1 h (fun x0 x1 x2 h => ∃ a, I9 a x0 x1 x2 h) RET) (h9 : ∀ (b : α) (x0 : Nat) (x1 : Nat) (x2 : Int32) (h : Hp), I9 b x0 x1 x2 h → V_X5_tellCodes_9 w sh x0 x1 x2 h (fun x0 x1 x2 h => ∃ a, r a b ∧ I9 a x0 x1 x2 h) RET) : C_X5_tellCodes w sh x0 x1 h RET :=
  Ct_of (by decide +kernel) (by simp [lg_sl, rv_cat, cat_int, cat_long]) (fun E X Tt hR _ => by
    have key : ∀ a : α, (∀ (x0 : Nat) (x1 : Nat) (x2 : Int32) (h : Hp), I9 a x0 x1 x2 h → G w E 4 9 [(0, rv w.2.2.2 x0), (1, rv w.2.2.2 x1), (2, Value.int x2)] [] sh h 0 0) := by
      intro a
      induction a using wf.induction with
      | _ a ih =>
        exact (fun x0 x1 x2 h hi => W_X5_tellCodes_9 X Tt hR (fun x0 x1 x2 h hx => by obtain ⟨a2, ha, hi⟩ := hx; exact (ih a2 ha) x0 x1 x2 h hi) (h9 a x0 x1 x2 h hi))
    rw [show lv_args 0 [rv w.2.2.2 x0, rv w.2.2.2 x1] = [(0, rv w.2.2.2 x0), (1, rv w.2.2.2 x1)] from by simp [lv_args, rv_cat, cat_int, cat_long]]
    refine g_lv [0, 1] rfl ?_
    exact W_X5_tellCodes_0 X Tt hR (fun x0 x1 x2 h hx => by obtain ⟨a2, hi⟩ := hx; exact (key a2) x0 x1 x2 h hi) hE)
def V_X5_tellSizes_0 (w : Wd) (sh : List Sh) (x0 : Nat) (x1 : Nat) (x2 : Int32) (x3 : Int32) (h : Hp)  (RET : Hp → Prop) : Prop :=
  shAt sh x0 = some (.inr 5) ∧ (shAt sh (h.2.1 x0 4) = some (.inr 8) ∧ (∃ P3 : Int32 → Hp → Prop, C_X8_length w sh (h.2.1 x0 4) h P3 ∧ (∀ (v7 : Int32) (h6 : Hp), P3 v7 h6 → (shAt sh (h6.2.1 x0 5) = some (.inr 8) ∧ (∃ P9 : Int32 → Hp → Prop, C_X8_length w sh (h6.2.1 x0 5) h6 P9 ∧ (∀ (v13 : Int32) (h12 : Hp), P9 v13 h12 → (shAt sh (h12.2.1 x0 6) = some (.inr 8) ∧ (∃ P15 : Int32 → Hp → Prop, C_X8_length w sh (h12.2.1 x0 6) h12 P15 ∧ (∀ (v19 : Int32) (h18 : Hp), P15 v19 h18 → (∀ y20 : Int32, y20 = ((v7 + v13) + v19) → (∃ P22 : Int32 → Hp → Prop, C_X11_bigLength w sh (x2.toInt64) h18 P22 ∧ (∀ (v26 : Int32) (h25 : Hp), P22 v26 h25 → (shAt sh (h25.2.1 x0 4) = some (.inr 8) ∧ (∃ P28 : Int32 → Hp → Prop, C_X8_length w sh (h25.2.1 x0 4) h25 P28 ∧ (∀ (v32 : Int32) (h31 : Hp), P28 v32 h31 → (∃ P33 : Int32 → Hp → Prop, C_X11_bigLength w sh (v32.toInt64) h31 P33 ∧ (∀ (v37 : Int32) (h36 : Hp), P33 v37 h36 → (shAt sh (h36.2.1 x0 5) = some (.inr 8) ∧ (∃ P39 : Int32 → Hp → Prop, C_X8_length w sh (h36.2.1 x0 5) h36 P39 ∧ (∀ (v43 : Int32) (h42 : Hp), P39 v43 h42 → (∃ P44 : Int32 → Hp → Prop, C_X11_bigLength w sh (v43.toInt64) h42 P44 ∧ (∀ (v48 : Int32) (h47 : Hp), P44 v48 h47 → (shAt sh (h47.2.1 x0 6) = some (.inr 8) ∧ (∃ P50 : Int32 → Hp → Prop, C_X8_length w sh (h47.2.1 x0 6) h47 P50 ∧ (∀ (v54 : Int32) (h53 : Hp), P50 v54 h53 → (∃ P55 : Int32 → Hp → Prop, C_X11_bigLength w sh (v54.toInt64) h53 P55 ∧ (∀ (v59 : Int32) (h58 : Hp), P55 v59 h58 → (∀ y60 : Int32, y60 = ((((v26 + (1 : Int32)) + v37) + v48) + v59) → (shAt sh x1 = some (.inr 8) ∧ (∃ P63 : Hp → Prop, C_X8_pushBig w sh x1 (((y60 + x3) + y20).toInt64) h58 P63 ∧ (∀ h66 : Hp, P63 h66 → (∃ P67 : Hp → Prop, C_X8_pushBig w sh x1 (x2.toInt64) h66 P67 ∧ (∀ h70 : Hp, P67 h70 → (∃ P71 : Hp → Prop, C_X8_push w sh x1 (0 : Int32) h70 P71 ∧ (∀ h74 : Hp, P71 h74 → (shAt sh (h74.2.1 x0 4) = some (.inr 8) ∧ (∃ P76 : Int32 → Hp → Prop, C_X8_length w sh (h74.2.1 x0 4) h74 P76 ∧ (∀ (v80 : Int32) (h79 : Hp), P76 v80 h79 → (∃ P81 : Hp → Prop, C_X8_pushBig w sh x1 (v80.toInt64) h79 P81 ∧ (∀ h84 : Hp, P81 h84 → (shAt sh (h84.2.1 x0 5) = some (.inr 8) ∧ (∃ P86 : Int32 → Hp → Prop, C_X8_length w sh (h84.2.1 x0 5) h84 P86 ∧ (∀ (v90 : Int32) (h89 : Hp), P86 v90 h89 → (∃ P91 : Hp → Prop, C_X8_pushBig w sh x1 (v90.toInt64) h89 P91 ∧ (∀ h94 : Hp, P91 h94 → (shAt sh (h94.2.1 x0 6) = some (.inr 8) ∧ (∃ P96 : Int32 → Hp → Prop, C_X8_length w sh (h94.2.1 x0 6) h94 P96 ∧ (∀ (v100 : Int32) (h99 : Hp), P96 v100 h99 → (∃ P101 : Hp → Prop, C_X8_pushBig w sh x1 (v100.toInt64) h99 P101 ∧ (∀ h104 : Hp, P101 h104 → (RET h104)))))))))))))))))))))))))))))))))))))))))))))))))))
set_option maxRecDepth 20000 in
set_option maxHeartbeats 4000000 in
theorem W_X5_tellSizes_0 {w : Wd} {E : GE} {sh : List Sh} {x0 : Nat} {x1 : Nat} {x2 : Int32} {x3 : Int32} {h : Hp}  {RET : Hp → Prop} (X : Cx w E cX5_tellSizes 6 RX5) (Tt : Rt w E none sh.length 0 0 (fun q sh9 h9 => q = none ∧ sh9 = sh ∧ RET h9)) (hR : gR E = { frames := 2, cells := 0, slots := 0, locals := 47 }) (hV : V_X5_tellSizes_0 w sh x0 x1 x2 x3 h RET) : G w E 6 0 [(0, rv w.2.2.2 x0), (1, rv w.2.2.2 x1), (2, Value.int x2), (3, Value.int x3)] [] sh h 0 0 := by
  unfold V_X5_tellSizes_0 at hV
  refine g_aload_n (pc := 0) X 0 rfl rfl dX5_tellSizes_0 ?_
  obtain ⟨q1, hV⟩ := hV
  refine g_getR (pc := 1) X fl_X5_46 q1 dX5_tellSizes_1 ?_
  obtain ⟨q2, hV⟩ := hV
  obtain ⟨P3, t4, hV⟩ := hV
  refine g_cVI (pc := 4) X (As := []) ml_X5_72 rfl q2 t4 (by rw [hR]; exact ⟨by decide, by decide, by decide, by decide⟩) rfl rfl (Nat.zero_le _) dX5_tellSizes_4 (fun v7 h6 p5 => ?_)
  have hV := hV v7 h6 p5
  refine g_aload_n (pc := 7) X 0 rfl rfl dX5_tellSizes_7 ?_
  refine g_getR (pc := 8) X fl_X5_50 q1 dX5_tellSizes_8 ?_
  obtain ⟨q8, hV⟩ := hV
  obtain ⟨P9, t10, hV⟩ := hV
  refine g_cVI (pc := 11) X (As := []) ml_X5_72 rfl q8 t10 (by rw [hR]; exact ⟨by decide, by decide, by decide, by decide⟩) rfl rfl (Nat.le_of_ble_eq_true rfl) dX5_tellSizes_11 (fun v13 h12 p11 => ?_)
  have hV := hV v13 h12 p11
  refine g_iadd (pc := 14) X dX5_tellSizes_14 ?_
  refine g_aload_n (pc := 15) X 0 rfl rfl dX5_tellSizes_15 ?_
  refine g_getR (pc := 16) X fl_X5_53 q1 dX5_tellSizes_16 ?_
  obtain ⟨q14, hV⟩ := hV
  obtain ⟨P15, t16, hV⟩ := hV
  refine g_cVI (pc := 19) X (As := []) ml_X5_72 rfl q14 t16 (by rw [hR]; exact ⟨by decide, by decide, by decide, by decide⟩) rfl rfl (Nat.le_of_ble_eq_true rfl) dX5_tellSizes_19 (fun v19 h18 p17 => ?_)
  have hV := hV v19 h18 p17
  refine g_iadd (pc := 22) X dX5_tellSizes_22 ?_
  refine g_istore (pc := 23) X (i := 4) (rest := [(0, rv w.2.2.2 x0), (1, rv w.2.2.2 x1), (2, Value.int x2), (3, Value.int x3)]) (by decide) rfl dX5_tellSizes_23 (fun y20 e21 => ?_)
  have hV := hV y20 e21
  refine g_iload_n (pc := 25) X 3 rfl rfl dX5_tellSizes_25 ?_
  refine g_i2l (pc := 26) X dX5_tellSizes_26 ?_
  obtain ⟨P22, t23, hV⟩ := hV
  refine g_cSI (pc := 27) X (As := [Value.long (x2.toInt64)]) ml_X5_153 t23 (by rw [hR]; exact ⟨by decide, by decide, by decide, by decide⟩) rfl rfl (Nat.zero_le _) dX5_tellSizes_27 (fun v26 h25 p24 => ?_)
  have hV := hV v26 h25 p24
  refine g_iconst (pc := 30) (v := (1 : Int32)) X dX5_tellSizes_30 (by decide) ?_
  refine g_iadd (pc := 31) X dX5_tellSizes_31 ?_
  refine g_aload_n (pc := 32) X 1 rfl rfl dX5_tellSizes_32 ?_
  refine g_getR (pc := 33) X fl_X5_46 q1 dX5_tellSizes_33 ?_
  obtain ⟨q27, hV⟩ := hV
  obtain ⟨P28, t29, hV⟩ := hV
  refine g_cVI (pc := 36) X (As := []) ml_X5_72 rfl q27 t29 (by rw [hR]; exact ⟨by decide, by decide, by decide, by decide⟩) rfl rfl (Nat.le_of_ble_eq_true rfl) dX5_tellSizes_36 (fun v32 h31 p30 => ?_)
  have hV := hV v32 h31 p30
  refine g_i2l (pc := 39) X dX5_tellSizes_39 ?_
  obtain ⟨P33, t34, hV⟩ := hV
  refine g_cSI (pc := 40) X (As := [Value.long (v32.toInt64)]) ml_X5_153 t34 (by rw [hR]; exact ⟨by decide, by decide, by decide, by decide⟩) rfl rfl (Nat.le_of_ble_eq_true rfl) dX5_tellSizes_40 (fun v37 h36 p35 => ?_)
  have hV := hV v37 h36 p35
  refine g_iadd (pc := 43) X dX5_tellSizes_43 ?_
  refine g_aload_n (pc := 44) X 1 rfl rfl dX5_tellSizes_44 ?_
  refine g_getR (pc := 45) X fl_X5_50 q1 dX5_tellSizes_45 ?_
  obtain ⟨q38, hV⟩ := hV
  obtain ⟨P39, t40, hV⟩ := hV
  refine g_cVI (pc := 48) X (As := []) ml_X5_72 rfl q38 t40 (by rw [hR]; exact ⟨by decide, by decide, by decide, by decide⟩) rfl rfl (Nat.le_of_ble_eq_true rfl) dX5_tellSizes_48 (fun v43 h42 p41 => ?_)
  have hV := hV v43 h42 p41
  refine g_i2l (pc := 51) X dX5_tellSizes_51 ?_
  obtain ⟨P44, t45, hV⟩ := hV
  refine g_cSI (pc := 52) X (As := [Value.long (v43.toInt64)]) ml_X5_153 t45 (by rw [hR]; exact ⟨by decide, by decide, by decide, by decide⟩) rfl rfl (Nat.le_of_ble_eq_true rfl) dX5_tellSizes_52 (fun v48 h47 p46 => ?_)
  have hV := hV v48 h47 p46
  refine g_iadd (pc := 55) X dX5_tellSizes_55 ?_
  refine g_aload_n (pc := 56) X 1 rfl rfl dX5_tellSizes_56 ?_
  refine g_getR (pc := 57) X fl_X5_53 q1 dX5_tellSizes_57 ?_
  obtain ⟨q49, hV⟩ := hV
  obtain ⟨P50, t51, hV⟩ := hV
  refine g_cVI (pc := 60) X (As := []) ml_X5_72 rfl q49 t51 (by rw [hR]; exact ⟨by decide, by decide, by decide, by decide⟩) rfl rfl (Nat.le_of_ble_eq_true rfl) dX5_tellSizes_60 (fun v54 h53 p52 => ?_)
  have hV := hV v54 h53 p52
  refine g_i2l (pc := 63) X dX5_tellSizes_63 ?_
  obtain ⟨P55, t56, hV⟩ := hV
  refine g_cSI (pc := 64) X (As := [Value.long (v54.toInt64)]) ml_X5_153 t56 (by rw [hR]; exact ⟨by decide, by decide, by decide, by decide⟩) rfl rfl (Nat.le_of_ble_eq_true rfl) dX5_tellSizes_64 (fun v59 h58 p57 => ?_)
  have hV := hV v59 h58 p57
  refine g_iadd (pc := 67) X dX5_tellSizes_67 ?_
  refine g_istore (pc := 68) X (i := 5) (rest := [(4, Value.int y20), (0, rv w.2.2.2 x0), (1, rv w.2.2.2 x1), (2, Value.int x2), (3, Value.int x3)]) (by decide) rfl dX5_tellSizes_68 (fun y60 e61 => ?_)
  have hV := hV y60 e61
  refine g_aload_n (pc := 70) X 3 rfl rfl dX5_tellSizes_70 ?_
  refine g_iload (pc := 71) X 0 rfl dX5_tellSizes_71 ?_
  refine g_iload_n (pc := 73) X 5 rfl rfl dX5_tellSizes_73 ?_
  refine g_iadd (pc := 74) X dX5_tellSizes_74 ?_
  refine g_iload (pc := 75) X 1 rfl dX5_tellSizes_75 ?_
  refine g_iadd (pc := 77) X dX5_tellSizes_77 ?_
  refine g_i2l (pc := 78) X dX5_tellSizes_78 ?_
  obtain ⟨q62, hV⟩ := hV
  obtain ⟨P63, t64, hV⟩ := hV
  refine g_cVV (pc := 79) X (As := [Value.long (((y60 + x3) + y20).toInt64)]) ml_X5_99 rfl q62 t64 (by rw [hR]; exact ⟨by decide, by decide, by decide, by decide⟩) rfl rfl (Nat.zero_le _) dX5_tellSizes_79 (fun h66 p65 => ?_)
  have hV := hV h66 p65
  refine g_aload_n (pc := 82) X 3 rfl rfl dX5_tellSizes_82 ?_
  refine g_iload_n (pc := 83) X 4 rfl rfl dX5_tellSizes_83 ?_
  refine g_i2l (pc := 84) X dX5_tellSizes_84 ?_
  obtain ⟨P67, t68, hV⟩ := hV
  refine g_cVV (pc := 85) X (As := [Value.long (x2.toInt64)]) ml_X5_99 rfl q62 t68 (by rw [hR]; exact ⟨by decide, by decide, by decide, by decide⟩) rfl rfl (Nat.zero_le _) dX5_tellSizes_85 (fun h70 p69 => ?_)
  have hV := hV h70 p69
  refine g_aload_n (pc := 88) X 3 rfl rfl dX5_tellSizes_88 ?_
  refine g_iconst (pc := 89) (v := (0 : Int32)) X dX5_tellSizes_89 (by decide) ?_
  obtain ⟨P71, t72, hV⟩ := hV
  refine g_cVV (pc := 90) X (As := [Value.int (0 : Int32)]) ml_X5_96 rfl q62 t72 (by rw [hR]; exact ⟨by decide, by decide, by decide, by decide⟩) rfl rfl (Nat.zero_le _) dX5_tellSizes_90 (fun h74 p73 => ?_)
  have hV := hV h74 p73
  refine g_aload_n (pc := 93) X 3 rfl rfl dX5_tellSizes_93 ?_
  refine g_aload_n (pc := 94) X 2 rfl rfl dX5_tellSizes_94 ?_
  refine g_getR (pc := 95) X fl_X5_46 q1 dX5_tellSizes_95 ?_
  obtain ⟨q75, hV⟩ := hV
  obtain ⟨P76, t77, hV⟩ := hV
  refine g_cVI (pc := 98) X (As := []) ml_X5_72 rfl q75 t77 (by rw [hR]; exact ⟨by decide, by decide, by decide, by decide⟩) rfl rfl (by simp [rv_cat, cat_int, cat_long]) dX5_tellSizes_98 (fun v80 h79 p78 => ?_)
  have hV := hV v80 h79 p78
  refine g_i2l (pc := 101) X dX5_tellSizes_101 ?_
  obtain ⟨P81, t82, hV⟩ := hV
  refine g_cVV (pc := 102) X (As := [Value.long (v80.toInt64)]) ml_X5_99 rfl q62 t82 (by rw [hR]; exact ⟨by decide, by decide, by decide, by decide⟩) rfl rfl (Nat.zero_le _) dX5_tellSizes_102 (fun h84 p83 => ?_)
  have hV := hV h84 p83
  refine g_aload_n (pc := 105) X 3 rfl rfl dX5_tellSizes_105 ?_
  refine g_aload_n (pc := 106) X 2 rfl rfl dX5_tellSizes_106 ?_
  refine g_getR (pc := 107) X fl_X5_50 q1 dX5_tellSizes_107 ?_
  obtain ⟨q85, hV⟩ := hV
  obtain ⟨P86, t87, hV⟩ := hV
  refine g_cVI (pc := 110) X (As := []) ml_X5_72 rfl q85 t87 (by rw [hR]; exact ⟨by decide, by decide, by decide, by decide⟩) rfl rfl (by simp [rv_cat, cat_int, cat_long]) dX5_tellSizes_110 (fun v90 h89 p88 => ?_)
  have hV := hV v90 h89 p88
  refine g_i2l (pc := 113) X dX5_tellSizes_113 ?_
  obtain ⟨P91, t92, hV⟩ := hV
  refine g_cVV (pc := 114) X (As := [Value.long (v90.toInt64)]) ml_X5_99 rfl q62 t92 (by rw [hR]; exact ⟨by decide, by decide, by decide, by decide⟩) rfl rfl (Nat.zero_le _) dX5_tellSizes_114 (fun h94 p93 => ?_)
  have hV := hV h94 p93
  refine g_aload_n (pc := 117) X 3 rfl rfl dX5_tellSizes_117 ?_
  refine g_aload_n (pc := 118) X 2 rfl rfl dX5_tellSizes_118 ?_
  refine g_getR (pc := 119) X fl_X5_53 q1 dX5_tellSizes_119 ?_
  obtain ⟨q95, hV⟩ := hV
  obtain ⟨P96, t97, hV⟩ := hV
  refine g_cVI (pc := 122) X (As := []) ml_X5_72 rfl q95 t97 (by rw [hR]; exact ⟨by decide, by decide, by decide, by decide⟩) rfl rfl (by simp [rv_cat, cat_int, cat_long]) dX5_tellSizes_122 (fun v100 h99 p98 => ?_)
  have hV := hV v100 h99 p98
  refine g_i2l (pc := 125) X dX5_tellSizes_125 ?_
  obtain ⟨P101, t102, hV⟩ := hV
  refine g_cVV (pc := 126) X (As := [Value.long (v100.toInt64)]) ml_X5_99 rfl q62 t102 (by rw [hR]; exact ⟨by decide, by decide, by decide, by decide⟩) rfl rfl (Nat.zero_le _) dX5_tellSizes_126 (fun h104 p103 => ?_)
  have hV := hV h104 p103
  exact g_vret (pc := 129) X Tt ⟨rfl, rfl, hV⟩ dX5_tellSizes_129
def C_X5_tellSizes (w : Wd) (sh : List Sh) (x0 : Nat) (x1 : Nat) (x2 : Int32) (x3 : Int32) (h : Hp) (RET : Hp → Prop) : Prop := CV w yX5_tellSizes (.code yX5_tellSizes cX5_tellSizes 6 none) 2 47 [rv w.2.2.2 x0, rv w.2.2.2 x1, Value.int x2, Value.int x3] sh h RET
theorem K_X5_tellSizes {w : Wd} {sh : List Sh} {x0 : Nat} {x1 : Nat} {x2 : Int32} {x3 : Int32} {h : Hp} {RET : Hp → Prop} (hV : V_X5_tellSizes_0 w sh x0 x1 x2 x3 h RET) : C_X5_tellSizes w sh x0 x1 x2 x3 h RET :=
  Ct_of (by decide +kernel) (by simp [lg_sl, rv_cat, cat_int, cat_long]) (fun E X Tt hR _ => by
    rw [show lv_args 0 [rv w.2.2.2 x0, rv w.2.2.2 x1, Value.int x2, Value.int x3] = [(0, rv w.2.2.2 x0), (1, rv w.2.2.2 x1), (2, Value.int x2), (3, Value.int x3)] from by simp [lv_args, rv_cat, cat_int, cat_long]]
    refine g_lv [0, 1, 2, 3] rfl ?_
    exact W_X5_tellSizes_0 X Tt hR hV)
def V_X5_makeWindow_168 (w : Wd) (sh : List Sh) (x0 : Nat) (x6 : Nat) (h : Hp)  (RET : Int32 → Hp → Prop) : Prop :=
  shAt sh x0 = some (.inr 5) ∧ (shAt sh (h.2.1 x0 4) = some (.inr 8) ∧ (∃ P3 : Int32 → Hp → Prop, C_X8_length w sh (h.2.1 x0 4) h P3 ∧ (∀ (v7 : Int32) (h6 : Hp), P3 v7 h6 → (shAt sh x6 = some (.inr 8) ∧ (∃ P9 : Hp → Prop, C_X8_append w sh x6 (h.2.1 x0 4) (0 : Int32) v7 h6 P9 ∧ (∀ h12 : Hp, P9 h12 → (shAt sh (h12.2.1 x0 5) = some (.inr 8) ∧ (∃ P14 : Int32 → Hp → Prop, C_X8_length w sh (h12.2.1 x0 5) h12 P14 ∧ (∀ (v18 : Int32) (h17 : Hp), P14 v18 h17 → (∃ P19 : Hp → Prop, C_X8_append w sh x6 (h12.2.1 x0 5) (0 : Int32) v18 h17 P19 ∧ (∀ h22 : Hp, P19 h22 → (shAt sh (h22.2.1 x0 6) = some (.inr 8) ∧ (∃ P24 : Int32 → Hp → Prop, C_X8_length w sh (h22.2.1 x0 6) h22 P24 ∧ (∀ (v28 : Int32) (h27 : Hp), P24 v28 h27 → (∃ P29 : Hp → Prop, C_X8_append w sh x6 (h22.2.1 x0 6) (0 : Int32) v28 h27 P29 ∧ (∀ h32 : Hp, P29 h32 → (RET (1 : Int32) h32)))))))))))))))))
set_option maxRecDepth 20000 in
set_option maxHeartbeats 4000000 in
theorem W_X5_makeWindow_168 {w : Wd} {E : GE} {sh : List Sh} {x0 : Nat} {x6 : Nat} {h : Hp}  {RET : Int32 → Hp → Prop} (X : Cx w E cX5_makeWindow 11 RX5) (Tt : Rt w E (some .boolean) sh.length 0 0 (fun q sh9 h9 => ∃ v : Int32, q = some (Value.int v) ∧ sh9 = sh ∧ RET v h9)) (hR : gR E = { frames := 5, cells := 0, slots := 0, locals := 118 }) (hV : V_X5_makeWindow_168 w sh x0 x6 h RET) : G w E 11 168 [(0, rv w.2.2.2 x0), (6, rv w.2.2.2 x6)] [] sh h 0 0 := by
  unfold V_X5_makeWindow_168 at hV
  refine g_aload (pc := 168) X 1 rfl dX5_makeWindow_168 ?_
  refine g_aload_n (pc := 170) X 0 rfl rfl dX5_makeWindow_170 ?_
  obtain ⟨q1, hV⟩ := hV
  refine g_getR (pc := 171) X fl_X5_46 q1 dX5_makeWindow_171 ?_
  refine g_iconst (pc := 174) (v := (0 : Int32)) X dX5_makeWindow_174 (by decide) ?_
  refine g_aload_n (pc := 175) X 0 rfl rfl dX5_makeWindow_175 ?_
  refine g_getR (pc := 176) X fl_X5_46 q1 dX5_makeWindow_176 ?_
  obtain ⟨q2, hV⟩ := hV
  obtain ⟨P3, t4, hV⟩ := hV
  refine g_cVI (pc := 179) X (As := []) ml_X5_72 rfl q2 t4 (by rw [hR]; exact ⟨by decide, by decide, by decide, by decide⟩) rfl rfl (by simp [rv_cat, cat_int, cat_long]) dX5_makeWindow_179 (fun v7 h6 p5 => ?_)
  have hV := hV v7 h6 p5
  obtain ⟨q8, hV⟩ := hV
  obtain ⟨P9, t10, hV⟩ := hV
  refine g_cVV (pc := 182) X (As := [rv w.2.2.2 (h.2.1 x0 4), Value.int (0 : Int32), Value.int v7]) ml_X5_115 rfl q8 t10 (by rw [hR]; exact ⟨by decide, by decide, by decide, by decide⟩) rfl rfl (Nat.zero_le _) dX5_makeWindow_182 (fun h12 p11 => ?_)
  have hV := hV h12 p11
  refine g_aload (pc := 185) X 1 rfl dX5_makeWindow_185 ?_
  refine g_aload_n (pc := 187) X 0 rfl rfl dX5_makeWindow_187 ?_
  refine g_getR (pc := 188) X fl_X5_50 q1 dX5_makeWindow_188 ?_
  refine g_iconst (pc := 191) (v := (0 : Int32)) X dX5_makeWindow_191 (by decide) ?_
  refine g_aload_n (pc := 192) X 0 rfl rfl dX5_makeWindow_192 ?_
  refine g_getR (pc := 193) X fl_X5_50 q1 dX5_makeWindow_193 ?_
  obtain ⟨q13, hV⟩ := hV
  obtain ⟨P14, t15, hV⟩ := hV
  refine g_cVI (pc := 196) X (As := []) ml_X5_72 rfl q13 t15 (by rw [hR]; exact ⟨by decide, by decide, by decide, by decide⟩) rfl rfl (by simp [rv_cat, cat_int, cat_long]) dX5_makeWindow_196 (fun v18 h17 p16 => ?_)
  have hV := hV v18 h17 p16
  obtain ⟨P19, t20, hV⟩ := hV
  refine g_cVV (pc := 199) X (As := [rv w.2.2.2 (h12.2.1 x0 5), Value.int (0 : Int32), Value.int v18]) ml_X5_115 rfl q8 t20 (by rw [hR]; exact ⟨by decide, by decide, by decide, by decide⟩) rfl rfl (Nat.zero_le _) dX5_makeWindow_199 (fun h22 p21 => ?_)
  have hV := hV h22 p21
  refine g_aload (pc := 202) X 1 rfl dX5_makeWindow_202 ?_
  refine g_aload_n (pc := 204) X 0 rfl rfl dX5_makeWindow_204 ?_
  refine g_getR (pc := 205) X fl_X5_53 q1 dX5_makeWindow_205 ?_
  refine g_iconst (pc := 208) (v := (0 : Int32)) X dX5_makeWindow_208 (by decide) ?_
  refine g_aload_n (pc := 209) X 0 rfl rfl dX5_makeWindow_209 ?_
  refine g_getR (pc := 210) X fl_X5_53 q1 dX5_makeWindow_210 ?_
  obtain ⟨q23, hV⟩ := hV
  obtain ⟨P24, t25, hV⟩ := hV
  refine g_cVI (pc := 213) X (As := []) ml_X5_72 rfl q23 t25 (by rw [hR]; exact ⟨by decide, by decide, by decide, by decide⟩) rfl rfl (by simp [rv_cat, cat_int, cat_long]) dX5_makeWindow_213 (fun v28 h27 p26 => ?_)
  have hV := hV v28 h27 p26
  obtain ⟨P29, t30, hV⟩ := hV
  refine g_cVV (pc := 216) X (As := [rv w.2.2.2 (h22.2.1 x0 6), Value.int (0 : Int32), Value.int v28]) ml_X5_115 rfl q8 t30 (by rw [hR]; exact ⟨by decide, by decide, by decide, by decide⟩) rfl rfl (Nat.zero_le _) dX5_makeWindow_216 (fun h32 p31 => ?_)
  have hV := hV h32 p31
  refine g_iconst (pc := 219) (v := (1 : Int32)) X dX5_makeWindow_219 (by decide) ?_
  exact g_zret (pc := 220) X Tt (by decide) ⟨_, rfl, rfl, hV⟩ dX5_makeWindow_220
def V_X5_makeWindow_145 (w : Wd) (sh : List Sh) (x0 : Nat) (x1 : Nat) (x2 : Int32) (x6 : Nat) (x7 : Int32) (x10 : Int32) (s0 : Int32) (s1 : Int32) (s2 : Nat) (s3 : Nat) (h : Hp)  (RET : Int32 → Hp → Prop) : Prop :=
  shAt sh s3 = some (.inr 5) ∧ (∃ P2 : Hp → Prop, C_X5_tellSizes w sh s3 s2 s1 s0 h P2 ∧ (∀ h5 : Hp, P2 h5 → (((x10 = 0) → (V_X5_makeWindow_168 w sh x0 x6 h5 RET)) ∧ ((¬ x10 = 0) → (shAt sh x1 = some (.inr 8) ∧ (∃ P8 : Int64 → Hp → Prop, C_X8_sum w sh x1 x2 (x2 + x7) h5 P8 ∧ (∀ (v12 : Int64) (h11 : Hp), P8 v12 h11 → (shAt sh x6 = some (.inr 8) ∧ (∃ P14 : Hp → Prop, C_X8_pushLowest w sh x6 v12 (4 : Int32) h11 P14 ∧ (∀ h17 : Hp, P14 h17 → (V_X5_makeWindow_168 w sh x0 x6 h17 RET)))))))))))
set_option maxRecDepth 20000 in
set_option maxHeartbeats 4000000 in
theorem W_X5_makeWindow_145 {w : Wd} {E : GE} {sh : List Sh} {x0 : Nat} {x1 : Nat} {x2 : Int32} {x6 : Nat} {x7 : Int32} {x10 : Int32} {s0 : Int32} {s1 : Int32} {s2 : Nat} {s3 : Nat} {h : Hp}  {RET : Int32 → Hp → Prop} (X : Cx w E cX5_makeWindow 11 RX5) (Tt : Rt w E (some .boolean) sh.length 0 0 (fun q sh9 h9 => ∃ v : Int32, q = some (Value.int v) ∧ sh9 = sh ∧ RET v h9)) (hR : gR E = { frames := 5, cells := 0, slots := 0, locals := 118 }) (hV : V_X5_makeWindow_145 w sh x0 x1 x2 x6 x7 x10 s0 s1 s2 s3 h RET) : G w E 11 145 [(0, rv w.2.2.2 x0), (1, rv w.2.2.2 x1), (2, Value.int x2), (6, rv w.2.2.2 x6), (7, Value.int x7), (10, Value.int x10)] [Value.int s0, Value.int s1, rv w.2.2.2 s2, rv w.2.2.2 s3] sh h 0 0 := by
  unfold V_X5_makeWindow_145 at hV
  obtain ⟨q1, hV⟩ := hV
  obtain ⟨P2, t3, hV⟩ := hV
  refine g_cVV (pc := 145) X (As := [rv w.2.2.2 s2, Value.int s1, Value.int s0]) ml_X5_103 rfl q1 t3 (by rw [hR]; exact ⟨by decide, by decide, by decide, by decide⟩) rfl rfl (Nat.zero_le _) dX5_makeWindow_145 (fun h5 p4 => ?_)
  have hV := hV h5 p4
  refine g_iload (pc := 148) X 5 rfl dX5_makeWindow_148 ?_
  refine g_if_eq (pc := 150) X 168 dX5_makeWindow_150 (by decide) (fun c6 => ?_) (fun c6 => ?_)
  · have hV := hV.1 c6
    refine g_lv [0, 3] rfl ?_
    exact W_X5_makeWindow_168 X Tt hR hV
  · have hV := hV.2 c6
    refine g_aload (pc := 153) X 3 rfl dX5_makeWindow_153 ?_
    refine g_aload_n (pc := 155) X 1 rfl rfl dX5_makeWindow_155 ?_
    refine g_iload_n (pc := 156) X 2 rfl rfl dX5_makeWindow_156 ?_
    refine g_iload_n (pc := 157) X 2 rfl rfl dX5_makeWindow_157 ?_
    refine g_iload (pc := 158) X 4 rfl dX5_makeWindow_158 ?_
    refine g_iadd (pc := 160) X dX5_makeWindow_160 ?_
    obtain ⟨q7, hV⟩ := hV
    obtain ⟨P8, t9, hV⟩ := hV
    refine g_cVJ (pc := 161) X (As := [Value.int x2, Value.int (x2 + x7)]) ml_X5_107 rfl q7 t9 (by rw [hR]; exact ⟨by decide, by decide, by decide, by decide⟩) rfl rfl (by simp [rv_cat, cat_int, cat_long]) dX5_makeWindow_161 (fun v12 h11 p10 => ?_)
    have hV := hV v12 h11 p10
    refine g_iconst (pc := 164) (v := (4 : Int32)) X dX5_makeWindow_164 (by decide) ?_
    obtain ⟨q13, hV⟩ := hV
    obtain ⟨P14, t15, hV⟩ := hV
    refine g_cVV (pc := 165) X (As := [Value.long v12, Value.int (4 : Int32)]) ml_X5_111 rfl q13 t15 (by rw [hR]; exact ⟨by decide, by decide, by decide, by decide⟩) rfl rfl (Nat.zero_le _) dX5_makeWindow_165 (fun h17 p16 => ?_)
    have hV := hV h17 p16
    refine g_lv [0, 3] rfl ?_
    exact W_X5_makeWindow_168 X Tt hR hV
def V_X5_makeWindow_128 (w : Wd) (sh : List Sh) (x0 : Nat) (x1 : Nat) (x2 : Int32) (x6 : Nat) (x7 : Int32) (s0 : Int32) (h : Hp)  (RET : Int32 → Hp → Prop) : Prop :=
  ∀ y1 : Int32, y1 = s0 → (((y1 = 0) → (V_X5_makeWindow_145 w sh x0 x1 x2 x6 x7 y1 (0 : Int32) x7 x6 x0 h RET)) ∧ ((¬ y1 = 0) → (V_X5_makeWindow_145 w sh x0 x1 x2 x6 x7 y1 (4 : Int32) x7 x6 x0 h RET)))
set_option maxRecDepth 20000 in
set_option maxHeartbeats 4000000 in
theorem W_X5_makeWindow_128 {w : Wd} {E : GE} {sh : List Sh} {x0 : Nat} {x1 : Nat} {x2 : Int32} {x6 : Nat} {x7 : Int32} {s0 : Int32} {h : Hp}  {RET : Int32 → Hp → Prop} (X : Cx w E cX5_makeWindow 11 RX5) (Tt : Rt w E (some .boolean) sh.length 0 0 (fun q sh9 h9 => ∃ v : Int32, q = some (Value.int v) ∧ sh9 = sh ∧ RET v h9)) (hR : gR E = { frames := 5, cells := 0, slots := 0, locals := 118 }) (hV : V_X5_makeWindow_128 w sh x0 x1 x2 x6 x7 s0 h RET) : G w E 11 128 [(0, rv w.2.2.2 x0), (1, rv w.2.2.2 x1), (2, Value.int x2), (6, rv w.2.2.2 x6), (7, Value.int x7)] [Value.int s0] sh h 0 0 := by
  unfold V_X5_makeWindow_128 at hV
  refine g_istore (pc := 128) X (i := 10) (rest := [(0, rv w.2.2.2 x0), (1, rv w.2.2.2 x1), (2, Value.int x2), (6, rv w.2.2.2 x6), (7, Value.int x7)]) (by decide) rfl dX5_makeWindow_128 (fun y1 e2 => ?_)
  have hV := hV y1 e2
  refine g_aload_n (pc := 130) X 1 rfl rfl dX5_makeWindow_130 ?_
  refine g_aload (pc := 131) X 4 rfl dX5_makeWindow_131 ?_
  refine g_iload (pc := 133) X 5 rfl dX5_makeWindow_133 ?_
  refine g_iload (pc := 135) X 0 rfl dX5_makeWindow_135 ?_
  refine g_if_eq (pc := 137) X 144 dX5_makeWindow_137 (by decide) (fun c3 => ?_) (fun c3 => ?_)
  · have hV := hV.1 c3
    refine g_iconst (pc := 144) (v := (0 : Int32)) X dX5_makeWindow_144 (by decide) ?_
    refine g_lv [1, 2, 3, 4, 5, 0] rfl ?_
    exact W_X5_makeWindow_145 X Tt hR hV
  · have hV := hV.2 c3
    refine g_iconst (pc := 140) (v := (4 : Int32)) X dX5_makeWindow_140 (by decide) ?_
    refine g_goto (pc := 141) X 145 dX5_makeWindow_141 (by decide) ?_
    refine g_lv [1, 2, 3, 4, 5, 0] rfl ?_
    exact W_X5_makeWindow_145 X Tt hR hV
def V_X5_makeWindow_116 (w : Wd) (sh : List Sh) (x0 : Nat) (x1 : Nat) (x2 : Int32) (x4 : Int32) (x6 : Nat) (x7 : Int32) (h : Hp)  (RET : Int32 → Hp → Prop) : Prop :=
  (((x4 &&& (4 : Int32)) = 0) → (V_X5_makeWindow_128 w sh x0 x1 x2 x6 x7 (0 : Int32) h RET)) ∧ ((¬ (x4 &&& (4 : Int32)) = 0) → (V_X5_makeWindow_128 w sh x0 x1 x2 x6 x7 (1 : Int32) h RET))
set_option maxRecDepth 20000 in
set_option maxHeartbeats 4000000 in
theorem W_X5_makeWindow_116 {w : Wd} {E : GE} {sh : List Sh} {x0 : Nat} {x1 : Nat} {x2 : Int32} {x4 : Int32} {x6 : Nat} {x7 : Int32} {h : Hp}  {RET : Int32 → Hp → Prop} (X : Cx w E cX5_makeWindow 11 RX5) (Tt : Rt w E (some .boolean) sh.length 0 0 (fun q sh9 h9 => ∃ v : Int32, q = some (Value.int v) ∧ sh9 = sh ∧ RET v h9)) (hR : gR E = { frames := 5, cells := 0, slots := 0, locals := 118 }) (hV : V_X5_makeWindow_116 w sh x0 x1 x2 x4 x6 x7 h RET) : G w E 11 116 [(0, rv w.2.2.2 x0), (1, rv w.2.2.2 x1), (2, Value.int x2), (4, Value.int x4), (6, rv w.2.2.2 x6), (7, Value.int x7)] [] sh h 0 0 := by
  unfold V_X5_makeWindow_116 at hV
  refine g_iload (pc := 116) X 3 rfl dX5_makeWindow_116 ?_
  refine g_iconst (pc := 118) (v := (4 : Int32)) X dX5_makeWindow_118 (by decide) ?_
  refine g_iand (pc := 119) X dX5_makeWindow_119 ?_
  refine g_if_eq (pc := 120) X 127 dX5_makeWindow_120 (by decide) (fun c1 => ?_) (fun c1 => ?_)
  · have hV := hV.1 c1
    refine g_iconst (pc := 127) (v := (0 : Int32)) X dX5_makeWindow_127 (by decide) ?_
    refine g_lv [0, 1, 2, 4, 5] rfl ?_
    exact W_X5_makeWindow_128 X Tt hR hV
  · have hV := hV.2 c1
    refine g_iconst (pc := 123) (v := (1 : Int32)) X dX5_makeWindow_123 (by decide) ?_
    refine g_goto (pc := 124) X 128 dX5_makeWindow_124 (by decide) ?_
    refine g_lv [0, 1, 2, 4, 5] rfl ?_
    exact W_X5_makeWindow_128 X Tt hR hV
def V_X5_makeWindow_55 (w : Wd) (sh : List Sh) (x0 : Nat) (x1 : Nat) (x2 : Int32) (x3 : Nat) (x4 : Int32) (x5 : Nat) (x6 : Nat) (x7 : Int32) (x8 : Int32) (x9 : Int32) (h : Hp)  (RET : Int32 → Hp → Prop) : Prop :=
  shAt sh x0 = some (.inr 5) ∧ (shAt sh (h.2.1 x0 0) = some (.inr 3) ∧ (∃ P3 : Hp → Prop, C_X3_lay w sh (h.2.1 x0 0) x3 x8 x9 x1 x2 x7 h P3 ∧ (∀ h6 : Hp, P3 h6 → (∃ P7 : Hp → Prop, C_X5_findMoves w sh x0 x9 h6 P7 ∧ (∀ h10 : Hp, P7 h10 → (∃ P11 : Int32 → Hp → Prop, C_X5_tellCodes w sh x0 x5 h10 P11 ∧ (∀ (v15 : Int32) (h14 : Hp), P11 v15 h14 → (((¬ v15 = 0) → (shAt sh x6 = some (.inr 8) ∧ (∃ P18 : Hp → Prop, C_X8_push w sh x6 x4 h14 P18 ∧ (∀ h21 : Hp, P18 h21 → (((x9 ≤ 0) → (V_X5_makeWindow_116 w sh x0 x1 x2 x4 x6 x7 h21 RET)) ∧ ((¬ x9 ≤ 0) → (∃ P23 : Hp → Prop, C_X8_pushBig w sh x6 (x9.toInt64) h21 P23 ∧ (∀ h26 : Hp, P23 h26 → (∃ P27 : Hp → Prop, C_X8_pushBig w sh x6 (x8.toInt64) h26 P27 ∧ (∀ h30 : Hp, P27 h30 → (V_X5_makeWindow_116 w sh x0 x1 x2 x4 x6 x7 h30 RET))))))))))) ∧ ((v15 = 0) → (RET (0 : Int32) h14))))))))))
set_option maxRecDepth 20000 in
set_option maxHeartbeats 4000000 in
theorem W_X5_makeWindow_55 {w : Wd} {E : GE} {sh : List Sh} {x0 : Nat} {x1 : Nat} {x2 : Int32} {x3 : Nat} {x4 : Int32} {x5 : Nat} {x6 : Nat} {x7 : Int32} {x8 : Int32} {x9 : Int32} {h : Hp}  {RET : Int32 → Hp → Prop} (X : Cx w E cX5_makeWindow 11 RX5) (Tt : Rt w E (some .boolean) sh.length 0 0 (fun q sh9 h9 => ∃ v : Int32, q = some (Value.int v) ∧ sh9 = sh ∧ RET v h9)) (hR : gR E = { frames := 5, cells := 0, slots := 0, locals := 118 }) (hV : V_X5_makeWindow_55 w sh x0 x1 x2 x3 x4 x5 x6 x7 x8 x9 h RET) : G w E 11 55 [(0, rv w.2.2.2 x0), (1, rv w.2.2.2 x1), (2, Value.int x2), (3, rv w.2.2.2 x3), (4, Value.int x4), (5, rv w.2.2.2 x5), (6, rv w.2.2.2 x6), (7, Value.int x7), (8, Value.int x8), (9, Value.int x9)] [] sh h 0 0 := by
  unfold V_X5_makeWindow_55 at hV
  refine g_aload_n (pc := 55) X 0 rfl rfl dX5_makeWindow_55 ?_
  obtain ⟨q1, hV⟩ := hV
  refine g_getR (pc := 56) X fl_X5_12 q1 dX5_makeWindow_56 ?_
  refine g_aload_n (pc := 59) X 3 rfl rfl dX5_makeWindow_59 ?_
  refine g_iload (pc := 60) X 8 rfl dX5_makeWindow_60 ?_
  refine g_iload (pc := 62) X 9 rfl dX5_makeWindow_62 ?_
  refine g_aload_n (pc := 64) X 1 rfl rfl dX5_makeWindow_64 ?_
  refine g_iload_n (pc := 65) X 2 rfl rfl dX5_makeWindow_65 ?_
  refine g_iload (pc := 66) X 7 rfl dX5_makeWindow_66 ?_
  obtain ⟨q2, hV⟩ := hV
  obtain ⟨P3, t4, hV⟩ := hV
  refine g_cVV (pc := 68) X (As := [rv w.2.2.2 x3, Value.int x8, Value.int x9, rv w.2.2.2 x1, Value.int x2, Value.int x7]) ml_X5_86 rfl q2 t4 (by rw [hR]; exact ⟨by decide, by decide, by decide, by decide⟩) rfl rfl (Nat.zero_le _) dX5_makeWindow_68 (fun h6 p5 => ?_)
  have hV := hV h6 p5
  refine g_aload_n (pc := 71) X 0 rfl rfl dX5_makeWindow_71 ?_
  refine g_iload (pc := 72) X 9 rfl dX5_makeWindow_72 ?_
  obtain ⟨P7, t8, hV⟩ := hV
  refine g_cVV (pc := 74) X (As := [Value.int x9]) ml_X5_89 rfl q1 t8 (by rw [hR]; exact ⟨by decide, by decide, by decide, by decide⟩) rfl rfl (Nat.zero_le _) dX5_makeWindow_74 (fun h10 p9 => ?_)
  have hV := hV h10 p9
  refine g_aload_n (pc := 77) X 0 rfl rfl dX5_makeWindow_77 ?_
  refine g_aload (pc := 78) X 5 rfl dX5_makeWindow_78 ?_
  obtain ⟨P11, t12, hV⟩ := hV
  refine g_cVI (pc := 80) X (As := [rv w.2.2.2 x5]) ml_X5_92 rfl q1 t12 (by rw [hR]; exact ⟨by decide, by decide, by decide, by decide⟩) rfl rfl (Nat.zero_le _) dX5_makeWindow_80 (fun v15 h14 p13 => ?_)
  have hV := hV v15 h14 p13
  refine g_if_ne (pc := 83) X 88 dX5_makeWindow_83 (by decide) (fun c16 => ?_) (fun c16 => ?_)
  · have hV := hV.1 c16
    refine g_aload (pc := 88) X 6 rfl dX5_makeWindow_88 ?_
    refine g_iload (pc := 90) X 4 rfl dX5_makeWindow_90 ?_
    obtain ⟨q17, hV⟩ := hV
    obtain ⟨P18, t19, hV⟩ := hV
    refine g_cVV (pc := 92) X (As := [Value.int x4]) ml_X5_96 rfl q17 t19 (by rw [hR]; exact ⟨by decide, by decide, by decide, by decide⟩) rfl rfl (Nat.zero_le _) dX5_makeWindow_92 (fun h21 p20 => ?_)
    have hV := hV h21 p20
    refine g_iload (pc := 95) X 9 rfl dX5_makeWindow_95 ?_
    refine g_if_le (pc := 97) X 116 dX5_makeWindow_97 (by decide) (fun c22 => ?_) (fun c22 => ?_)
    · have hV := hV.1 c22
      refine g_lv [0, 1, 2, 4, 6, 7] rfl ?_
      exact W_X5_makeWindow_116 X Tt hR hV
    · have hV := hV.2 c22
      refine g_aload (pc := 100) X 6 rfl dX5_makeWindow_100 ?_
      refine g_iload (pc := 102) X 9 rfl dX5_makeWindow_102 ?_
      refine g_i2l (pc := 104) X dX5_makeWindow_104 ?_
      obtain ⟨P23, t24, hV⟩ := hV
      refine g_cVV (pc := 105) X (As := [Value.long (x9.toInt64)]) ml_X5_99 rfl q17 t24 (by rw [hR]; exact ⟨by decide, by decide, by decide, by decide⟩) rfl rfl (Nat.zero_le _) dX5_makeWindow_105 (fun h26 p25 => ?_)
      have hV := hV h26 p25
      refine g_aload (pc := 108) X 6 rfl dX5_makeWindow_108 ?_
      refine g_iload (pc := 110) X 8 rfl dX5_makeWindow_110 ?_
      refine g_i2l (pc := 112) X dX5_makeWindow_112 ?_
      obtain ⟨P27, t28, hV⟩ := hV
      refine g_cVV (pc := 113) X (As := [Value.long (x8.toInt64)]) ml_X5_99 rfl q17 t28 (by rw [hR]; exact ⟨by decide, by decide, by decide, by decide⟩) rfl rfl (Nat.zero_le _) dX5_makeWindow_113 (fun h30 p29 => ?_)
      have hV := hV h30 p29
      refine g_lv [0, 1, 2, 4, 6, 7] rfl ?_
      exact W_X5_makeWindow_116 X Tt hR hV
  · have hV := hV.2 c16
    refine g_iconst (pc := 86) (v := (0 : Int32)) X dX5_makeWindow_86 (by decide) ?_
    exact g_zret (pc := 87) X Tt (by decide) ⟨_, rfl, rfl, hV⟩ dX5_makeWindow_87
def V_X5_makeWindow_0 (w : Wd) (sh : List Sh) (x0 : Nat) (x1 : Nat) (x2 : Int32) (x3 : Nat) (x4 : Int32) (x5 : Nat) (x6 : Nat) (h : Hp)  (RET : Int32 → Hp → Prop) : Prop :=
  shAt sh x1 = some (.inr 8) ∧ (∃ P2 : Int32 → Hp → Prop, C_X8_length w sh x1 h P2 ∧ (∀ (v6 : Int32) (h5 : Hp), P2 v6 h5 → (∀ y7 : Int32, y7 = (if (v6 - x2) < (2048 : Int32) then (v6 - x2) else (2048 : Int32)) → (∀ y9 : Int32, y9 = (0 : Int32) → (∀ y11 : Int32, y11 = (0 : Int32) → ((((x4 &&& (1 : Int32)) = 0) → ((((x4 &&& (2 : Int32)) = 0) → (V_X5_makeWindow_55 w sh x0 x1 x2 x3 x4 x5 x6 y7 y9 y11 h5 RET)) ∧ ((¬ (x4 &&& (2 : Int32)) = 0) → (∀ y15 : Int32, y15 = (x2 - (2048 : Int32)) → (∀ y17 : Int32, y17 = (2048 : Int32) → (V_X5_makeWindow_55 w sh x0 x1 x2 x3 x4 x5 x6 y7 y15 y17 h5 RET)))))) ∧ ((¬ (x4 &&& (1 : Int32)) = 0) → (shAt sh x3 = some (.inr 8) ∧ (∃ P20 : Int32 → Hp → Prop, C_X8_length w sh x3 h5 P20 ∧ (∀ (v24 : Int32) (h23 : Hp), P20 v24 h23 → (∀ y25 : Int32, y25 = v24 → (V_X5_makeWindow_55 w sh x0 x1 x2 x3 x4 x5 x6 y7 y9 y25 h23 RET))))))))))))
set_option maxRecDepth 20000 in
set_option maxHeartbeats 4000000 in
theorem W_X5_makeWindow_0 {w : Wd} {E : GE} {sh : List Sh} {x0 : Nat} {x1 : Nat} {x2 : Int32} {x3 : Nat} {x4 : Int32} {x5 : Nat} {x6 : Nat} {h : Hp}  {RET : Int32 → Hp → Prop} (X : Cx w E cX5_makeWindow 11 RX5) (Tt : Rt w E (some .boolean) sh.length 0 0 (fun q sh9 h9 => ∃ v : Int32, q = some (Value.int v) ∧ sh9 = sh ∧ RET v h9)) (hR : gR E = { frames := 5, cells := 0, slots := 0, locals := 118 }) (hV : V_X5_makeWindow_0 w sh x0 x1 x2 x3 x4 x5 x6 h RET) : G w E 11 0 [(0, rv w.2.2.2 x0), (1, rv w.2.2.2 x1), (2, Value.int x2), (3, rv w.2.2.2 x3), (4, Value.int x4), (5, rv w.2.2.2 x5), (6, rv w.2.2.2 x6)] [] sh h 0 0 := by
  unfold V_X5_makeWindow_0 at hV
  refine g_sipush (pc := 0) (v := (2048 : Int32)) X dX5_makeWindow_0 (by decide) ?_
  refine g_aload_n (pc := 3) X 1 rfl rfl dX5_makeWindow_3 ?_
  obtain ⟨q1, hV⟩ := hV
  obtain ⟨P2, t3, hV⟩ := hV
  refine g_cVI (pc := 4) X (As := []) ml_X5_72 rfl q1 t3 (by rw [hR]; exact ⟨by decide, by decide, by decide, by decide⟩) rfl rfl (Nat.le_of_ble_eq_true rfl) dX5_makeWindow_4 (fun v6 h5 p4 => ?_)
  have hV := hV v6 h5 p4
  refine g_iload_n (pc := 7) X 2 rfl rfl dX5_makeWindow_7 ?_
  refine g_isub (pc := 8) X dX5_makeWindow_8 ?_
  refine g_mmin (pc := 9) X wm_X5_80 ws_min wi_Math wc_min (by rw [hR]; exact ⟨by decide, by simp [rv_cat, cat_int, cat_long], by decide, by decide⟩) dX5_makeWindow_9 ?_
  refine g_istore (pc := 12) X (i := 7) (rest := [(0, rv w.2.2.2 x0), (1, rv w.2.2.2 x1), (2, Value.int x2), (3, rv w.2.2.2 x3), (4, Value.int x4), (5, rv w.2.2.2 x5), (6, rv w.2.2.2 x6)]) (by decide) (by simp [flt1, flt2, rv_cat, cat_int, cat_long]) dX5_makeWindow_12 (fun y7 e8 => ?_)
  have hV := hV y7 e8
  refine g_iconst (pc := 14) (v := (0 : Int32)) X dX5_makeWindow_14 (by decide) ?_
  refine g_istore (pc := 15) X (i := 8) (rest := [(7, Value.int y7), (0, rv w.2.2.2 x0), (1, rv w.2.2.2 x1), (2, Value.int x2), (3, rv w.2.2.2 x3), (4, Value.int x4), (5, rv w.2.2.2 x5), (6, rv w.2.2.2 x6)]) (by decide) rfl dX5_makeWindow_15 (fun y9 e10 => ?_)
  have hV := hV y9 e10
  refine g_iconst (pc := 17) (v := (0 : Int32)) X dX5_makeWindow_17 (by decide) ?_
  refine g_istore (pc := 18) X (i := 9) (rest := [(8, Value.int y9), (7, Value.int y7), (0, rv w.2.2.2 x0), (1, rv w.2.2.2 x1), (2, Value.int x2), (3, rv w.2.2.2 x3), (4, Value.int x4), (5, rv w.2.2.2 x5), (6, rv w.2.2.2 x6)]) (by decide) rfl dX5_makeWindow_18 (fun y11 e12 => ?_)
  have hV := hV y11 e12
  refine g_iload (pc := 20) X 7 rfl dX5_makeWindow_20 ?_
  refine g_iconst (pc := 22) (v := (1 : Int32)) X dX5_makeWindow_22 (by decide) ?_
  refine g_iand (pc := 23) X dX5_makeWindow_23 ?_
  refine g_if_eq (pc := 24) X 36 dX5_makeWindow_24 (by decide) (fun c13 => ?_) (fun c13 => ?_)
  · have hV := hV.1 c13
    refine g_iload (pc := 36) X 7 rfl dX5_makeWindow_36 ?_
    refine g_iconst (pc := 38) (v := (2 : Int32)) X dX5_makeWindow_38 (by decide) ?_
    refine g_iand (pc := 39) X dX5_makeWindow_39 ?_
    refine g_if_eq (pc := 40) X 55 dX5_makeWindow_40 (by decide) (fun c14 => ?_) (fun c14 => ?_)
    · have hV := hV.1 c14
      refine g_lv [3, 4, 5, 6, 7, 8, 9, 2, 1, 0] rfl ?_
      exact W_X5_makeWindow_55 X Tt hR hV
    · have hV := hV.2 c14
      refine g_iload_n (pc := 43) X 5 rfl rfl dX5_makeWindow_43 ?_
      refine g_sipush (pc := 44) (v := (2048 : Int32)) X dX5_makeWindow_44 (by decide) ?_
      refine g_isub (pc := 47) X dX5_makeWindow_47 ?_
      refine g_istore (pc := 48) X (i := 8) (rest := [(9, Value.int y11), (7, Value.int y7), (0, rv w.2.2.2 x0), (1, rv w.2.2.2 x1), (2, Value.int x2), (3, rv w.2.2.2 x3), (4, Value.int x4), (5, rv w.2.2.2 x5), (6, rv w.2.2.2 x6)]) (by decide) rfl dX5_makeWindow_48 (fun y15 e16 => ?_)
      have hV := hV y15 e16
      refine g_sipush (pc := 50) (v := (2048 : Int32)) X dX5_makeWindow_50 (by decide) ?_
      refine g_istore (pc := 53) X (i := 9) (rest := [(8, Value.int y15), (7, Value.int y7), (0, rv w.2.2.2 x0), (1, rv w.2.2.2 x1), (2, Value.int x2), (3, rv w.2.2.2 x3), (4, Value.int x4), (5, rv w.2.2.2 x5), (6, rv w.2.2.2 x6)]) (by decide) rfl dX5_makeWindow_53 (fun y17 e18 => ?_)
      have hV := hV y17 e18
      refine g_lv [3, 4, 5, 6, 7, 8, 9, 2, 1, 0] rfl ?_
      exact W_X5_makeWindow_55 X Tt hR hV
  · have hV := hV.2 c13
    refine g_aload_n (pc := 27) X 6 rfl rfl dX5_makeWindow_27 ?_
    obtain ⟨q19, hV⟩ := hV
    obtain ⟨P20, t21, hV⟩ := hV
    refine g_cVI (pc := 28) X (As := []) ml_X5_72 rfl q19 t21 (by rw [hR]; exact ⟨by decide, by decide, by decide, by decide⟩) rfl rfl (Nat.zero_le _) dX5_makeWindow_28 (fun v24 h23 p22 => ?_)
    have hV := hV v24 h23 p22
    refine g_istore (pc := 31) X (i := 9) (rest := [(8, Value.int y9), (7, Value.int y7), (0, rv w.2.2.2 x0), (1, rv w.2.2.2 x1), (2, Value.int x2), (3, rv w.2.2.2 x3), (4, Value.int x4), (5, rv w.2.2.2 x5), (6, rv w.2.2.2 x6)]) (by decide) rfl dX5_makeWindow_31 (fun y25 e26 => ?_)
    have hV := hV y25 e26
    refine g_goto (pc := 33) X 55 dX5_makeWindow_33 (by decide) ?_
    refine g_lv [3, 4, 5, 6, 7, 8, 9, 2, 1, 0] rfl ?_
    exact W_X5_makeWindow_55 X Tt hR hV
def C_X5_makeWindow (w : Wd) (sh : List Sh) (x0 : Nat) (x1 : Nat) (x2 : Int32) (x3 : Nat) (x4 : Int32) (x5 : Nat) (x6 : Nat) (h : Hp) (RET : Int32 → Hp → Prop) : Prop := CI w yX5_makeWindow (.code yX5_makeWindow cX5_makeWindow 11 (some .boolean)) 5 118 [rv w.2.2.2 x0, rv w.2.2.2 x1, Value.int x2, rv w.2.2.2 x3, Value.int x4, rv w.2.2.2 x5, rv w.2.2.2 x6] sh h RET
theorem K_X5_makeWindow {w : Wd} {sh : List Sh} {x0 : Nat} {x1 : Nat} {x2 : Int32} {x3 : Nat} {x4 : Int32} {x5 : Nat} {x6 : Nat} {h : Hp} {RET : Int32 → Hp → Prop} (hV : V_X5_makeWindow_0 w sh x0 x1 x2 x3 x4 x5 x6 h RET) : C_X5_makeWindow w sh x0 x1 x2 x3 x4 x5 x6 h RET :=
  Ct_of (by decide +kernel) (by simp [lg_sl, rv_cat, cat_int, cat_long]) (fun E X Tt hR _ => by
    rw [show lv_args 0 [rv w.2.2.2 x0, rv w.2.2.2 x1, Value.int x2, rv w.2.2.2 x3, Value.int x4, rv w.2.2.2 x5, rv w.2.2.2 x6] = [(0, rv w.2.2.2 x0), (1, rv w.2.2.2 x1), (2, Value.int x2), (3, rv w.2.2.2 x3), (4, Value.int x4), (5, rv w.2.2.2 x5), (6, rv w.2.2.2 x6)] from by simp [lv_args, rv_cat, cat_int, cat_long]]
    refine g_lv [0, 1, 2, 3, 4, 5, 6] rfl ?_
    exact W_X5_makeWindow_0 X Tt hR hV)
def V_X5_makeWindows_102 (w : Wd) (sh : List Sh) (x0 : Nat) (x1 : Nat) (x2 : Nat) (x3 : Nat) (x4 : Int32) (x5 : Nat) (x6 : Int32) (x7 : Int32) (x9 : Int32) (s0 : Nat) (h : Hp) (L40 : Nat → Nat → Nat → Nat → Int32 → Nat → Int32 → Int32 → Hp → Prop) (RET : Int32 → Hp → Prop) : Prop :=
  ∀ y1 : Nat, y1 = s0 → (shAt sh x0 = some (.inr 5) ∧ (∃ P4 : Int32 → Hp → Prop, C_X5_makeWindow w sh x0 x1 x7 y1 (x9 ||| x6) x3 x5 h P4 ∧ (∀ (v8 : Int32) (h7 : Hp), P4 v8 h7 → (((¬ v8 = 0) → (∀ y10 : Int32, y10 = x7 + (2048 : Int32) → (L40 x0 x1 x2 x3 x4 x5 x6 y10 h7))) ∧ ((v8 = 0) → (RET (0 : Int32) h7))))))
set_option maxRecDepth 20000 in
set_option maxHeartbeats 4000000 in
theorem W_X5_makeWindows_102 {w : Wd} {E : GE} {sh : List Sh} {x0 : Nat} {x1 : Nat} {x2 : Nat} {x3 : Nat} {x4 : Int32} {x5 : Nat} {x6 : Int32} {x7 : Int32} {x9 : Int32} {s0 : Nat} {h : Hp} {L40 : Nat → Nat → Nat → Nat → Int32 → Nat → Int32 → Int32 → Hp → Prop} {RET : Int32 → Hp → Prop} (X : Cx w E cX5_makeWindows 11 RX5) (Tt : Rt w E (some .boolean) sh.length 0 0 (fun q sh9 h9 => ∃ v : Int32, q = some (Value.int v) ∧ sh9 = sh ∧ RET v h9)) (hR : gR E = { frames := 6, cells := 0, slots := 0, locals := 148 }) (hL40 : ∀ (x0 : Nat) (x1 : Nat) (x2 : Nat) (x3 : Nat) (x4 : Int32) (x5 : Nat) (x6 : Int32) (x7 : Int32) (h : Hp), L40 x0 x1 x2 x3 x4 x5 x6 x7 h → G w E 11 40 [(0, rv w.2.2.2 x0), (1, rv w.2.2.2 x1), (2, rv w.2.2.2 x2), (3, rv w.2.2.2 x3), (4, Value.int x4), (5, rv w.2.2.2 x5), (6, Value.int x6), (7, Value.int x7)] [] sh h 0 0) (hV : V_X5_makeWindows_102 w sh x0 x1 x2 x3 x4 x5 x6 x7 x9 s0 h L40 RET) : G w E 11 102 [(0, rv w.2.2.2 x0), (1, rv w.2.2.2 x1), (2, rv w.2.2.2 x2), (3, rv w.2.2.2 x3), (4, Value.int x4), (5, rv w.2.2.2 x5), (6, Value.int x6), (7, Value.int x7), (9, Value.int x9)] [rv w.2.2.2 s0] sh h 0 0 := by
  unfold V_X5_makeWindows_102 at hV
  refine g_astore (pc := 102) X (i := 10) (rest := [(0, rv w.2.2.2 x0), (1, rv w.2.2.2 x1), (2, rv w.2.2.2 x2), (3, rv w.2.2.2 x3), (4, Value.int x4), (5, rv w.2.2.2 x5), (6, Value.int x6), (7, Value.int x7), (9, Value.int x9)]) (by decide) rfl dX5_makeWindows_102 (fun y1 e2 => ?_)
  have hV := hV y1 e2
  refine g_aload_n (pc := 104) X 1 rfl rfl dX5_makeWindows_104 ?_
  refine g_aload_n (pc := 105) X 2 rfl rfl dX5_makeWindows_105 ?_
  refine g_iload (pc := 106) X 8 rfl dX5_makeWindows_106 ?_
  refine g_aload (pc := 108) X 0 rfl dX5_makeWindows_108 ?_
  refine g_iload (pc := 110) X 9 rfl dX5_makeWindows_110 ?_
  refine g_iload (pc := 112) X 7 rfl dX5_makeWindows_112 ?_
  refine g_ior (pc := 114) X dX5_makeWindows_114 ?_
  refine g_aload_n (pc := 115) X 4 rfl rfl dX5_makeWindows_115 ?_
  refine g_aload (pc := 116) X 6 rfl dX5_makeWindows_116 ?_
  obtain ⟨q3, hV⟩ := hV
  obtain ⟨P4, t5, hV⟩ := hV
  refine g_cVI (pc := 118) X (As := [rv w.2.2.2 x1, Value.int x7, rv w.2.2.2 y1, Value.int (x9 ||| x6), rv w.2.2.2 x3, rv w.2.2.2 x5]) ml_X5_76 rfl q3 t5 (by rw [hR]; exact ⟨by decide, by decide, by decide, by decide⟩) rfl rfl (Nat.zero_le _) dX5_makeWindows_118 (fun v8 h7 p6 => ?_)
  have hV := hV v8 h7 p6
  refine g_if_ne (pc := 121) X 126 dX5_makeWindows_121 (by decide) (fun c9 => ?_) (fun c9 => ?_)
  · have hV := hV.1 c9
    refine g_iincW (pc := 126) X 8 (v := (2048 : Int32)) (rest := [(10, rv w.2.2.2 y1), (0, rv w.2.2.2 x0), (1, rv w.2.2.2 x1), (2, rv w.2.2.2 x2), (3, rv w.2.2.2 x3), (4, Value.int x4), (5, rv w.2.2.2 x5), (6, Value.int x6), (9, Value.int x9)]) rfl (by decide) rfl (by decide) dX5_makeWindows_126 (fun y10 e11 => ?_)
    have hV := hV y10 e11
    refine g_goto (pc := 132) X 40 dX5_makeWindows_132 (by decide) ?_
    refine g_lv [2, 3, 4, 5, 6, 7, 8, 0] rfl ?_
    exact hL40 x0 x1 x2 x3 x4 x5 x6 y10 h7 hV
  · have hV := hV.2 c9
    refine g_iconst (pc := 124) (v := (0 : Int32)) X dX5_makeWindows_124 (by decide) ?_
    exact g_zret (pc := 125) X Tt (by decide) ⟨_, rfl, rfl, hV⟩ dX5_makeWindows_125
def V_X5_makeWindows_89 (w : Wd) (sh : List Sh) (x0 : Nat) (x1 : Nat) (x2 : Nat) (x3 : Nat) (x4 : Int32) (x5 : Nat) (x6 : Int32) (x7 : Int32) (s0 : Int32) (h : Hp) (L40 : Nat → Nat → Nat → Nat → Int32 → Nat → Int32 → Int32 → Hp → Prop) (RET : Int32 → Hp → Prop) : Prop :=
  ∀ y1 : Int32, y1 = s0 → (((¬ y1 = (1 : Int32)) → (V_X5_makeWindows_102 w sh x0 x1 x2 x3 x4 x5 x6 x7 y1 x1 h L40 RET)) ∧ ((y1 = (1 : Int32)) → (V_X5_makeWindows_102 w sh x0 x1 x2 x3 x4 x5 x6 x7 y1 x2 h L40 RET)))
set_option maxRecDepth 20000 in
set_option maxHeartbeats 4000000 in
theorem W_X5_makeWindows_89 {w : Wd} {E : GE} {sh : List Sh} {x0 : Nat} {x1 : Nat} {x2 : Nat} {x3 : Nat} {x4 : Int32} {x5 : Nat} {x6 : Int32} {x7 : Int32} {s0 : Int32} {h : Hp} {L40 : Nat → Nat → Nat → Nat → Int32 → Nat → Int32 → Int32 → Hp → Prop} {RET : Int32 → Hp → Prop} (X : Cx w E cX5_makeWindows 11 RX5) (Tt : Rt w E (some .boolean) sh.length 0 0 (fun q sh9 h9 => ∃ v : Int32, q = some (Value.int v) ∧ sh9 = sh ∧ RET v h9)) (hR : gR E = { frames := 6, cells := 0, slots := 0, locals := 148 }) (hL40 : ∀ (x0 : Nat) (x1 : Nat) (x2 : Nat) (x3 : Nat) (x4 : Int32) (x5 : Nat) (x6 : Int32) (x7 : Int32) (h : Hp), L40 x0 x1 x2 x3 x4 x5 x6 x7 h → G w E 11 40 [(0, rv w.2.2.2 x0), (1, rv w.2.2.2 x1), (2, rv w.2.2.2 x2), (3, rv w.2.2.2 x3), (4, Value.int x4), (5, rv w.2.2.2 x5), (6, Value.int x6), (7, Value.int x7)] [] sh h 0 0) (hV : V_X5_makeWindows_89 w sh x0 x1 x2 x3 x4 x5 x6 x7 s0 h L40 RET) : G w E 11 89 [(0, rv w.2.2.2 x0), (1, rv w.2.2.2 x1), (2, rv w.2.2.2 x2), (3, rv w.2.2.2 x3), (4, Value.int x4), (5, rv w.2.2.2 x5), (6, Value.int x6), (7, Value.int x7)] [Value.int s0] sh h 0 0 := by
  unfold V_X5_makeWindows_89 at hV
  refine g_istore (pc := 89) X (i := 9) (rest := [(0, rv w.2.2.2 x0), (1, rv w.2.2.2 x1), (2, rv w.2.2.2 x2), (3, rv w.2.2.2 x3), (4, Value.int x4), (5, rv w.2.2.2 x5), (6, Value.int x6), (7, Value.int x7)]) (by decide) rfl dX5_makeWindows_89 (fun y1 e2 => ?_)
  have hV := hV y1 e2
  refine g_iload (pc := 91) X 0 rfl dX5_makeWindows_91 ?_
  refine g_iconst (pc := 93) (v := (1 : Int32)) X dX5_makeWindows_93 (by decide) ?_
  refine g_icmp_ne (pc := 94) X 101 dX5_makeWindows_94 (by decide) (fun c3 => ?_) (fun c3 => ?_)
  · have hV := hV.1 c3
    refine g_aload_n (pc := 101) X 2 rfl rfl dX5_makeWindows_101 ?_
    refine g_lv [1, 2, 3, 4, 5, 6, 7, 8, 0] rfl ?_
    exact W_X5_makeWindows_102 X Tt hR hL40 hV
  · have hV := hV.2 c3
    refine g_aload_n (pc := 97) X 3 rfl rfl dX5_makeWindows_97 ?_
    refine g_goto (pc := 98) X 102 dX5_makeWindows_98 (by decide) ?_
    refine g_lv [1, 2, 3, 4, 5, 6, 7, 8, 0] rfl ?_
    exact W_X5_makeWindows_102 X Tt hR hL40 hV
def V_X5_makeWindows_66 (w : Wd) (sh : List Sh) (x0 : Nat) (x1 : Nat) (x2 : Nat) (x3 : Nat) (x4 : Int32) (x5 : Nat) (x6 : Int32) (x7 : Int32) (s0 : Int32) (h : Hp) (L40 : Nat → Nat → Nat → Nat → Int32 → Nat → Int32 → Int32 → Hp → Prop) (RET : Int32 → Hp → Prop) : Prop :=
  ∀ y1 : Int32, y1 = s0 → (shAt sh x2 = some (.inr 8) ∧ (∃ P4 : Int32 → Hp → Prop, C_X8_length w sh x2 h P4 ∧ (∀ (v8 : Int32) (h7 : Hp), P4 v8 h7 → (((v8 ≤ 0) → (((y1 = 0) → (V_X5_makeWindows_89 w sh x0 x1 x2 x3 x4 x5 x6 x7 (0 : Int32) h7 L40 RET)) ∧ ((¬ y1 = 0) → (V_X5_makeWindows_89 w sh x0 x1 x2 x3 x4 x5 x6 x7 (2 : Int32) h7 L40 RET)))) ∧ ((¬ v8 ≤ 0) → (V_X5_makeWindows_89 w sh x0 x1 x2 x3 x4 x5 x6 x7 (1 : Int32) h7 L40 RET))))))
set_option maxRecDepth 20000 in
set_option maxHeartbeats 4000000 in
theorem W_X5_makeWindows_66 {w : Wd} {E : GE} {sh : List Sh} {x0 : Nat} {x1 : Nat} {x2 : Nat} {x3 : Nat} {x4 : Int32} {x5 : Nat} {x6 : Int32} {x7 : Int32} {s0 : Int32} {h : Hp} {L40 : Nat → Nat → Nat → Nat → Int32 → Nat → Int32 → Int32 → Hp → Prop} {RET : Int32 → Hp → Prop} (X : Cx w E cX5_makeWindows 11 RX5) (Tt : Rt w E (some .boolean) sh.length 0 0 (fun q sh9 h9 => ∃ v : Int32, q = some (Value.int v) ∧ sh9 = sh ∧ RET v h9)) (hR : gR E = { frames := 6, cells := 0, slots := 0, locals := 148 }) (hL40 : ∀ (x0 : Nat) (x1 : Nat) (x2 : Nat) (x3 : Nat) (x4 : Int32) (x5 : Nat) (x6 : Int32) (x7 : Int32) (h : Hp), L40 x0 x1 x2 x3 x4 x5 x6 x7 h → G w E 11 40 [(0, rv w.2.2.2 x0), (1, rv w.2.2.2 x1), (2, rv w.2.2.2 x2), (3, rv w.2.2.2 x3), (4, Value.int x4), (5, rv w.2.2.2 x5), (6, Value.int x6), (7, Value.int x7)] [] sh h 0 0) (hV : V_X5_makeWindows_66 w sh x0 x1 x2 x3 x4 x5 x6 x7 s0 h L40 RET) : G w E 11 66 [(0, rv w.2.2.2 x0), (1, rv w.2.2.2 x1), (2, rv w.2.2.2 x2), (3, rv w.2.2.2 x3), (4, Value.int x4), (5, rv w.2.2.2 x5), (6, Value.int x6), (7, Value.int x7)] [Value.int s0] sh h 0 0 := by
  unfold V_X5_makeWindows_66 at hV
  refine g_istore (pc := 66) X (i := 8) (rest := [(0, rv w.2.2.2 x0), (1, rv w.2.2.2 x1), (2, rv w.2.2.2 x2), (3, rv w.2.2.2 x3), (4, Value.int x4), (5, rv w.2.2.2 x5), (6, Value.int x6), (7, Value.int x7)]) (by decide) rfl dX5_makeWindows_66 (fun y1 e2 => ?_)
  have hV := hV y1 e2
  refine g_aload_n (pc := 68) X 3 rfl rfl dX5_makeWindows_68 ?_
  obtain ⟨q3, hV⟩ := hV
  obtain ⟨P4, t5, hV⟩ := hV
  refine g_cVI (pc := 69) X (As := []) ml_X5_72 rfl q3 t5 (by rw [hR]; exact ⟨by decide, by decide, by decide, by decide⟩) rfl rfl (Nat.zero_le _) dX5_makeWindows_69 (fun v8 h7 p6 => ?_)
  have hV := hV v8 h7 p6
  refine g_if_le (pc := 72) X 79 dX5_makeWindows_72 (by decide) (fun c9 => ?_) (fun c9 => ?_)
  · have hV := hV.1 c9
    refine g_iload (pc := 79) X 0 rfl dX5_makeWindows_79 ?_
    refine g_if_eq (pc := 81) X 88 dX5_makeWindows_81 (by decide) (fun c10 => ?_) (fun c10 => ?_)
    · have hV := hV.1 c10
      refine g_iconst (pc := 88) (v := (0 : Int32)) X dX5_makeWindows_88 (by decide) ?_
      refine g_lv [1, 2, 3, 4, 5, 6, 7, 8] rfl ?_
      exact W_X5_makeWindows_89 X Tt hR hL40 hV
    · have hV := hV.2 c10
      refine g_iconst (pc := 84) (v := (2 : Int32)) X dX5_makeWindows_84 (by decide) ?_
      refine g_goto (pc := 85) X 89 dX5_makeWindows_85 (by decide) ?_
      refine g_lv [1, 2, 3, 4, 5, 6, 7, 8] rfl ?_
      exact W_X5_makeWindows_89 X Tt hR hL40 hV
  · have hV := hV.2 c9
    refine g_iconst (pc := 75) (v := (1 : Int32)) X dX5_makeWindows_75 (by decide) ?_
    refine g_goto (pc := 76) X 89 dX5_makeWindows_76 (by decide) ?_
    refine g_lv [1, 2, 3, 4, 5, 6, 7, 8] rfl ?_
    exact W_X5_makeWindows_89 X Tt hR hL40 hV
def V_X5_makeWindows_65 (w : Wd) (sh : List Sh) (x0 : Nat) (x1 : Nat) (x2 : Nat) (x3 : Nat) (x4 : Int32) (x5 : Nat) (x6 : Int32) (x7 : Int32) (h : Hp) (L40 : Nat → Nat → Nat → Nat → Int32 → Nat → Int32 → Int32 → Hp → Prop) (RET : Int32 → Hp → Prop) : Prop :=
  V_X5_makeWindows_66 w sh x0 x1 x2 x3 x4 x5 x6 x7 (0 : Int32) h L40 RET
set_option maxRecDepth 20000 in
set_option maxHeartbeats 4000000 in
theorem W_X5_makeWindows_65 {w : Wd} {E : GE} {sh : List Sh} {x0 : Nat} {x1 : Nat} {x2 : Nat} {x3 : Nat} {x4 : Int32} {x5 : Nat} {x6 : Int32} {x7 : Int32} {h : Hp} {L40 : Nat → Nat → Nat → Nat → Int32 → Nat → Int32 → Int32 → Hp → Prop} {RET : Int32 → Hp → Prop} (X : Cx w E cX5_makeWindows 11 RX5) (Tt : Rt w E (some .boolean) sh.length 0 0 (fun q sh9 h9 => ∃ v : Int32, q = some (Value.int v) ∧ sh9 = sh ∧ RET v h9)) (hR : gR E = { frames := 6, cells := 0, slots := 0, locals := 148 }) (hL40 : ∀ (x0 : Nat) (x1 : Nat) (x2 : Nat) (x3 : Nat) (x4 : Int32) (x5 : Nat) (x6 : Int32) (x7 : Int32) (h : Hp), L40 x0 x1 x2 x3 x4 x5 x6 x7 h → G w E 11 40 [(0, rv w.2.2.2 x0), (1, rv w.2.2.2 x1), (2, rv w.2.2.2 x2), (3, rv w.2.2.2 x3), (4, Value.int x4), (5, rv w.2.2.2 x5), (6, Value.int x6), (7, Value.int x7)] [] sh h 0 0) (hV : V_X5_makeWindows_65 w sh x0 x1 x2 x3 x4 x5 x6 x7 h L40 RET) : G w E 11 65 [(0, rv w.2.2.2 x0), (1, rv w.2.2.2 x1), (2, rv w.2.2.2 x2), (3, rv w.2.2.2 x3), (4, Value.int x4), (5, rv w.2.2.2 x5), (6, Value.int x6), (7, Value.int x7)] [] sh h 0 0 := by
  unfold V_X5_makeWindows_65 at hV
  refine g_iconst (pc := 65) (v := (0 : Int32)) X dX5_makeWindows_65 (by decide) ?_
  exact W_X5_makeWindows_66 X Tt hR hL40 hV
def V_X5_makeWindows_40 (w : Wd) (sh : List Sh) (x0 : Nat) (x1 : Nat) (x2 : Nat) (x3 : Nat) (x4 : Int32) (x5 : Nat) (x6 : Int32) (x7 : Int32) (h : Hp) (L40 : Nat → Nat → Nat → Nat → Int32 → Nat → Int32 → Int32 → Hp → Prop) (RET : Int32 → Hp → Prop) : Prop :=
  shAt sh x1 = some (.inr 8) ∧ (∃ P2 : Int32 → Hp → Prop, C_X8_length w sh x1 h P2 ∧ (∀ (v6 : Int32) (h5 : Hp), P2 v6 h5 → (((v6 ≤ x7) → (RET (1 : Int32) h5)) ∧ ((¬ v6 ≤ x7) → ((((x4 &&& (4 : Int32)) = 0) → (V_X5_makeWindows_65 w sh x0 x1 x2 x3 x4 x5 x6 x7 h5 L40 RET)) ∧ ((¬ (x4 &&& (4 : Int32)) = 0) → (((x7 ≤ 0) → (V_X5_makeWindows_65 w sh x0 x1 x2 x3 x4 x5 x6 x7 h5 L40 RET)) ∧ ((¬ x7 ≤ 0) → (V_X5_makeWindows_66 w sh x0 x1 x2 x3 x4 x5 x6 x7 (1 : Int32) h5 L40 RET)))))))))
set_option maxRecDepth 20000 in
set_option maxHeartbeats 4000000 in
theorem W_X5_makeWindows_40 {w : Wd} {E : GE} {sh : List Sh} {x0 : Nat} {x1 : Nat} {x2 : Nat} {x3 : Nat} {x4 : Int32} {x5 : Nat} {x6 : Int32} {x7 : Int32} {h : Hp} {L40 : Nat → Nat → Nat → Nat → Int32 → Nat → Int32 → Int32 → Hp → Prop} {RET : Int32 → Hp → Prop} (X : Cx w E cX5_makeWindows 11 RX5) (Tt : Rt w E (some .boolean) sh.length 0 0 (fun q sh9 h9 => ∃ v : Int32, q = some (Value.int v) ∧ sh9 = sh ∧ RET v h9)) (hR : gR E = { frames := 6, cells := 0, slots := 0, locals := 148 }) (hL40 : ∀ (x0 : Nat) (x1 : Nat) (x2 : Nat) (x3 : Nat) (x4 : Int32) (x5 : Nat) (x6 : Int32) (x7 : Int32) (h : Hp), L40 x0 x1 x2 x3 x4 x5 x6 x7 h → G w E 11 40 [(0, rv w.2.2.2 x0), (1, rv w.2.2.2 x1), (2, rv w.2.2.2 x2), (3, rv w.2.2.2 x3), (4, Value.int x4), (5, rv w.2.2.2 x5), (6, Value.int x6), (7, Value.int x7)] [] sh h 0 0) (hV : V_X5_makeWindows_40 w sh x0 x1 x2 x3 x4 x5 x6 x7 h L40 RET) : G w E 11 40 [(0, rv w.2.2.2 x0), (1, rv w.2.2.2 x1), (2, rv w.2.2.2 x2), (3, rv w.2.2.2 x3), (4, Value.int x4), (5, rv w.2.2.2 x5), (6, Value.int x6), (7, Value.int x7)] [] sh h 0 0 := by
  unfold V_X5_makeWindows_40 at hV
  refine g_iload (pc := 40) X 7 rfl dX5_makeWindows_40 ?_
  refine g_aload_n (pc := 42) X 1 rfl rfl dX5_makeWindows_42 ?_
  obtain ⟨q1, hV⟩ := hV
  obtain ⟨P2, t3, hV⟩ := hV
  refine g_cVI (pc := 43) X (As := []) ml_X5_72 rfl q1 t3 (by rw [hR]; exact ⟨by decide, by decide, by decide, by decide⟩) rfl rfl (Nat.le_of_ble_eq_true rfl) dX5_makeWindows_43 (fun v6 h5 p4 => ?_)
  have hV := hV v6 h5 p4
  refine g_icmp_ge (pc := 46) X 135 dX5_makeWindows_46 (by decide) (fun c7 => ?_) (fun c7 => ?_)
  · have hV := hV.1 c7
    refine g_iconst (pc := 135) (v := (1 : Int32)) X dX5_makeWindows_135 (by decide) ?_
    exact g_zret (pc := 136) X Tt (by decide) ⟨_, rfl, rfl, hV⟩ dX5_makeWindows_136
  · have hV := hV.2 c7
    refine g_iload (pc := 49) X 4 rfl dX5_makeWindows_49 ?_
    refine g_iconst (pc := 51) (v := (4 : Int32)) X dX5_makeWindows_51 (by decide) ?_
    refine g_iand (pc := 52) X dX5_makeWindows_52 ?_
    refine g_if_eq (pc := 53) X 65 dX5_makeWindows_53 (by decide) (fun c8 => ?_) (fun c8 => ?_)
    · have hV := hV.1 c8
      exact W_X5_makeWindows_65 X Tt hR hL40 hV
    · have hV := hV.2 c8
      refine g_iload (pc := 56) X 7 rfl dX5_makeWindows_56 ?_
      refine g_if_le (pc := 58) X 65 dX5_makeWindows_58 (by decide) (fun c9 => ?_) (fun c9 => ?_)
      · have hV := hV.1 c9
        exact W_X5_makeWindows_65 X Tt hR hL40 hV
      · have hV := hV.2 c9
        refine g_iconst (pc := 61) (v := (1 : Int32)) X dX5_makeWindows_61 (by decide) ?_
        refine g_goto (pc := 62) X 66 dX5_makeWindows_62 (by decide) ?_
        exact W_X5_makeWindows_66 X Tt hR hL40 hV
def V_X5_makeWindows_35 (w : Wd) (sh : List Sh) (x0 : Nat) (x1 : Nat) (x2 : Nat) (x3 : Nat) (x4 : Int32) (x5 : Nat) (s0 : Int32) (h : Hp) (L40 : Nat → Nat → Nat → Nat → Int32 → Nat → Int32 → Int32 → Hp → Prop) (RET : Int32 → Hp → Prop) : Prop :=
  ∀ y1 : Int32, y1 = s0 → (∀ y3 : Int32, y3 = (0 : Int32) → (L40 x0 x1 x2 x3 x4 x5 y1 y3 h))
set_option maxRecDepth 20000 in
set_option maxHeartbeats 4000000 in
theorem W_X5_makeWindows_35 {w : Wd} {E : GE} {sh : List Sh} {x0 : Nat} {x1 : Nat} {x2 : Nat} {x3 : Nat} {x4 : Int32} {x5 : Nat} {s0 : Int32} {h : Hp} {L40 : Nat → Nat → Nat → Nat → Int32 → Nat → Int32 → Int32 → Hp → Prop} {RET : Int32 → Hp → Prop} (X : Cx w E cX5_makeWindows 11 RX5) (Tt : Rt w E (some .boolean) sh.length 0 0 (fun q sh9 h9 => ∃ v : Int32, q = some (Value.int v) ∧ sh9 = sh ∧ RET v h9)) (hR : gR E = { frames := 6, cells := 0, slots := 0, locals := 148 }) (hL40 : ∀ (x0 : Nat) (x1 : Nat) (x2 : Nat) (x3 : Nat) (x4 : Int32) (x5 : Nat) (x6 : Int32) (x7 : Int32) (h : Hp), L40 x0 x1 x2 x3 x4 x5 x6 x7 h → G w E 11 40 [(0, rv w.2.2.2 x0), (1, rv w.2.2.2 x1), (2, rv w.2.2.2 x2), (3, rv w.2.2.2 x3), (4, Value.int x4), (5, rv w.2.2.2 x5), (6, Value.int x6), (7, Value.int x7)] [] sh h 0 0) (hV : V_X5_makeWindows_35 w sh x0 x1 x2 x3 x4 x5 s0 h L40 RET) : G w E 11 35 [(0, rv w.2.2.2 x0), (1, rv w.2.2.2 x1), (2, rv w.2.2.2 x2), (3, rv w.2.2.2 x3), (4, Value.int x4), (5, rv w.2.2.2 x5)] [Value.int s0] sh h 0 0 := by
  unfold V_X5_makeWindows_35 at hV
  refine g_istore (pc := 35) X (i := 6) (rest := [(0, rv w.2.2.2 x0), (1, rv w.2.2.2 x1), (2, rv w.2.2.2 x2), (3, rv w.2.2.2 x3), (4, Value.int x4), (5, rv w.2.2.2 x5)]) (by decide) (by simp [flt1, flt2, rv_cat, cat_int, cat_long]) dX5_makeWindows_35 (fun y1 e2 => ?_)
  have hV := hV y1 e2
  refine g_iconst (pc := 37) (v := (0 : Int32)) X dX5_makeWindows_37 (by decide) ?_
  refine g_istore (pc := 38) X (i := 7) (rest := [(6, Value.int y1), (0, rv w.2.2.2 x0), (1, rv w.2.2.2 x1), (2, rv w.2.2.2 x2), (3, rv w.2.2.2 x3), (4, Value.int x4), (5, rv w.2.2.2 x5)]) (by decide) rfl dX5_makeWindows_38 (fun y3 e4 => ?_)
  have hV := hV y3 e4
  refine g_lv [2, 3, 4, 5, 6, 7, 1, 0] rfl ?_
  exact hL40 x0 x1 x2 x3 x4 x5 y1 y3 h hV
def V_X5_makeWindows_0 (w : Wd) (sh : List Sh) (x0 : Nat) (x1 : Nat) (x2 : Nat) (x3 : Nat) (x4 : Int32) (x5 : Nat) (h : Hp) (L40 : Nat → Nat → Nat → Nat → Int32 → Nat → Int32 → Int32 → Hp → Prop) (RET : Int32 → Hp → Prop) : Prop :=
  shAt sh x0 = some (.inr 5) ∧ (shAt sh (h.2.1 x0 2) = some (.inr 1) ∧ (∃ P3 : Hp → Prop, C_X1_lay w sh (h.2.1 x0 2) x3 h P3 ∧ (∀ h6 : Hp, P3 h6 → (shAt sh x3 = some (.inr 10) ∧ (shAt sh (h6.2.1 x0 3) = some (.inr 0) ∧ (∃ P9 : Hp → Prop, C_X0_fit w sh (h6.2.1 x0 3) (h6.1 x3 1) (h6.1 x3 2) h6 P9 ∧ (∀ h12 : Hp, P9 h12 → ((((x4 &&& (1 : Int32)) = 0) → (V_X5_makeWindows_35 w sh x0 x1 x2 x3 x4 x5 (0 : Int32) h12 L40 RET)) ∧ ((¬ (x4 &&& (1 : Int32)) = 0) → (V_X5_makeWindows_35 w sh x0 x1 x2 x3 x4 x5 (4 : Int32) h12 L40 RET))))))))))
set_option maxRecDepth 20000 in
set_option maxHeartbeats 4000000 in
theorem W_X5_makeWindows_0 {w : Wd} {E : GE} {sh : List Sh} {x0 : Nat} {x1 : Nat} {x2 : Nat} {x3 : Nat} {x4 : Int32} {x5 : Nat} {h : Hp} {L40 : Nat → Nat → Nat → Nat → Int32 → Nat → Int32 → Int32 → Hp → Prop} {RET : Int32 → Hp → Prop} (X : Cx w E cX5_makeWindows 11 RX5) (Tt : Rt w E (some .boolean) sh.length 0 0 (fun q sh9 h9 => ∃ v : Int32, q = some (Value.int v) ∧ sh9 = sh ∧ RET v h9)) (hR : gR E = { frames := 6, cells := 0, slots := 0, locals := 148 }) (hL40 : ∀ (x0 : Nat) (x1 : Nat) (x2 : Nat) (x3 : Nat) (x4 : Int32) (x5 : Nat) (x6 : Int32) (x7 : Int32) (h : Hp), L40 x0 x1 x2 x3 x4 x5 x6 x7 h → G w E 11 40 [(0, rv w.2.2.2 x0), (1, rv w.2.2.2 x1), (2, rv w.2.2.2 x2), (3, rv w.2.2.2 x3), (4, Value.int x4), (5, rv w.2.2.2 x5), (6, Value.int x6), (7, Value.int x7)] [] sh h 0 0) (hV : V_X5_makeWindows_0 w sh x0 x1 x2 x3 x4 x5 h L40 RET) : G w E 11 0 [(0, rv w.2.2.2 x0), (1, rv w.2.2.2 x1), (2, rv w.2.2.2 x2), (3, rv w.2.2.2 x3), (4, Value.int x4), (5, rv w.2.2.2 x5)] [] sh h 0 0 := by
  unfold V_X5_makeWindows_0 at hV
  refine g_aload_n (pc := 0) X 0 rfl rfl dX5_makeWindows_0 ?_
  obtain ⟨q1, hV⟩ := hV
  refine g_getR (pc := 1) X fl_X5_28 q1 dX5_makeWindows_1 ?_
  refine g_aload_n (pc := 4) X 3 rfl rfl dX5_makeWindows_4 ?_
  obtain ⟨q2, hV⟩ := hV
  obtain ⟨P3, t4, hV⟩ := hV
  refine g_cVV (pc := 5) X (As := [rv w.2.2.2 x3]) ml_X5_56 rfl q2 t4 (by rw [hR]; exact ⟨by decide, by decide, by decide, by decide⟩) rfl rfl (Nat.zero_le _) dX5_makeWindows_5 (fun h6 p5 => ?_)
  have hV := hV h6 p5
  refine g_aload_n (pc := 8) X 0 rfl rfl dX5_makeWindows_8 ?_
  refine g_getR (pc := 9) X fl_X5_37 q1 dX5_makeWindows_9 ?_
  refine g_aload_n (pc := 12) X 3 rfl rfl dX5_makeWindows_12 ?_
  obtain ⟨q7, hV⟩ := hV
  refine g_getI (pc := 13) X fl_X5_60 q7 dX5_makeWindows_13 ?_
  refine g_aload_n (pc := 16) X 3 rfl rfl dX5_makeWindows_16 ?_
  refine g_getI (pc := 17) X fl_X5_66 q7 dX5_makeWindows_17 ?_
  obtain ⟨q8, hV⟩ := hV
  obtain ⟨P9, t10, hV⟩ := hV
  refine g_cVV (pc := 20) X (As := [Value.int (h6.1 x3 1), Value.int (h6.1 x3 2)]) ml_X5_69 rfl q8 t10 (by rw [hR]; exact ⟨by decide, by decide, by decide, by decide⟩) rfl rfl (Nat.zero_le _) dX5_makeWindows_20 (fun h12 p11 => ?_)
  have hV := hV h12 p11
  refine g_iload (pc := 23) X 4 rfl dX5_makeWindows_23 ?_
  refine g_iconst (pc := 25) (v := (1 : Int32)) X dX5_makeWindows_25 (by decide) ?_
  refine g_iand (pc := 26) X dX5_makeWindows_26 ?_
  refine g_if_eq (pc := 27) X 34 dX5_makeWindows_27 (by decide) (fun c13 => ?_) (fun c13 => ?_)
  · have hV := hV.1 c13
    refine g_iconst (pc := 34) (v := (0 : Int32)) X dX5_makeWindows_34 (by decide) ?_
    exact W_X5_makeWindows_35 X Tt hR hL40 hV
  · have hV := hV.2 c13
    refine g_iconst (pc := 30) (v := (4 : Int32)) X dX5_makeWindows_30 (by decide) ?_
    refine g_goto (pc := 31) X 35 dX5_makeWindows_31 (by decide) ?_
    exact W_X5_makeWindows_35 X Tt hR hL40 hV
def C_X5_makeWindows (w : Wd) (sh : List Sh) (x0 : Nat) (x1 : Nat) (x2 : Nat) (x3 : Nat) (x4 : Int32) (x5 : Nat) (h : Hp) (RET : Int32 → Hp → Prop) : Prop := CI w yX5_makeWindows (.code yX5_makeWindows cX5_makeWindows 11 (some .boolean)) 6 148 [rv w.2.2.2 x0, rv w.2.2.2 x1, rv w.2.2.2 x2, rv w.2.2.2 x3, Value.int x4, rv w.2.2.2 x5] sh h RET
set_option maxRecDepth 20000 in
theorem K_X5_makeWindows {w : Wd} {sh : List Sh} {x0 : Nat} {x1 : Nat} {x2 : Nat} {x3 : Nat} {x4 : Int32} {x5 : Nat} {h : Hp} {RET : Int32 → Hp → Prop} {α : Type} {r : α → α → Prop} (wf : WellFounded r) (I40 : α → Nat → Nat → Nat → Nat → Int32 → Nat → Int32 → Int32 → Hp → Prop) (hE : V_X5_makeWindows_0 w sh x0 x1 x2 x3 x4 x5 h (fun x0 x1 x2 x3 x4 x5 x6 x7 h => ∃ a, I40 a x0 x1 x2 x3 x4 x5 x6 x7 h) RET) (h40 : ∀ (b : α) (x0 : Nat) (x1 : Nat) (x2 : Nat) (x3 : Nat) (x4 : Int32) (x5 : Nat) (x6 : Int32) (x7 : Int32) (h : Hp), I40 b x0 x1 x2 x3 x4 x5 x6 x7 h → V_X5_makeWindows_40 w sh x0 x1 x2 x3 x4 x5 x6 x7 h (fun x0 x1 x2 x3 x4 x5 x6 x7 h => ∃ a, r a b ∧ I40 a x0 x1 x2 x3 x4 x5 x6 x7 h) RET) : C_X5_makeWindows w sh x0 x1 x2 x3 x4 x5 h RET :=
  Ct_of (by decide +kernel) (by simp [lg_sl, rv_cat, cat_int, cat_long]) (fun E X Tt hR _ => by
    have key : ∀ a : α, (∀ (x0 : Nat) (x1 : Nat) (x2 : Nat) (x3 : Nat) (x4 : Int32) (x5 : Nat) (x6 : Int32) (x7 : Int32) (h : Hp), I40 a x0 x1 x2 x3 x4 x5 x6 x7 h → G w E 11 40 [(0, rv w.2.2.2 x0), (1, rv w.2.2.2 x1), (2, rv w.2.2.2 x2), (3, rv w.2.2.2 x3), (4, Value.int x4), (5, rv w.2.2.2 x5), (6, Value.int x6), (7, Value.int x7)] [] sh h 0 0) := by
      intro a
      induction a using wf.induction with
      | _ a ih =>
        exact (fun x0 x1 x2 x3 x4 x5 x6 x7 h hi => W_X5_makeWindows_40 X Tt hR (fun x0 x1 x2 x3 x4 x5 x6 x7 h hx => by obtain ⟨a2, ha, hi⟩ := hx; exact (ih a2 ha) x0 x1 x2 x3 x4 x5 x6 x7 h hi) (h40 a x0 x1 x2 x3 x4 x5 x6 x7 h hi))
    rw [show lv_args 0 [rv w.2.2.2 x0, rv w.2.2.2 x1, rv w.2.2.2 x2, rv w.2.2.2 x3, Value.int x4, rv w.2.2.2 x5] = [(0, rv w.2.2.2 x0), (1, rv w.2.2.2 x1), (2, rv w.2.2.2 x2), (3, rv w.2.2.2 x3), (4, Value.int x4), (5, rv w.2.2.2 x5)] from by simp [lv_args, rv_cat, cat_int, cat_long]]
    refine g_lv [0, 1, 2, 3, 4, 5] rfl ?_
    exact W_X5_makeWindows_0 X Tt hR (fun x0 x1 x2 x3 x4 x5 x6 x7 h hx => by obtain ⟨a2, hi⟩ := hx; exact (key a2) x0 x1 x2 x3 x4 x5 x6 x7 h hi) hE)
