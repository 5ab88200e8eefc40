def V_X7_begin_0 (w : Wd) (sh : List Sh) (x0 : Nat) (x1 : Nat) (x2 : Int32) (x3 : Int32) (x4 : Nat) (x5 : Nat) (h : Hp)  (RET : Hp → Prop) : Prop :=
  shAt sh x0 = some (.inr 7) ∧ (shAt sh (h.2.1 x0 4) = some (.inr 2) ∧ (∃ P3 : Hp → Prop, C_X2_lay w sh (h.2.1 x0 4) x1 x2 x3 h P3 ∧ (∀ h6 : Hp, P3 h6 → (∀ h7 : Hp, h7 = wR h6 x0 10 x4 → (∀ h9 : Hp, h9 = wR h7 x0 11 x5 → (shAt sh (h9.2.1 x0 11) = some (.inr 8) ∧ (∃ P12 : Hp → Prop, C_X8_clear w sh (h9.2.1 x0 11) h9 P12 ∧ (∀ h15 : Hp, P12 h15 → (shAt sh (h15.2.1 x0 0) = some (.inr 10) ∧ (shAt sh (h15.2.1 x0 1) = some (.inr 0) ∧ (∃ P18 : Hp → Prop, C_X0_fit w sh (h15.2.1 x0 1) (h15.1 (h15.2.1 x0 0) 1) (h15.1 (h15.2.1 x0 0) 2) h15 P18 ∧ (∀ h21 : Hp, P18 h21 → (shAt sh (h21.2.1 x0 2) = some (.inr 4) ∧ (∃ P23 : Hp → Prop, C_X4_clear w sh (h21.2.1 x0 2) h21 P23 ∧ (∀ h26 : Hp, P23 h26 → (∀ h27 : Hp, h27 = wI h26 x0 12 (0 : Int32) → (∀ h29 : Hp, h29 = wI h27 x0 13 (-1 : Int32) → (∀ h31 : Hp, h31 = wI h29 x0 14 (0 : Int32) → (∀ h33 : Hp, h33 = wI h31 x0 15 x2 → (∀ h35 : Hp, h35 = wI h33 x0 16 (0 : Int32) → (RET h35)))))))))))))))))))))
set_option maxRecDepth 20000 in
set_option maxHeartbeats 4000000 in
theorem W_X7_begin_0 {w : Wd} {E : GE} {sh : List Sh} {x0 : Nat} {x1 : Nat} {x2 : Int32} {x3 : Int32} {x4 : Nat} {x5 : Nat} {h : Hp}  {RET : Hp → Prop} (X : Cx w E cX7_begin 6 RX7) (Tt : Rt w E none sh.length 0 0 (fun q sh9 h9 => q = none ∧ sh9 = sh ∧ RET h9)) (hR : gR E = { frames := 3, cells := 0, slots := 0, locals := 65 }) (hV : V_X7_begin_0 w sh x0 x1 x2 x3 x4 x5 h RET) : G w E 6 0 [(0, rv w.2.2.2 x0), (1, rv w.2.2.2 x1), (2, Value.int x2), (3, Value.int x3), (4, rv w.2.2.2 x4), (5, rv w.2.2.2 x5)] [] sh h 0 0 := by
  unfold V_X7_begin_0 at hV
  refine g_aload_n (pc := 0) X 0 rfl rfl dX7_begin_0 ?_
  obtain ⟨q1, hV⟩ := hV
  refine g_getR (pc := 1) X fl_X7_12 q1 dX7_begin_1 ?_
  refine g_aload_n (pc := 4) X 1 rfl rfl dX7_begin_4 ?_
  refine g_iload_n (pc := 5) X 2 rfl rfl dX7_begin_5 ?_
  refine g_iload_n (pc := 6) X 3 rfl rfl dX7_begin_6 ?_
  obtain ⟨q2, hV⟩ := hV
  obtain ⟨P3, t4, hV⟩ := hV
  refine g_cVV (pc := 7) X (As := [rv w.2.2.2 x1, Value.int x2, Value.int x3]) ml_X7_71 rfl q2 t4 (by rw [hR]; exact ⟨by decide, by decide, by decide, by decide⟩) rfl rfl (Nat.zero_le _) dX7_begin_7 (fun h6 p5 => ?_)
  have hV := hV h6 p5
  refine g_aload_n (pc := 10) X 0 rfl rfl dX7_begin_10 ?_
  refine g_aload (pc := 11) X 4 rfl dX7_begin_11 ?_
  refine g_putR (pc := 13) X fl_X7_42 q1 rfl dX7_begin_13 (fun h7 e8 => ?_)
  have hV := hV h7 e8
  refine g_aload_n (pc := 16) X 0 rfl rfl dX7_begin_16 ?_
  refine g_aload (pc := 17) X 5 rfl dX7_begin_17 ?_
  refine g_putR (pc := 19) X fl_X7_46 q1 rfl dX7_begin_19 (fun h9 e10 => ?_)
  have hV := hV h9 e10
  refine g_aload_n (pc := 22) X 0 rfl rfl dX7_begin_22 ?_
  refine g_getR (pc := 23) X fl_X7_46 q1 dX7_begin_23 ?_
  obtain ⟨q11, hV⟩ := hV
  obtain ⟨P12, t13, hV⟩ := hV
  refine g_cVV (pc := 26) X (As := []) ml_X7_75 rfl q11 t13 (by rw [hR]; exact ⟨by decide, by decide, by decide, by decide⟩) rfl rfl (Nat.zero_le _) dX7_begin_26 (fun h15 p14 => ?_)
  have hV := hV h15 p14
  refine g_aload_n (pc := 29) X 0 rfl rfl dX7_begin_29 ?_
  refine g_getR (pc := 30) X fl_X7_60 q1 dX7_begin_30 ?_
  refine g_aload_n (pc := 33) X 0 rfl rfl dX7_begin_33 ?_
  refine g_getR (pc := 34) X fl_X7_56 q1 dX7_begin_34 ?_
  obtain ⟨q16, hV⟩ := hV
  refine g_getI (pc := 37) X fl_X7_78 q16 dX7_begin_37 ?_
  refine g_aload_n (pc := 40) X 0 rfl rfl dX7_begin_40 ?_
  refine g_getR (pc := 41) X fl_X7_56 q1 dX7_begin_41 ?_
  refine g_getI (pc := 44) X fl_X7_83 q16 dX7_begin_44 ?_
  obtain ⟨q17, hV⟩ := hV
  obtain ⟨P18, t19, hV⟩ := hV
  refine g_cVV (pc := 47) X (As := [Value.int (h15.1 (h15.2.1 x0 0) 1), Value.int (h15.1 (h15.2.1 x0 0) 2)]) ml_X7_86 rfl q17 t19 (by rw [hR]; exact ⟨by decide, by decide, by decide, by decide⟩) rfl rfl (Nat.zero_le _) dX7_begin_47 (fun h21 p20 => ?_)
  have hV := hV h21 p20
  refine g_aload_n (pc := 50) X 0 rfl rfl dX7_begin_50 ?_
  refine g_getR (pc := 51) X fl_X7_64 q1 dX7_begin_51 ?_
  obtain ⟨q22, hV⟩ := hV
  obtain ⟨P23, t24, hV⟩ := hV
  refine g_cVV (pc := 54) X (As := []) ml_X7_92 rfl q22 t24 (by rw [hR]; exact ⟨by decide, by decide, by decide, by decide⟩) rfl rfl (Nat.zero_le _) dX7_begin_54 (fun h26 p25 => ?_)
  have hV := hV h26 p25
  refine g_aload_n (pc := 57) X 0 rfl rfl dX7_begin_57 ?_
  refine g_iconst (pc := 58) (v := (0 : Int32)) X dX7_begin_58 (by decide) ?_
  refine g_putI (pc := 59) X fl_X7_49 q1 rfl rfl dX7_begin_59 (fun h27 e28 => ?_)
  have hV := hV h27 e28
  refine g_aload_n (pc := 62) X 0 rfl rfl dX7_begin_62 ?_
  refine g_iconst (pc := 63) (v := (-1 : Int32)) X dX7_begin_63 (by decide) ?_
  refine g_putI (pc := 64) X fl_X7_53 q1 rfl rfl dX7_begin_64 (fun h29 e30 => ?_)
  have hV := hV h29 e30
  refine g_aload_n (pc := 67) X 0 rfl rfl dX7_begin_67 ?_
  refine g_iconst (pc := 68) (v := (0 : Int32)) X dX7_begin_68 (by decide) ?_
  refine g_putI (pc := 69) X fl_X7_95 q1 rfl rfl dX7_begin_69 (fun h31 e32 => ?_)
  have hV := hV h31 e32
  refine g_aload_n (pc := 72) X 0 rfl rfl dX7_begin_72 ?_
  refine g_iload_n (pc := 73) X 2 rfl rfl dX7_begin_73 ?_
  refine g_putI (pc := 74) X fl_X7_98 q1 rfl rfl dX7_begin_74 (fun h33 e34 => ?_)
  have hV := hV h33 e34
  refine g_aload_n (pc := 77) X 0 rfl rfl dX7_begin_77 ?_
  refine g_iconst (pc := 78) (v := (0 : Int32)) X dX7_begin_78 (by decide) ?_
  refine g_putI (pc := 79) X fl_X7_101 q1 rfl rfl dX7_begin_79 (fun h35 e36 => ?_)
  have hV := hV h35 e36
  exact g_vret (pc := 82) X Tt ⟨rfl, rfl, hV⟩ dX7_begin_82
def C_X7_begin (w : Wd) (sh : List Sh) (x0 : Nat) (x1 : Nat) (x2 : Int32) (x3 : Int32) (x4 : Nat) (x5 : Nat) (h : Hp) (RET : Hp → Prop) : Prop := CV w yX7_begin (.code yX7_begin cX7_begin 6 none) 3 65 [rv w.2.2.2 x0, rv w.2.2.2 x1, Value.int x2, Value.int x3, rv w.2.2.2 x4, rv w.2.2.2 x5] sh h RET
theorem K_X7_begin {w : Wd} {sh : List Sh} {x0 : Nat} {x1 : Nat} {x2 : Int32} {x3 : Int32} {x4 : Nat} {x5 : Nat} {h : Hp} {RET : Hp → Prop} (hV : V_X7_begin_0 w sh x0 x1 x2 x3 x4 x5 h RET) : C_X7_begin w sh x0 x1 x2 x3 x4 x5 h RET :=
  Ct_of (by decide +kernel) (by simp [lg_sl, rv_cat, cat_int, cat_long]) (fun E X Tt hR _ => by
    rw [show lv_args 0 [rv w.2.2.2 x0, rv w.2.2.2 x1, Value.int x2, Value.int x3, rv w.2.2.2 x4, rv w.2.2.2 x5] = [(0, rv w.2.2.2 x0), (1, rv w.2.2.2 x1), (2, Value.int x2), (3, Value.int x3), (4, rv w.2.2.2 x4), (5, rv w.2.2.2 x5)] from by simp [lv_args, rv_cat, cat_int, cat_long]]
    refine g_lv [0, 1, 2, 3, 4, 5] rfl ?_
    exact W_X7_begin_0 X Tt hR hV)
def V_X7_fail_0 (w : Wd) (sh : List Sh) (x0 : Nat) (x1 : Int32) (x2 : Int32) (h : Hp)  (RET : Int32 → Hp → Prop) : Prop :=
  shAt sh x0 = some (.inr 7) ∧ (∀ h2 : Hp, h2 = wI h x0 12 x1 → (∀ h4 : Hp, h4 = wI h2 x0 13 x2 → (RET (0 : Int32) h4)))
set_option maxRecDepth 20000 in
set_option maxHeartbeats 4000000 in
theorem W_X7_fail_0 {w : Wd} {E : GE} {sh : List Sh} {x0 : Nat} {x1 : Int32} {x2 : Int32} {h : Hp}  {RET : Int32 → Hp → Prop} (X : Cx w E cX7_fail 3 RX7) (Tt : Rt w E (some .boolean) sh.length 0 0 (fun q sh9 h9 => ∃ v : Int32, q = some (Value.int v) ∧ sh9 = sh ∧ RET v h9)) (hR : gR E = { frames := 0, cells := 0, slots := 0, locals := 0 }) (hV : V_X7_fail_0 w sh x0 x1 x2 h RET) : G w E 3 0 [(0, rv w.2.2.2 x0), (1, Value.int x1), (2, Value.int x2)] [] sh h 0 0 := by
  unfold V_X7_fail_0 at hV
  refine g_aload_n (pc := 0) X 0 rfl rfl dX7_fail_0 ?_
  refine g_iload_n (pc := 1) X 1 rfl rfl dX7_fail_1 ?_
  obtain ⟨q1, hV⟩ := hV
  refine g_putI (pc := 2) X fl_X7_49 q1 rfl rfl dX7_fail_2 (fun h2 e3 => ?_)
  have hV := hV h2 e3
  refine g_aload_n (pc := 5) X 0 rfl rfl dX7_fail_5 ?_
  refine g_iload_n (pc := 6) X 2 rfl rfl dX7_fail_6 ?_
  refine g_putI (pc := 7) X fl_X7_53 q1 rfl rfl dX7_fail_7 (fun h4 e5 => ?_)
  have hV := hV h4 e5
  refine g_iconst (pc := 10) (v := (0 : Int32)) X dX7_fail_10 (by decide) ?_
  exact g_zret (pc := 11) X Tt (by decide) ⟨_, rfl, rfl, hV⟩ dX7_fail_11
def C_X7_fail (w : Wd) (sh : List Sh) (x0 : Nat) (x1 : Int32) (x2 : Int32) (h : Hp) (RET : Int32 → Hp → Prop) : Prop := CI w yX7_fail (.code yX7_fail cX7_fail 3 (some .boolean)) 0 0 [rv w.2.2.2 x0, Value.int x1, Value.int x2] sh h RET
theorem K_X7_fail {w : Wd} {sh : List Sh} {x0 : Nat} {x1 : Int32} {x2 : Int32} {h : Hp} {RET : Int32 → Hp → Prop} (hV : V_X7_fail_0 w sh x0 x1 x2 h RET) : C_X7_fail w sh x0 x1 x2 h RET :=
  Ct_of (by decide +kernel) (by simp [lg_sl, rv_cat, cat_int, cat_long]) (fun E X Tt hR _ => by
    rw [show lv_args 0 [rv w.2.2.2 x0, Value.int x1, Value.int x2] = [(0, rv w.2.2.2 x0), (1, Value.int x1), (2, Value.int x2)] from by simp [lv_args, rv_cat, cat_int, cat_long]]
    refine g_lv [0, 1, 2] rfl ?_
    exact W_X7_fail_0 X Tt hR hV)
def V_X7_lacks_0 (w : Wd) (sh : List Sh) (x0 : Nat) (x1 : Int64) (h : Hp)  (RET : Int32 → Hp → Prop) : Prop :=
  shAt sh x0 = some (.inr 7) ∧ (shAt sh (h.2.1 x0 4) = some (.inr 2) ∧ (∃ P3 : Int32 → Hp → Prop, C_X2_left w sh (h.2.1 x0 4) h P3 ∧ (∀ (v7 : Int32) (h6 : Hp), P3 v7 h6 → ((((lg_cmp x1 (v7.toInt64)) ≤ 0) → (RET (0 : Int32) h6)) ∧ ((¬ (lg_cmp x1 (v7.toInt64)) ≤ 0) → (shAt sh (h6.2.1 x0 4) = some (.inr 2) ∧ (∃ P10 : Int32 → Hp → Prop, C_X7_fail w sh x0 (1 : Int32) (h6.1 (h6.2.1 x0 4) 2) h6 P10 ∧ (∀ (v14 : Int32) (h13 : Hp), P10 v14 h13 → (RET (1 : Int32) h13)))))))))
set_option maxRecDepth 20000 in
set_option maxHeartbeats 4000000 in
theorem W_X7_lacks_0 {w : Wd} {E : GE} {sh : List Sh} {x0 : Nat} {x1 : Int64} {h : Hp}  {RET : Int32 → Hp → Prop} (X : Cx w E cX7_lacks 3 RX7) (Tt : Rt w E (some .boolean) sh.length 0 0 (fun q sh9 h9 => ∃ v : Int32, q = some (Value.int v) ∧ sh9 = sh ∧ RET v h9)) (hR : gR E = { frames := 1, cells := 0, slots := 0, locals := 22 }) (hV : V_X7_lacks_0 w sh x0 x1 h RET) : G w E 3 0 [(0, rv w.2.2.2 x0), (1, Value.long x1)] [] sh h 0 0 := by
  unfold V_X7_lacks_0 at hV
  refine g_lload_n (pc := 0) X 1 rfl rfl dX7_lacks_0 ?_
  refine g_aload_n (pc := 1) X 0 rfl rfl dX7_lacks_1 ?_
  obtain ⟨q1, hV⟩ := hV
  refine g_getR (pc := 2) X fl_X7_12 q1 dX7_lacks_2 ?_
  obtain ⟨q2, hV⟩ := hV
  obtain ⟨P3, t4, hV⟩ := hV
  refine g_cVI (pc := 5) X (As := []) ml_X7_107 rfl q2 t4 (by rw [hR]; exact ⟨by decide, by decide, by decide, by decide⟩) rfl rfl (Nat.le_of_ble_eq_true rfl) dX7_lacks_5 (fun v7 h6 p5 => ?_)
  have hV := hV v7 h6 p5
  refine g_i2l (pc := 8) X dX7_lacks_8 ?_
  refine g_lcmp (pc := 9) X dX7_lacks_9 ?_
  refine g_if_le (pc := 10) X 28 dX7_lacks_10 (by decide) (fun c8 => ?_) (fun c8 => ?_)
  · have hV := hV.1 c8
    refine g_iconst (pc := 28) (v := (0 : Int32)) X dX7_lacks_28 (by decide) ?_
    exact g_zret (pc := 29) X Tt (by decide) ⟨_, rfl, rfl, hV⟩ dX7_lacks_29
  · have hV := hV.2 c8
    refine g_aload_n (pc := 13) X 0 rfl rfl dX7_lacks_13 ?_
    refine g_iconst (pc := 14) (v := (1 : Int32)) X dX7_lacks_14 (by decide) ?_
    refine g_aload_n (pc := 15) X 0 rfl rfl dX7_lacks_15 ?_
    refine g_getR (pc := 16) X fl_X7_12 q1 dX7_lacks_16 ?_
    obtain ⟨q9, hV⟩ := hV
    refine g_getI (pc := 19) X fl_X7_111 q9 dX7_lacks_19 ?_
    obtain ⟨P10, t11, hV⟩ := hV
    refine g_cVI (pc := 22) X (As := [Value.int (1 : Int32), Value.int (h6.1 (h6.2.1 x0 4) 2)]) ml_X7_114 rfl q1 t11 (by rw [hR]; exact ⟨by decide, by decide, by decide, by decide⟩) rfl rfl (Nat.zero_le _) dX7_lacks_22 (fun v14 h13 p12 => ?_)
    have hV := hV v14 h13 p12
    refine g_pop (pc := 25) X dX7_lacks_25 (rfl) ?_
    refine g_iconst (pc := 26) (v := (1 : Int32)) X dX7_lacks_26 (by decide) ?_
    exact g_zret (pc := 27) X Tt (by decide) ⟨_, rfl, rfl, hV⟩ dX7_lacks_27
def C_X7_lacks (w : Wd) (sh : List Sh) (x0 : Nat) (x1 : Int64) (h : Hp) (RET : Int32 → Hp → Prop) : Prop := CI w yX7_lacks (.code yX7_lacks cX7_lacks 3 (some .boolean)) 1 22 [rv w.2.2.2 x0, Value.long x1] sh h RET
theorem K_X7_lacks {w : Wd} {sh : List Sh} {x0 : Nat} {x1 : Int64} {h : Hp} {RET : Int32 → Hp → Prop} (hV : V_X7_lacks_0 w sh x0 x1 h RET) : C_X7_lacks w sh x0 x1 h RET :=
  Ct_of (by decide +kernel) (by simp [lg_sl, rv_cat, cat_int, cat_long]) (fun E X Tt hR _ => by
    rw [show lv_args 0 [rv w.2.2.2 x0, Value.long x1] = [(0, rv w.2.2.2 x0), (1, Value.long x1)] from by simp [lv_args, rv_cat, cat_int, cat_long]]
    refine g_lv [0, 1] rfl ?_
    exact W_X7_lacks_0 X Tt hR hV)
def V_X7_readBig_0 (w : Wd) (sh : List Sh) (x0 : Nat) (h : Hp)  (RET : Int64 → Hp → Prop) : Prop :=
  shAt sh x0 = some (.inr 7) ∧ (shAt sh (h.2.1 x0 4) = some (.inr 2) ∧ (∀ y3 : Int32, y3 = (h.1 (h.2.1 x0 4) 1) → (∃ P5 : Int64 → Hp → Prop, C_X2_nextBig w sh (h.2.1 x0 4) h P5 ∧ (∀ (v9 : Int64) (h8 : Hp), P5 v9 h8 → (∀ y10 : Int64, y10 = v9 → (((¬ (lg_cmp y10 (-2 : Int64)) = 0) → (((¬ (lg_cmp y10 (-1 : Int64)) = 0) → (RET y10 h8)) ∧ (((lg_cmp y10 (-1 : Int64)) = 0) → (∃ P14 : Int32 → Hp → Prop, C_X7_fail w sh x0 (3 : Int32) y3 h8 P14 ∧ (∀ (v18 : Int32) (h17 : Hp), P14 v18 h17 → (RET y10 h17)))))) ∧ (((lg_cmp y10 (-2 : Int64)) = 0) → (shAt sh (h8.2.1 x0 4) = some (.inr 2) ∧ (∃ P20 : Int32 → Hp → Prop, C_X7_fail w sh x0 (1 : Int32) (h8.1 (h8.2.1 x0 4) 2) h8 P20 ∧ (∀ (v24 : Int32) (h23 : Hp), P20 v24 h23 → (RET y10 h23)))))))))))
set_option maxRecDepth 20000 in
set_option maxHeartbeats 4000000 in
theorem W_X7_readBig_0 {w : Wd} {E : GE} {sh : List Sh} {x0 : Nat} {h : Hp}  {RET : Int64 → Hp → Prop} (X : Cx w E cX7_readBig 4 RX7) (Tt : Rt w E (some .long) sh.length 0 0 (fun q sh9 h9 => ∃ v : Int64, q = some (Value.long v) ∧ sh9 = sh ∧ RET v h9)) (hR : gR E = { frames := 2, cells := 0, slots := 0, locals := 45 }) (hV : V_X7_readBig_0 w sh x0 h RET) : G w E 4 0 [(0, rv w.2.2.2 x0)] [] sh h 0 0 := by
  unfold V_X7_readBig_0 at hV
  refine g_aload_n (pc := 0) X 0 rfl rfl dX7_readBig_0 ?_
  obtain ⟨q1, hV⟩ := hV
  refine g_getR (pc := 1) X fl_X7_12 q1 dX7_readBig_1 ?_
  obtain ⟨q2, hV⟩ := hV
  refine g_getI (pc := 4) X fl_X7_104 q2 dX7_readBig_4 ?_
  refine g_istore_n (pc := 7) X (i := 1) (rest := [(0, rv w.2.2.2 x0)]) rfl (by decide) (by simp [flt1, flt2, rv_cat, cat_int, cat_long]) dX7_readBig_7 (fun y3 e4 => ?_)
  have hV := hV y3 e4
  refine g_aload_n (pc := 8) X 1 rfl rfl dX7_readBig_8 ?_
  refine g_getR (pc := 9) X fl_X7_12 q1 dX7_readBig_9 ?_
  obtain ⟨P5, t6, hV⟩ := hV
  refine g_cVJ (pc := 12) X (As := []) ml_X7_118 rfl q2 t6 (by rw [hR]; exact ⟨by decide, by decide, by decide, by decide⟩) rfl rfl (Nat.zero_le _) dX7_readBig_12 (fun v9 h8 p7 => ?_)
  have hV := hV v9 h8 p7
  refine g_lstore_n (pc := 15) X (i := 2) (rest := [(1, Value.int y3), (0, rv w.2.2.2 x0)]) rfl (by decide) rfl dX7_readBig_15 (fun y10 e11 => ?_)
  have hV := hV y10 e11
  refine g_lload_n (pc := 16) X 0 rfl rfl dX7_readBig_16 ?_
  refine g_ldc2 (pc := 17) X kc_X7_122 dX7_readBig_17 ?_
  refine g_lcmp (pc := 20) X dX7_readBig_20 ?_
  refine g_if_ne (pc := 21) X 40 dX7_readBig_21 (by decide) (fun c12 => ?_) (fun c12 => ?_)
  · have hV := hV.1 c12
    refine g_lload_n (pc := 40) X 0 rfl rfl dX7_readBig_40 ?_
    refine g_ldc2 (pc := 41) X kc_X7_124 dX7_readBig_41 ?_
    refine g_lcmp (pc := 44) X dX7_readBig_44 ?_
    refine g_if_ne (pc := 45) X 55 dX7_readBig_45 (by decide) (fun c13 => ?_) (fun c13 => ?_)
    · have hV := hV.1 c13
      refine g_lload_n (pc := 55) X 0 rfl rfl dX7_readBig_55 ?_
      exact g_lret (pc := 56) X Tt ⟨_, rfl, rfl, hV⟩ dX7_readBig_56
    · have hV := hV.2 c13
      refine g_aload_n (pc := 48) X 2 rfl rfl dX7_readBig_48 ?_
      refine g_iconst (pc := 49) (v := (3 : Int32)) X dX7_readBig_49 (by decide) ?_
      refine g_iload_n (pc := 50) X 1 rfl rfl dX7_readBig_50 ?_
      obtain ⟨P14, t15, hV⟩ := hV
      refine g_cVI (pc := 51) X (As := [Value.int (3 : Int32), Value.int y3]) ml_X7_114 rfl q1 t15 (by rw [hR]; exact ⟨by decide, by decide, by decide, by decide⟩) rfl rfl (Nat.zero_le _) dX7_readBig_51 (fun v18 h17 p16 => ?_)
      have hV := hV v18 h17 p16
      refine g_pop (pc := 54) X dX7_readBig_54 (rfl) ?_
      refine g_lload_n (pc := 55) X 0 rfl rfl dX7_readBig_55 ?_
      exact g_lret (pc := 56) X Tt ⟨_, rfl, rfl, hV⟩ dX7_readBig_56
  · have hV := hV.2 c12
    refine g_aload_n (pc := 24) X 2 rfl rfl dX7_readBig_24 ?_
    refine g_iconst (pc := 25) (v := (1 : Int32)) X dX7_readBig_25 (by decide) ?_
    refine g_aload_n (pc := 26) X 2 rfl rfl dX7_readBig_26 ?_
    refine g_getR (pc := 27) X fl_X7_12 q1 dX7_readBig_27 ?_
    obtain ⟨q19, hV⟩ := hV
    refine g_getI (pc := 30) X fl_X7_111 q19 dX7_readBig_30 ?_
    obtain ⟨P20, t21, hV⟩ := hV
    refine g_cVI (pc := 33) X (As := [Value.int (1 : Int32), Value.int (h8.1 (h8.2.1 x0 4) 2)]) ml_X7_114 rfl q1 t21 (by rw [hR]; exact ⟨by decide, by decide, by decide, by decide⟩) rfl rfl (Nat.zero_le _) dX7_readBig_33 (fun v24 h23 p22 => ?_)
    have hV := hV v24 h23 p22
    refine g_pop (pc := 36) X dX7_readBig_36 (rfl) ?_
    refine g_goto (pc := 37) X 55 dX7_readBig_37 (by decide) ?_
    refine g_lload_n (pc := 55) X 0 rfl rfl dX7_readBig_55 ?_
    exact g_lret (pc := 56) X Tt ⟨_, rfl, rfl, hV⟩ dX7_readBig_56
def C_X7_readBig (w : Wd) (sh : List Sh) (x0 : Nat) (h : Hp) (RET : Int64 → Hp → Prop) : Prop := CJ w yX7_readBig (.code yX7_readBig cX7_readBig 4 (some .long)) 2 45 [rv w.2.2.2 x0] sh h RET
theorem K_X7_readBig {w : Wd} {sh : List Sh} {x0 : Nat} {h : Hp} {RET : Int64 → Hp → Prop} (hV : V_X7_readBig_0 w sh x0 h RET) : C_X7_readBig w sh x0 h RET :=
  Ct_of (by decide +kernel) (by simp [lg_sl, rv_cat, cat_int, cat_long]) (fun E X Tt hR _ => by
    rw [show lv_args 0 [rv w.2.2.2 x0] = [(0, rv w.2.2.2 x0)] from by simp [lv_args, rv_cat, cat_int, cat_long]]
    refine g_lv [0] rfl ?_
    exact W_X7_readBig_0 X Tt hR hV)
def V_X7_readTableHead_69 (w : Wd) (sh : List Sh) (x0 : Nat) (h : Hp)  (RET : Hp → Prop) : Prop :=
  shAt sh x0 = some (.inr 7) ∧ (∃ P2 : Int32 → Hp → Prop, C_X7_fail w sh x0 (5 : Int32) (h.1 x0 15) h P2 ∧ (∀ (v6 : Int32) (h5 : Hp), P2 v6 h5 → (RET h5)))
set_option maxRecDepth 20000 in
set_option maxHeartbeats 4000000 in
theorem W_X7_readTableHead_69 {w : Wd} {E : GE} {sh : List Sh} {x0 : Nat} {h : Hp}  {RET : Hp → Prop} (X : Cx w E cX7_readTableHead 3 RX7) (Tt : Rt w E none sh.length 0 0 (fun q sh9 h9 => q = none ∧ sh9 = sh ∧ RET h9)) (hR : gR E = { frames := 3, cells := 0, slots := 0, locals := 68 }) (hV : V_X7_readTableHead_69 w sh x0 h RET) : G w E 3 69 [(0, rv w.2.2.2 x0)] [] sh h 0 0 := by
  unfold V_X7_readTableHead_69 at hV
  refine g_aload_n (pc := 69) X 0 rfl rfl dX7_readTableHead_69 ?_
  refine g_iconst (pc := 70) (v := (5 : Int32)) X dX7_readTableHead_70 (by decide) ?_
  refine g_aload_n (pc := 71) X 0 rfl rfl dX7_readTableHead_71 ?_
  obtain ⟨q1, hV⟩ := hV
  refine g_getI (pc := 72) X fl_X7_98 q1 dX7_readTableHead_72 ?_
  obtain ⟨P2, t3, hV⟩ := hV
  refine g_cVI (pc := 75) X (As := [Value.int (5 : Int32), Value.int (h.1 x0 15)]) ml_X7_114 rfl q1 t3 (by rw [hR]; exact ⟨by decide, by decide, by decide, by decide⟩) rfl rfl (Nat.zero_le _) dX7_readTableHead_75 (fun v6 h5 p4 => ?_)
  have hV := hV v6 h5 p4
  refine g_pop (pc := 78) X dX7_readTableHead_78 (rfl) ?_
  exact g_vret (pc := 79) X Tt ⟨rfl, rfl, hV⟩ dX7_readTableHead_79
def V_X7_readTableHead_0 (w : Wd) (sh : List Sh) (x0 : Nat) (h : Hp)  (RET : Hp → Prop) : Prop :=
  shAt sh x0 = some (.inr 7) ∧ (∃ P2 : Int64 → Hp → Prop, C_X7_readBig w sh x0 h P2 ∧ (∀ (v6 : Int64) (h5 : Hp), P2 v6 h5 → (∀ y7 : Int64, y7 = v6 → (shAt sh (h5.2.1 x0 4) = some (.inr 2) ∧ (∀ h10 : Hp, h10 = wI h5 x0 15 (h5.1 (h5.2.1 x0 4) 1) → ((((lg_cmp y7 (0 : Int64)) < 0) → (RET h10)) ∧ ((¬ (lg_cmp y7 (0 : Int64)) < 0) → (∃ P13 : Int32 → Hp → Prop, C_X7_lacks w sh x0 y7 h10 P13 ∧ (∀ (v17 : Int32) (h16 : Hp), P13 v17 h16 → (((v17 = 0) → (∀ h19 : Hp, h19 = wI h16 x0 16 (y7.toInt32) → ((((lg_cmp y7 (2 : Int64)) < 0) → (V_X7_readTableHead_69 w sh x0 h19 RET)) ∧ ((¬ (lg_cmp y7 (2 : Int64)) < 0) → (shAt sh (h16.2.1 x0 4) = some (.inr 2) ∧ (∃ P23 : Int32 → Hp → Prop, C_X2_next w sh (h16.2.1 x0 4) h19 P23 ∧ (∀ (v27 : Int32) (h26 : Hp), P23 v27 h26 → ((((32 : Int32) < v27) → (V_X7_readTableHead_69 w sh x0 h26 RET)) ∧ ((¬ (32 : Int32) < v27) → (shAt sh (h26.2.1 x0 4) = some (.inr 2) ∧ (∃ P30 : Int32 → Hp → Prop, C_X2_next w sh (h26.2.1 x0 4) h26 P30 ∧ (∀ (v34 : Int32) (h33 : Hp), P30 v34 h33 → (((v34 ≤ (16 : Int32)) → (RET h33)) ∧ ((¬ v34 ≤ (16 : Int32)) → (V_X7_readTableHead_69 w sh x0 h33 RET))))))))))))))) ∧ ((¬ v17 = 0) → (RET h16))))))))))))
set_option maxRecDepth 20000 in
set_option maxHeartbeats 4000000 in
theorem W_X7_readTableHead_0 {w : Wd} {E : GE} {sh : List Sh} {x0 : Nat} {h : Hp}  {RET : Hp → Prop} (X : Cx w E cX7_readTableHead 3 RX7) (Tt : Rt w E none sh.length 0 0 (fun q sh9 h9 => q = none ∧ sh9 = sh ∧ RET h9)) (hR : gR E = { frames := 3, cells := 0, slots := 0, locals := 68 }) (hV : V_X7_readTableHead_0 w sh x0 h RET) : G w E 3 0 [(0, rv w.2.2.2 x0)] [] sh h 0 0 := by
  unfold V_X7_readTableHead_0 at hV
  refine g_aload_n (pc := 0) X 0 rfl rfl dX7_readTableHead_0 ?_
  obtain ⟨q1, hV⟩ := hV
  obtain ⟨P2, t3, hV⟩ := hV
  refine g_cVJ (pc := 1) X (As := []) ml_X7_142 rfl q1 t3 (by rw [hR]; exact ⟨by decide, by decide, by decide, by decide⟩) rfl rfl (Nat.zero_le _) dX7_readTableHead_1 (fun v6 h5 p4 => ?_)
  have hV := hV v6 h5 p4
  refine g_lstore_n (pc := 4) X (i := 1) (rest := [(0, rv w.2.2.2 x0)]) rfl (by decide) (by simp [flt1, flt2, rv_cat, cat_int, cat_long]) dX7_readTableHead_4 (fun y7 e8 => ?_)
  have hV := hV y7 e8
  refine g_aload_n (pc := 5) X 1 rfl rfl dX7_readTableHead_5 ?_
  refine g_aload_n (pc := 6) X 1 rfl rfl dX7_readTableHead_6 ?_
  refine g_getR (pc := 7) X fl_X7_12 q1 dX7_readTableHead_7 ?_
  obtain ⟨q9, hV⟩ := hV
  refine g_getI (pc := 10) X fl_X7_104 q9 dX7_readTableHead_10 ?_
  refine g_putI (pc := 13) X fl_X7_98 q1 rfl rfl dX7_readTableHead_13 (fun h10 e11 => ?_)
  have hV := hV h10 e11
  refine g_lload_n (pc := 16) X 0 rfl rfl dX7_readTableHead_16 ?_
  refine g_lconst (pc := 17) (v := (0 : Int64)) X dX7_readTableHead_17 (by decide) ?_
  refine g_lcmp (pc := 18) X dX7_readTableHead_18 ?_
  refine g_if_lt (pc := 19) X 30 dX7_readTableHead_19 (by decide) (fun c12 => ?_) (fun c12 => ?_)
  · have hV := hV.1 c12
    exact g_vret (pc := 30) X Tt ⟨rfl, rfl, hV⟩ dX7_readTableHead_30
  · have hV := hV.2 c12
    refine g_aload_n (pc := 22) X 1 rfl rfl dX7_readTableHead_22 ?_
    refine g_lload_n (pc := 23) X 0 rfl rfl dX7_readTableHead_23 ?_
    obtain ⟨P13, t14, hV⟩ := hV
    refine g_cVI (pc := 24) X (As := [Value.long y7]) ml_X7_128 rfl q1 t14 (by rw [hR]; exact ⟨by decide, by decide, by decide, by decide⟩) rfl rfl (Nat.zero_le _) dX7_readTableHead_24 (fun v17 h16 p15 => ?_)
    have hV := hV v17 h16 p15
    refine g_if_eq (pc := 27) X 31 dX7_readTableHead_27 (by decide) (fun c18 => ?_) (fun c18 => ?_)
    · have hV := hV.1 c18
      refine g_aload_n (pc := 31) X 1 rfl rfl dX7_readTableHead_31 ?_
      refine g_lload_n (pc := 32) X 0 rfl rfl dX7_readTableHead_32 ?_
      refine g_l2i (pc := 33) X dX7_readTableHead_33 ?_
      refine g_putI (pc := 34) X fl_X7_101 q1 rfl rfl dX7_readTableHead_34 (fun h19 e20 => ?_)
      have hV := hV h19 e20
      refine g_lload_n (pc := 37) X 0 rfl rfl dX7_readTableHead_37 ?_
      refine g_ldc2 (pc := 38) X kc_X7_145 dX7_readTableHead_38 ?_
      refine g_lcmp (pc := 41) X dX7_readTableHead_41 ?_
      refine g_if_lt (pc := 42) X 69 dX7_readTableHead_42 (by decide) (fun c21 => ?_) (fun c21 => ?_)
      · have hV := hV.1 c21
        refine g_lv [1] rfl ?_
        exact W_X7_readTableHead_69 X Tt hR hV
      · have hV := hV.2 c21
        refine g_aload_n (pc := 45) X 1 rfl rfl dX7_readTableHead_45 ?_
        refine g_getRe (pc := 46) X fl_X7_12 q1 (congrFun (congrFun (rfI e20) _) _) dX7_readTableHead_46 ?_
        obtain ⟨q22, hV⟩ := hV
        obtain ⟨P23, t24, hV⟩ := hV
        refine g_cVI (pc := 49) X (As := []) ml_X7_134 rfl q22 t24 (by rw [hR]; exact ⟨by decide, by decide, by decide, by decide⟩) rfl rfl (Nat.zero_le _) dX7_readTableHead_49 (fun v27 h26 p25 => ?_)
        have hV := hV v27 h26 p25
        refine g_bipush (pc := 52) (v := (32 : Int32)) X dX7_readTableHead_52 (by decide) ?_
        refine g_icmp_gt (pc := 54) X 69 dX7_readTableHead_54 (by decide) (fun c28 => ?_) (fun c28 => ?_)
        · have hV := hV.1 c28
          refine g_lv [1] rfl ?_
          exact W_X7_readTableHead_69 X Tt hR hV
        · have hV := hV.2 c28
          refine g_aload_n (pc := 57) X 1 rfl rfl dX7_readTableHead_57 ?_
          refine g_getR (pc := 58) X fl_X7_12 q1 dX7_readTableHead_58 ?_
          obtain ⟨q29, hV⟩ := hV
          obtain ⟨P30, t31, hV⟩ := hV
          refine g_cVI (pc := 61) X (As := []) ml_X7_134 rfl q29 t31 (by rw [hR]; exact ⟨by decide, by decide, by decide, by decide⟩) rfl rfl (Nat.zero_le _) dX7_readTableHead_61 (fun v34 h33 p32 => ?_)
          have hV := hV v34 h33 p32
          refine g_bipush (pc := 64) (v := (16 : Int32)) X dX7_readTableHead_64 (by decide) ?_
          refine g_icmp_le (pc := 66) X 79 dX7_readTableHead_66 (by decide) (fun c35 => ?_) (fun c35 => ?_)
          · have hV := hV.1 c35
            exact g_vret (pc := 79) X Tt ⟨rfl, rfl, hV⟩ dX7_readTableHead_79
          · have hV := hV.2 c35
            refine g_lv [1] rfl ?_
            exact W_X7_readTableHead_69 X Tt hR hV
    · have hV := hV.2 c18
      exact g_vret (pc := 30) X Tt ⟨rfl, rfl, hV⟩ dX7_readTableHead_30
def C_X7_readTableHead (w : Wd) (sh : List Sh) (x0 : Nat) (h : Hp) (RET : Hp → Prop) : Prop := CV w yX7_readTableHead (.code yX7_readTableHead cX7_readTableHead 3 none) 3 68 [rv w.2.2.2 x0] sh h RET
theorem K_X7_readTableHead {w : Wd} {sh : List Sh} {x0 : Nat} {h : Hp} {RET : Hp → Prop} (hV : V_X7_readTableHead_0 w sh x0 h RET) : C_X7_readTableHead w sh x0 h RET :=
  Ct_of (by decide +kernel) (by simp [lg_sl, rv_cat, cat_int, cat_long]) (fun E X Tt hR _ => by
    rw [show lv_args 0 [rv w.2.2.2 x0] = [(0, rv w.2.2.2 x0)] from by simp [lv_args, rv_cat, cat_int, cat_long]]
    refine g_lv [0] rfl ?_
    exact W_X7_readTableHead_0 X Tt hR hV)
def V_X7_readHead_24 (w : Wd) (sh : List Sh) (x0 : Nat) (x1 : Int32) (x2 : Int64) (x4 : Int32) (h : Hp) (L24 : Nat → Int32 → Int64 → Int32 → Hp → Prop) (RET : Hp → Prop) : Prop :=
  (((4 : Int32) ≤ x4) → ((((lg_cmp x2 (3603153920 : Int64)) = 0) → (shAt sh x0 = some (.inr 7) ∧ (∃ P4 : Int32 → Hp → Prop, C_X7_lacks w sh x0 (1 : Int64) h P4 ∧ (∀ (v8 : Int32) (h7 : Hp), P4 v8 h7 → (((v8 = 0) → (shAt sh (h7.2.1 x0 4) = some (.inr 2) ∧ (∃ P11 : Int32 → Hp → Prop, C_X2_next w sh (h7.2.1 x0 4) h7 P11 ∧ (∀ (v15 : Int32) (h14 : Hp), P11 v15 h14 → (∀ y16 : Int32, y16 = v15 → ((((y16 &&& ((h14.1 x0 3) ^^^ (-1 : Int32))) = 0) → (∀ h19 : Hp, h19 = wI h14 x0 14 y16 → ((((y16 &&& (2 : Int32)) = 0) → (RET h19)) ∧ ((¬ (y16 &&& (2 : Int32)) = 0) → (∃ P22 : Hp → Prop, C_X7_readTableHead w sh x0 h19 P22 ∧ (∀ h25 : Hp, P22 h25 → (RET h25))))))) ∧ ((¬ (y16 &&& ((h14.1 x0 3) ^^^ (-1 : Int32))) = 0) → (∃ P26 : Int32 → Hp → Prop, C_X7_fail w sh x0 (4 : Int32) (x1 + (4 : Int32)) h14 P26 ∧ (∀ (v30 : Int32) (h29 : Hp), P26 v30 h29 → (RET h29)))))))))) ∧ ((¬ v8 = 0) → (RET h7))))))) ∧ ((¬ (lg_cmp x2 (3603153920 : Int64)) = 0) → (shAt sh x0 = some (.inr 7) ∧ (∃ P32 : Int32 → Hp → Prop, C_X7_fail w sh x0 (2 : Int32) x1 h P32 ∧ (∀ (v36 : Int32) (h35 : Hp), P32 v36 h35 → (RET h35))))))) ∧ ((¬ (4 : Int32) ≤ x4) → (shAt sh x0 = some (.inr 7) ∧ (shAt sh (h.2.1 x0 4) = some (.inr 2) ∧ (∃ P39 : Int32 → Hp → Prop, C_X2_next w sh (h.2.1 x0 4) h P39 ∧ (∀ (v43 : Int32) (h42 : Hp), P39 v43 h42 → (∀ y44 : Int64, y44 = ((x2 * (256 : Int64)) + (v43.toInt64)) → (∀ y46 : Int32, y46 = x4 + (1 : Int32) → (L24 x0 x1 y44 y46 h42))))))))
set_option maxRecDepth 20000 in
set_option maxHeartbeats 4000000 in
theorem W_X7_readHead_24 {w : Wd} {E : GE} {sh : List Sh} {x0 : Nat} {x1 : Int32} {x2 : Int64} {x4 : Int32} {h : Hp} {L24 : Nat → Int32 → Int64 → Int32 → Hp → Prop} {RET : Hp → Prop} (X : Cx w E cX7_readHead 5 RX7) (Tt : Rt w E none sh.length 0 0 (fun q sh9 h9 => q = none ∧ sh9 = sh ∧ RET h9)) (hR : gR E = { frames := 4, cells := 0, slots := 0, locals := 90 }) (hL24 : ∀ (x0 : Nat) (x1 : Int32) (x2 : Int64) (x4 : Int32) (h : Hp), L24 x0 x1 x2 x4 h → G w E 5 24 [(0, rv w.2.2.2 x0), (1, Value.int x1), (2, Value.long x2), (4, Value.int x4)] [] sh h 0 0) (hV : V_X7_readHead_24 w sh x0 x1 x2 x4 h L24 RET) : G w E 5 24 [(0, rv w.2.2.2 x0), (1, Value.int x1), (2, Value.long x2), (4, Value.int x4)] [] sh h 0 0 := by
  unfold V_X7_readHead_24 at hV
  refine g_iload (pc := 24) X 3 rfl dX7_readHead_24 ?_
  refine g_iconst (pc := 26) (v := (4 : Int32)) X dX7_readHead_26 (by decide) ?_
  refine g_icmp_ge (pc := 27) X 51 dX7_readHead_27 (by decide) (fun c1 => ?_) (fun c1 => ?_)
  · have hV := hV.1 c1
    refine g_lload_n (pc := 51) X 2 rfl rfl dX7_readHead_51 ?_
    refine g_ldc2 (pc := 52) X kc_X7_137 dX7_readHead_52 ?_
    refine g_lcmp (pc := 55) X dX7_readHead_55 ?_
    refine g_if_eq (pc := 56) X 67 dX7_readHead_56 (by decide) (fun c2 => ?_) (fun c2 => ?_)
    · have hV := hV.1 c2
      refine g_aload_n (pc := 67) X 0 rfl rfl dX7_readHead_67 ?_
      refine g_lconst (pc := 68) (v := (1 : Int64)) X dX7_readHead_68 (by decide) ?_
      obtain ⟨q3, hV⟩ := hV
      obtain ⟨P4, t5, hV⟩ := hV
      refine g_cVI (pc := 69) X (As := [Value.long (1 : Int64)]) ml_X7_128 rfl q3 t5 (by rw [hR]; exact ⟨by decide, by decide, by decide, by decide⟩) rfl rfl (Nat.zero_le _) dX7_readHead_69 (fun v8 h7 p6 => ?_)
      have hV := hV v8 h7 p6
      refine g_if_eq (pc := 72) X 76 dX7_readHead_72 (by decide) (fun c9 => ?_) (fun c9 => ?_)
      · have hV := hV.1 c9
        refine g_aload_n (pc := 76) X 0 rfl rfl dX7_readHead_76 ?_
        refine g_getR (pc := 77) X fl_X7_12 q3 dX7_readHead_77 ?_
        obtain ⟨q10, hV⟩ := hV
        obtain ⟨P11, t12, hV⟩ := hV
        refine g_cVI (pc := 80) X (As := []) ml_X7_134 rfl q10 t12 (by rw [hR]; exact ⟨by decide, by decide, by decide, by decide⟩) rfl rfl (Nat.zero_le _) dX7_readHead_80 (fun v15 h14 p13 => ?_)
        have hV := hV v15 h14 p13
        refine g_istore (pc := 83) X (i := 4) (rest := [(0, rv w.2.2.2 x0), (1, Value.int x1), (2, Value.long x2)]) (by decide) rfl dX7_readHead_83 (fun y16 e17 => ?_)
        have hV := hV y16 e17
        refine g_iload (pc := 85) X 0 rfl dX7_readHead_85 ?_
        refine g_aload_n (pc := 87) X 1 rfl rfl dX7_readHead_87 ?_
        refine g_getI (pc := 88) X fl_X7_68 q3 dX7_readHead_88 ?_
        refine g_iconst (pc := 91) (v := (-1 : Int32)) X dX7_readHead_91 (by decide) ?_
        refine g_ixor (pc := 92) X dX7_readHead_92 ?_
        refine g_iand (pc := 93) X dX7_readHead_93 ?_
        refine g_if_eq (pc := 94) X 107 dX7_readHead_94 (by decide) (fun c18 => ?_) (fun c18 => ?_)
        · have hV := hV.1 c18
          refine g_aload_n (pc := 107) X 1 rfl rfl dX7_readHead_107 ?_
          refine g_iload (pc := 108) X 0 rfl dX7_readHead_108 ?_
          refine g_putI (pc := 110) X fl_X7_95 q3 rfl rfl dX7_readHead_110 (fun h19 e20 => ?_)
          have hV := hV h19 e20
          refine g_iload (pc := 113) X 0 rfl dX7_readHead_113 ?_
          refine g_iconst (pc := 115) (v := (2 : Int32)) X dX7_readHead_115 (by decide) ?_
          refine g_iand (pc := 116) X dX7_readHead_116 ?_
          refine g_if_eq (pc := 117) X 124 dX7_readHead_117 (by decide) (fun c21 => ?_) (fun c21 => ?_)
          · have hV := hV.1 c21
            exact g_vret (pc := 124) X Tt ⟨rfl, rfl, hV⟩ dX7_readHead_124
          · have hV := hV.2 c21
            refine g_aload_n (pc := 120) X 1 rfl rfl dX7_readHead_120 ?_
            obtain ⟨P22, t23, hV⟩ := hV
            refine g_cVV (pc := 121) X (As := []) ml_X7_139 rfl q3 t23 (by rw [hR]; exact ⟨by decide, by decide, by decide, by decide⟩) rfl rfl (Nat.zero_le _) dX7_readHead_121 (fun h25 p24 => ?_)
            have hV := hV h25 p24
            exact g_vret (pc := 124) X Tt ⟨rfl, rfl, hV⟩ dX7_readHead_124
        · have hV := hV.2 c18
          refine g_aload_n (pc := 97) X 1 rfl rfl dX7_readHead_97 ?_
          refine g_iconst (pc := 98) (v := (4 : Int32)) X dX7_readHead_98 (by decide) ?_
          refine g_iload_n (pc := 99) X 2 rfl rfl dX7_readHead_99 ?_
          refine g_iconst (pc := 100) (v := (4 : Int32)) X dX7_readHead_100 (by decide) ?_
          refine g_iadd (pc := 101) X dX7_readHead_101 ?_
          obtain ⟨P26, t27, hV⟩ := hV
          refine g_cVI (pc := 102) X (As := [Value.int (4 : Int32), Value.int (x1 + (4 : Int32))]) ml_X7_114 rfl q3 t27 (by rw [hR]; exact ⟨by decide, by decide, by decide, by decide⟩) rfl rfl (Nat.zero_le _) dX7_readHead_102 (fun v30 h29 p28 => ?_)
          have hV := hV v30 h29 p28
          refine g_pop (pc := 105) X dX7_readHead_105 (rfl) ?_
          exact g_vret (pc := 106) X Tt ⟨rfl, rfl, hV⟩ dX7_readHead_106
      · have hV := hV.2 c9
        exact g_vret (pc := 75) X Tt ⟨rfl, rfl, hV⟩ dX7_readHead_75
    · have hV := hV.2 c2
      refine g_aload_n (pc := 59) X 0 rfl rfl dX7_readHead_59 ?_
      refine g_iconst (pc := 60) (v := (2 : Int32)) X dX7_readHead_60 (by decide) ?_
      refine g_iload_n (pc := 61) X 1 rfl rfl dX7_readHead_61 ?_
      obtain ⟨q31, hV⟩ := hV
      obtain ⟨P32, t33, hV⟩ := hV
      refine g_cVI (pc := 62) X (As := [Value.int (2 : Int32), Value.int x1]) ml_X7_114 rfl q31 t33 (by rw [hR]; exact ⟨by decide, by decide, by decide, by decide⟩) rfl rfl (Nat.zero_le _) dX7_readHead_62 (fun v36 h35 p34 => ?_)
      have hV := hV v36 h35 p34
      refine g_pop (pc := 65) X dX7_readHead_65 (rfl) ?_
      exact g_vret (pc := 66) X Tt ⟨rfl, rfl, hV⟩ dX7_readHead_66
  · have hV := hV.2 c1
    refine g_lload_n (pc := 30) X 2 rfl rfl dX7_readHead_30 ?_
    refine g_ldc2 (pc := 31) X kc_X7_132 dX7_readHead_31 ?_
    refine g_lmul (pc := 34) X dX7_readHead_34 ?_
    refine g_aload_n (pc := 35) X 0 rfl rfl dX7_readHead_35 ?_
    obtain ⟨q37, hV⟩ := hV
    refine g_getR (pc := 36) X fl_X7_12 q37 dX7_readHead_36 ?_
    obtain ⟨q38, hV⟩ := hV
    obtain ⟨P39, t40, hV⟩ := hV
    refine g_cVI (pc := 39) X (As := []) ml_X7_134 rfl q38 t40 (by rw [hR]; exact ⟨by decide, by decide, by decide, by decide⟩) rfl rfl (Nat.le_of_ble_eq_true rfl) dX7_readHead_39 (fun v43 h42 p41 => ?_)
    have hV := hV v43 h42 p41
    refine g_i2l (pc := 42) X dX7_readHead_42 ?_
    refine g_ladd (pc := 43) X dX7_readHead_43 ?_
    refine g_lstore_n (pc := 44) X (i := 2) (rest := [(0, rv w.2.2.2 x0), (1, Value.int x1), (4, Value.int x4)]) rfl (by decide) rfl dX7_readHead_44 (fun y44 e45 => ?_)
    have hV := hV y44 e45
    refine g_iinc (pc := 45) X 3 (v := (1 : Int32)) (rest := [(2, Value.long y44), (0, rv w.2.2.2 x0), (1, Value.int x1)]) rfl (by decide) rfl (by decide) dX7_readHead_45 (fun y46 e47 => ?_)
    have hV := hV y46 e47
    refine g_goto (pc := 48) X 24 dX7_readHead_48 (by decide) ?_
    refine g_lv [2, 3, 1, 0] rfl ?_
    exact hL24 x0 x1 y44 y46 h42 hV
def V_X7_readHead_0 (w : Wd) (sh : List Sh) (x0 : Nat) (h : Hp) (L24 : Nat → Int32 → Int64 → Int32 → Hp → Prop) (RET : Hp → Prop) : Prop :=
  shAt sh x0 = some (.inr 7) ∧ (shAt sh (h.2.1 x0 4) = some (.inr 2) ∧ (∀ y3 : Int32, y3 = (h.1 (h.2.1 x0 4) 1) → (∃ P5 : Int32 → Hp → Prop, C_X7_lacks w sh x0 (4 : Int64) h P5 ∧ (∀ (v9 : Int32) (h8 : Hp), P5 v9 h8 → (((v9 = 0) → (∀ y11 : Int64, y11 = (0 : Int64) → (∀ y13 : Int32, y13 = (0 : Int32) → (L24 x0 y3 y11 y13 h8)))) ∧ ((¬ v9 = 0) → (RET h8)))))))
set_option maxRecDepth 20000 in
set_option maxHeartbeats 4000000 in
theorem W_X7_readHead_0 {w : Wd} {E : GE} {sh : List Sh} {x0 : Nat} {h : Hp} {L24 : Nat → Int32 → Int64 → Int32 → Hp → Prop} {RET : Hp → Prop} (X : Cx w E cX7_readHead 5 RX7) (Tt : Rt w E none sh.length 0 0 (fun q sh9 h9 => q = none ∧ sh9 = sh ∧ RET h9)) (hR : gR E = { frames := 4, cells := 0, slots := 0, locals := 90 }) (hL24 : ∀ (x0 : Nat) (x1 : Int32) (x2 : Int64) (x4 : Int32) (h : Hp), L24 x0 x1 x2 x4 h → G w E 5 24 [(0, rv w.2.2.2 x0), (1, Value.int x1), (2, Value.long x2), (4, Value.int x4)] [] sh h 0 0) (hV : V_X7_readHead_0 w sh x0 h L24 RET) : G w E 5 0 [(0, rv w.2.2.2 x0)] [] sh h 0 0 := by
  unfold V_X7_readHead_0 at hV
  refine g_aload_n (pc := 0) X 0 rfl rfl dX7_readHead_0 ?_
  obtain ⟨q1, hV⟩ := hV
  refine g_getR (pc := 1) X fl_X7_12 q1 dX7_readHead_1 ?_
  obtain ⟨q2, hV⟩ := hV
  refine g_getI (pc := 4) X fl_X7_104 q2 dX7_readHead_4 ?_
  refine g_istore_n (pc := 7) X (i := 1) (rest := [(0, rv w.2.2.2 x0)]) rfl (by decide) (by simp [flt1, flt2, rv_cat, cat_int, cat_long]) dX7_readHead_7 (fun y3 e4 => ?_)
  have hV := hV y3 e4
  refine g_aload_n (pc := 8) X 1 rfl rfl dX7_readHead_8 ?_
  refine g_ldc2 (pc := 9) X kc_X7_126 dX7_readHead_9 ?_
  obtain ⟨P5, t6, hV⟩ := hV
  refine g_cVI (pc := 12) X (As := [Value.long (4 : Int64)]) ml_X7_128 rfl q1 t6 (by rw [hR]; exact ⟨by decide, by decide, by decide, by decide⟩) rfl rfl (Nat.zero_le _) dX7_readHead_12 (fun v9 h8 p7 => ?_)
  have hV := hV v9 h8 p7
  refine g_if_eq (pc := 15) X 19 dX7_readHead_15 (by decide) (fun c10 => ?_) (fun c10 => ?_)
  · have hV := hV.1 c10
    refine g_lconst (pc := 19) (v := (0 : Int64)) X dX7_readHead_19 (by decide) ?_
    refine g_lstore_n (pc := 20) X (i := 2) (rest := [(1, Value.int y3), (0, rv w.2.2.2 x0)]) rfl (by decide) rfl dX7_readHead_20 (fun y11 e12 => ?_)
    have hV := hV y11 e12
    refine g_iconst (pc := 21) (v := (0 : Int32)) X dX7_readHead_21 (by decide) ?_
    refine g_istore (pc := 22) X (i := 4) (rest := [(2, Value.long y11), (1, Value.int y3), (0, rv w.2.2.2 x0)]) (by decide) rfl dX7_readHead_22 (fun y13 e14 => ?_)
    have hV := hV y13 e14
    refine g_lv [3, 2, 1, 0] rfl ?_
    exact hL24 x0 y3 y11 y13 h8 hV
  · have hV := hV.2 c10
    exact g_vret (pc := 18) X Tt ⟨rfl, rfl, hV⟩ dX7_readHead_18
def C_X7_readHead (w : Wd) (sh : List Sh) (x0 : Nat) (h : Hp) (RET : Hp → Prop) : Prop := CV w yX7_readHead (.code yX7_readHead cX7_readHead 5 none) 4 90 [rv w.2.2.2 x0] sh h RET
set_option maxRecDepth 20000 in
theorem K_X7_readHead {w : Wd} {sh : List Sh} {x0 : Nat} {h : Hp} {RET : Hp → Prop} {α : Type} {r : α → α → Prop} (wf : WellFounded r) (I24 : α → Nat → Int32 → Int64 → Int32 → Hp → Prop) (hE : V_X7_readHead_0 w sh x0 h (fun x0 x1 x2 x4 h => ∃ a, I24 a x0 x1 x2 x4 h) RET) (h24 : ∀ (b : α) (x0 : Nat) (x1 : Int32) (x2 : Int64) (x4 : Int32) (h : Hp), I24 b x0 x1 x2 x4 h → V_X7_readHead_24 w sh x0 x1 x2 x4 h (fun x0 x1 x2 x4 h => ∃ a, r a b ∧ I24 a x0 x1 x2 x4 h) RET) : C_X7_readHead w sh x0 h RET :=
  Ct_of (by decide +kernel) (by simp [lg_sl, rv_cat, cat_int, cat_long]) (fun E X Tt hR _ => by
    have key : ∀ a : α, (∀ (x0 : Nat) (x1 : Int32) (x2 : Int64) (x4 : Int32) (h : Hp), I24 a x0 x1 x2 x4 h → G w E 5 24 [(0, rv w.2.2.2 x0), (1, Value.int x1), (2, Value.long x2), (4, Value.int x4)] [] sh h 0 0) := by
      intro a
      induction a using wf.induction with
      | _ a ih =>
        exact (fun x0 x1 x2 x4 h hi => W_X7_readHead_24 X Tt hR (fun x0 x1 x2 x4 h hx => by obtain ⟨a2, ha, hi⟩ := hx; exact (ih a2 ha) x0 x1 x2 x4 h hi) (h24 a x0 x1 x2 x4 h hi))
    rw [show lv_args 0 [rv w.2.2.2 x0] = [(0, rv w.2.2.2 x0)] from by simp [lv_args, rv_cat, cat_int, cat_long]]
    refine g_lv [0] rfl ?_
    exact W_X7_readHead_0 X Tt hR (fun x0 x1 x2 x4 h hx => by obtain ⟨a2, hi⟩ := hx; exact (key a2) x0 x1 x2 x4 h hi) hE)
def V_X7_wantsTable_0 (w : Wd) (sh : List Sh) (x0 : Nat) (h : Hp)  (RET : Int32 → Hp → Prop) : Prop :=
  shAt sh x0 = some (.inr 7) ∧ (((¬ (h.1 x0 12) = 0) → (RET (0 : Int32) h)) ∧ (((h.1 x0 12) = 0) → (((((h.1 x0 14) &&& (2 : Int32)) = 0) → (RET (0 : Int32) h)) ∧ ((¬ ((h.1 x0 14) &&& (2 : Int32)) = 0) → (RET (1 : Int32) h)))))
set_option maxRecDepth 20000 in
set_option maxHeartbeats 4000000 in
theorem W_X7_wantsTable_0 {w : Wd} {E : GE} {sh : List Sh} {x0 : Nat} {h : Hp}  {RET : Int32 → Hp → Prop} (X : Cx w E cX7_wantsTable 1 RX7) (Tt : Rt w E (some .boolean) sh.length 0 0 (fun q sh9 h9 => ∃ v : Int32, q = some (Value.int v) ∧ sh9 = sh ∧ RET v h9)) (hR : gR E = { frames := 0, cells := 0, slots := 0, locals := 0 }) (hV : V_X7_wantsTable_0 w sh x0 h RET) : G w E 1 0 [(0, rv w.2.2.2 x0)] [] sh h 0 0 := by
  unfold V_X7_wantsTable_0 at hV
  refine g_aload_n (pc := 0) X 0 rfl rfl dX7_wantsTable_0 ?_
  obtain ⟨q1, hV⟩ := hV
  refine g_getI (pc := 1) X fl_X7_49 q1 dX7_wantsTable_1 ?_
  refine g_if_ne (pc := 4) X 20 dX7_wantsTable_4 (by decide) (fun c2 => ?_) (fun c2 => ?_)
  · have hV := hV.1 c2
    refine g_iconst (pc := 20) (v := (0 : Int32)) X dX7_wantsTable_20 (by decide) ?_
    exact g_zret (pc := 21) X Tt (by decide) ⟨_, rfl, rfl, hV⟩ dX7_wantsTable_21
  · have hV := hV.2 c2
    refine g_aload_n (pc := 7) X 0 rfl rfl dX7_wantsTable_7 ?_
    refine g_getI (pc := 8) X fl_X7_95 q1 dX7_wantsTable_8 ?_
    refine g_iconst (pc := 11) (v := (2 : Int32)) X dX7_wantsTable_11 (by decide) ?_
    refine g_iand (pc := 12) X dX7_wantsTable_12 ?_
    refine g_if_eq (pc := 13) X 20 dX7_wantsTable_13 (by decide) (fun c3 => ?_) (fun c3 => ?_)
    · have hV := hV.1 c3
      refine g_iconst (pc := 20) (v := (0 : Int32)) X dX7_wantsTable_20 (by decide) ?_
      exact g_zret (pc := 21) X Tt (by decide) ⟨_, rfl, rfl, hV⟩ dX7_wantsTable_21
    · have hV := hV.2 c3
      refine g_iconst (pc := 16) (v := (1 : Int32)) X dX7_wantsTable_16 (by decide) ?_
      refine g_goto (pc := 17) X 21 dX7_wantsTable_17 (by decide) ?_
      exact g_zret (pc := 21) X Tt (by decide) ⟨_, rfl, rfl, hV⟩ dX7_wantsTable_21
def C_X7_wantsTable (w : Wd) (sh : List Sh) (x0 : Nat) (h : Hp) (RET : Int32 → Hp → Prop) : Prop := CI w yX7_wantsTable (.code yX7_wantsTable cX7_wantsTable 1 (some .boolean)) 0 0 [rv w.2.2.2 x0] sh h RET
theorem K_X7_wantsTable {w : Wd} {sh : List Sh} {x0 : Nat} {h : Hp} {RET : Int32 → Hp → Prop} (hV : V_X7_wantsTable_0 w sh x0 h RET) : C_X7_wantsTable w sh x0 h RET :=
  Ct_of (by decide +kernel) (by simp [lg_sl, rv_cat, cat_int, cat_long]) (fun E X Tt hR _ => by
    rw [show lv_args 0 [rv w.2.2.2 x0] = [(0, rv w.2.2.2 x0)] from by simp [lv_args, rv_cat, cat_int, cat_long]]
    refine g_lv [0] rfl ?_
    exact W_X7_wantsTable_0 X Tt hR hV)
def V_X7_reached_0 (w : Wd) (sh : List Sh) (x0 : Nat) (h : Hp)  (RET : Int32 → Hp → Prop) : Prop :=
  shAt sh x0 = some (.inr 7) ∧ (shAt sh (h.2.1 x0 4) = some (.inr 2) ∧ (RET (h.1 (h.2.1 x0 4) 1) h))
set_option maxRecDepth 20000 in
set_option maxHeartbeats 4000000 in
theorem W_X7_reached_0 {w : Wd} {E : GE} {sh : List Sh} {x0 : Nat} {h : Hp}  {RET : Int32 → Hp → Prop} (X : Cx w E cX7_reached 1 RX7) (Tt : Rt w E (some .int) sh.length 0 0 (fun q sh9 h9 => ∃ v : Int32, q = some (Value.int v) ∧ sh9 = sh ∧ RET v h9)) (hR : gR E = { frames := 0, cells := 0, slots := 0, locals := 0 }) (hV : V_X7_reached_0 w sh x0 h RET) : G w E 1 0 [(0, rv w.2.2.2 x0)] [] sh h 0 0 := by
  unfold V_X7_reached_0 at hV
  refine g_aload_n (pc := 0) X 0 rfl rfl dX7_reached_0 ?_
  obtain ⟨q1, hV⟩ := hV
  refine g_getR (pc := 1) X fl_X7_12 q1 dX7_reached_1 ?_
  obtain ⟨q2, hV⟩ := hV
  refine g_getI (pc := 4) X fl_X7_104 q2 dX7_reached_4 ?_
  exact g_iret (pc := 7) X Tt ⟨_, rfl, rfl, hV⟩ dX7_reached_7
def C_X7_reached (w : Wd) (sh : List Sh) (x0 : Nat) (h : Hp) (RET : Int32 → Hp → Prop) : Prop := CI w yX7_reached (.code yX7_reached cX7_reached 1 (some .int)) 0 0 [rv w.2.2.2 x0] sh h RET
theorem K_X7_reached {w : Wd} {sh : List Sh} {x0 : Nat} {h : Hp} {RET : Int32 → Hp → Prop} (hV : V_X7_reached_0 w sh x0 h RET) : C_X7_reached w sh x0 h RET :=
  Ct_of (by decide +kernel) (by simp [lg_sl, rv_cat, cat_int, cat_long]) (fun E X Tt hR _ => by
    rw [show lv_args 0 [rv w.2.2.2 x0] = [(0, rv w.2.2.2 x0)] from by simp [lv_args, rv_cat, cat_int, cat_long]]
    refine g_lv [0] rfl ?_
    exact W_X7_reached_0 X Tt hR hV)
def V_X7_tableEnd_0 (w : Wd) (sh : List Sh) (x0 : Nat) (h : Hp)  (RET : Int32 → Hp → Prop) : Prop :=
  shAt sh x0 = some (.inr 7) ∧ (RET ((h.1 x0 15) + (h.1 x0 16)) h)
set_option maxRecDepth 20000 in
set_option maxHeartbeats 4000000 in
theorem W_X7_tableEnd_0 {w : Wd} {E : GE} {sh : List Sh} {x0 : Nat} {h : Hp}  {RET : Int32 → Hp → Prop} (X : Cx w E cX7_tableEnd 1 RX7) (Tt : Rt w E (some .int) sh.length 0 0 (fun q sh9 h9 => ∃ v : Int32, q = some (Value.int v) ∧ sh9 = sh ∧ RET v h9)) (hR : gR E = { frames := 0, cells := 0, slots := 0, locals := 0 }) (hV : V_X7_tableEnd_0 w sh x0 h RET) : G w E 1 0 [(0, rv w.2.2.2 x0)] [] sh h 0 0 := by
  unfold V_X7_tableEnd_0 at hV
  refine g_aload_n (pc := 0) X 0 rfl rfl dX7_tableEnd_0 ?_
  obtain ⟨q1, hV⟩ := hV
  refine g_getI (pc := 1) X fl_X7_98 q1 dX7_tableEnd_1 ?_
  refine g_aload_n (pc := 4) X 0 rfl rfl dX7_tableEnd_4 ?_
  refine g_getI (pc := 5) X fl_X7_101 q1 dX7_tableEnd_5 ?_
  refine g_iadd (pc := 8) X dX7_tableEnd_8 ?_
  exact g_iret (pc := 9) X Tt ⟨_, rfl, rfl, hV⟩ dX7_tableEnd_9
def C_X7_tableEnd (w : Wd) (sh : List Sh) (x0 : Nat) (h : Hp) (RET : Int32 → Hp → Prop) : Prop := CI w yX7_tableEnd (.code yX7_tableEnd cX7_tableEnd 1 (some .int)) 0 0 [rv w.2.2.2 x0] sh h RET
theorem K_X7_tableEnd {w : Wd} {sh : List Sh} {x0 : Nat} {h : Hp} {RET : Int32 → Hp → Prop} (hV : V_X7_tableEnd_0 w sh x0 h RET) : C_X7_tableEnd w sh x0 h RET :=
  Ct_of (by decide +kernel) (by simp [lg_sl, rv_cat, cat_int, cat_long]) (fun E X Tt hR _ => by
    rw [show lv_args 0 [rv w.2.2.2 x0] = [(0, rv w.2.2.2 x0)] from by simp [lv_args, rv_cat, cat_int, cat_long]]
    refine g_lv [0] rfl ?_
    exact W_X7_tableEnd_0 X Tt hR hV)
def V_X7_readAppendix_0 (w : Wd) (sh : List Sh) (x0 : Nat) (h : Hp)  (RET : Hp → Prop) : Prop :=
  shAt sh x0 = some (.inr 7) ∧ (((¬ (h.1 x0 12) = 0) → (RET h)) ∧ (((h.1 x0 12) = 0) → (((¬ ((h.1 x0 14) &&& (4 : Int32)) = 0) → (∃ P4 : Int64 → Hp → Prop, C_X7_readBig w sh x0 h P4 ∧ (∀ (v8 : Int64) (h7 : Hp), P4 v8 h7 → (∀ y9 : Int64, y9 = v8 → ((((lg_cmp y9 (0 : Int64)) < 0) → (RET h7)) ∧ ((¬ (lg_cmp y9 (0 : Int64)) < 0) → (∃ P12 : Int32 → Hp → Prop, C_X7_lacks w sh x0 y9 h7 P12 ∧ (∀ (v16 : Int32) (h15 : Hp), P12 v16 h15 → (((v16 = 0) → (shAt sh (h15.2.1 x0 2) = some (.inr 4) ∧ (∃ P19 : Hp → Prop, C_X4_count w sh (h15.2.1 x0 2) (6 : Int32) (y9.toInt32) h15 P19 ∧ (∀ h22 : Hp, P19 h22 → (shAt sh (h22.2.1 x0 4) = some (.inr 2) ∧ (∃ P24 : Hp → Prop, C_X2_pass w sh (h22.2.1 x0 4) (y9.toInt32) h22 P24 ∧ (∀ h27 : Hp, P24 h27 → (RET h27)))))))) ∧ ((¬ v16 = 0) → (RET h15))))))))))) ∧ ((((h.1 x0 14) &&& (4 : Int32)) = 0) → (RET h)))))
set_option maxRecDepth 20000 in
set_option maxHeartbeats 4000000 in
theorem W_X7_readAppendix_0 {w : Wd} {E : GE} {sh : List Sh} {x0 : Nat} {h : Hp}  {RET : Hp → Prop} (X : Cx w E cX7_readAppendix 3 RX7) (Tt : Rt w E none sh.length 0 0 (fun q sh9 h9 => q = none ∧ sh9 = sh ∧ RET h9)) (hR : gR E = { frames := 3, cells := 0, slots := 0, locals := 68 }) (hV : V_X7_readAppendix_0 w sh x0 h RET) : G w E 3 0 [(0, rv w.2.2.2 x0)] [] sh h 0 0 := by
  unfold V_X7_readAppendix_0 at hV
  refine g_aload_n (pc := 0) X 0 rfl rfl dX7_readAppendix_0 ?_
  obtain ⟨q1, hV⟩ := hV
  refine g_getI (pc := 1) X fl_X7_49 q1 dX7_readAppendix_1 ?_
  refine g_if_ne (pc := 4) X 16 dX7_readAppendix_4 (by decide) (fun c2 => ?_) (fun c2 => ?_)
  · have hV := hV.1 c2
    exact g_vret (pc := 16) X Tt ⟨rfl, rfl, hV⟩ dX7_readAppendix_16
  · have hV := hV.2 c2
    refine g_aload_n (pc := 7) X 0 rfl rfl dX7_readAppendix_7 ?_
    refine g_getI (pc := 8) X fl_X7_95 q1 dX7_readAppendix_8 ?_
    refine g_iconst (pc := 11) (v := (4 : Int32)) X dX7_readAppendix_11 (by decide) ?_
    refine g_iand (pc := 12) X dX7_readAppendix_12 ?_
    refine g_if_ne (pc := 13) X 17 dX7_readAppendix_13 (by decide) (fun c3 => ?_) (fun c3 => ?_)
    · have hV := hV.1 c3
      refine g_aload_n (pc := 17) X 0 rfl rfl dX7_readAppendix_17 ?_
      obtain ⟨P4, t5, hV⟩ := hV
      refine g_cVJ (pc := 18) X (As := []) ml_X7_142 rfl q1 t5 (by rw [hR]; exact ⟨by decide, by decide, by decide, by decide⟩) rfl rfl (Nat.zero_le _) dX7_readAppendix_18 (fun v8 h7 p6 => ?_)
      have hV := hV v8 h7 p6
      refine g_lstore_n (pc := 21) X (i := 1) (rest := [(0, rv w.2.2.2 x0)]) rfl (by decide) (by simp [flt1, flt2, rv_cat, cat_int, cat_long]) dX7_readAppendix_21 (fun y9 e10 => ?_)
      have hV := hV y9 e10
      refine g_lload_n (pc := 22) X 0 rfl rfl dX7_readAppendix_22 ?_
      refine g_lconst (pc := 23) (v := (0 : Int64)) X dX7_readAppendix_23 (by decide) ?_
      refine g_lcmp (pc := 24) X dX7_readAppendix_24 ?_
      refine g_if_lt (pc := 25) X 36 dX7_readAppendix_25 (by decide) (fun c11 => ?_) (fun c11 => ?_)
      · have hV := hV.1 c11
        exact g_vret (pc := 36) X Tt ⟨rfl, rfl, hV⟩ dX7_readAppendix_36
      · have hV := hV.2 c11
        refine g_aload_n (pc := 28) X 1 rfl rfl dX7_readAppendix_28 ?_
        refine g_lload_n (pc := 29) X 0 rfl rfl dX7_readAppendix_29 ?_
        obtain ⟨P12, t13, hV⟩ := hV
        refine g_cVI (pc := 30) X (As := [Value.long y9]) ml_X7_128 rfl q1 t13 (by rw [hR]; exact ⟨by decide, by decide, by decide, by decide⟩) rfl rfl (Nat.zero_le _) dX7_readAppendix_30 (fun v16 h15 p14 => ?_)
        have hV := hV v16 h15 p14
        refine g_if_eq (pc := 33) X 37 dX7_readAppendix_33 (by decide) (fun c17 => ?_) (fun c17 => ?_)
        · have hV := hV.1 c17
          refine g_aload_n (pc := 37) X 1 rfl rfl dX7_readAppendix_37 ?_
          refine g_getR (pc := 38) X fl_X7_64 q1 dX7_readAppendix_38 ?_
          refine g_bipush (pc := 41) (v := (6 : Int32)) X dX7_readAppendix_41 (by decide) ?_
          refine g_lload_n (pc := 43) X 0 rfl rfl dX7_readAppendix_43 ?_
          refine g_l2i (pc := 44) X dX7_readAppendix_44 ?_
          obtain ⟨q18, hV⟩ := hV
          obtain ⟨P19, t20, hV⟩ := hV
          refine g_cVV (pc := 45) X (As := [Value.int (6 : Int32), Value.int (y9.toInt32)]) ml_X7_166 rfl q18 t20 (by rw [hR]; exact ⟨by decide, by decide, by decide, by decide⟩) rfl rfl (Nat.zero_le _) dX7_readAppendix_45 (fun h22 p21 => ?_)
          have hV := hV h22 p21
          refine g_aload_n (pc := 48) X 1 rfl rfl dX7_readAppendix_48 ?_
          refine g_getR (pc := 49) X fl_X7_12 q1 dX7_readAppendix_49 ?_
          refine g_lload_n (pc := 52) X 0 rfl rfl dX7_readAppendix_52 ?_
          refine g_l2i (pc := 53) X dX7_readAppendix_53 ?_
          obtain ⟨q23, hV⟩ := hV
          obtain ⟨P24, t25, hV⟩ := hV
          refine g_cVV (pc := 54) X (As := [Value.int (y9.toInt32)]) ml_X7_172 rfl q23 t25 (by rw [hR]; exact ⟨by decide, by decide, by decide, by decide⟩) rfl rfl (Nat.zero_le _) dX7_readAppendix_54 (fun h27 p26 => ?_)
          have hV := hV h27 p26
          exact g_vret (pc := 57) X Tt ⟨rfl, rfl, hV⟩ dX7_readAppendix_57
        · have hV := hV.2 c17
          exact g_vret (pc := 36) X Tt ⟨rfl, rfl, hV⟩ dX7_readAppendix_36
    · have hV := hV.2 c3
      exact g_vret (pc := 16) X Tt ⟨rfl, rfl, hV⟩ dX7_readAppendix_16
def C_X7_readAppendix (w : Wd) (sh : List Sh) (x0 : Nat) (h : Hp) (RET : Hp → Prop) : Prop := CV w yX7_readAppendix (.code yX7_readAppendix cX7_readAppendix 3 none) 3 68 [rv w.2.2.2 x0] sh h RET
theorem K_X7_readAppendix {w : Wd} {sh : List Sh} {x0 : Nat} {h : Hp} {RET : Hp → Prop} (hV : V_X7_readAppendix_0 w sh x0 h RET) : C_X7_readAppendix w sh x0 h RET :=
  Ct_of (by decide +kernel) (by simp [lg_sl, rv_cat, cat_int, cat_long]) (fun E X Tt hR _ => by
    rw [show lv_args 0 [rv w.2.2.2 x0] = [(0, rv w.2.2.2 x0)] from by simp [lv_args, rv_cat, cat_int, cat_long]]
    refine g_lv [0] rfl ?_
    exact W_X7_readAppendix_0 X Tt hR hV)
def V_X7_readSegment_78 (w : Wd) (sh : List Sh) (x0 : Nat) (x2 : Int32) (x3 : Int64) (x5 : Int64) (s0 : Nat) (h : Hp)  (RET : Int32 → Hp → Prop) : Prop :=
  ∀ y1 : Nat, y1 = s0 → (shAt sh y1 = some (.inr 8) ∧ (∃ P4 : Int32 → Hp → Prop, C_X8_length w sh y1 h P4 ∧ (∀ (v8 : Int32) (h7 : Hp), P4 v8 h7 → ((((lg_cmp (x5 + x3) (v8.toInt64)) ≤ 0) → (shAt sh x0 = some (.inr 7) ∧ (shAt sh (h7.2.1 x0 9) = some (.inr 9) ∧ (∃ P12 : Hp → Prop, C_X9_lay w sh (h7.2.1 x0 9) y1 (x5.toInt32) (x3.toInt32) (h7.2.1 x0 11) h7 P12 ∧ (∀ h15 : Hp, P12 h15 → (RET (1 : Int32) h15)))))) ∧ ((¬ (lg_cmp (x5 + x3) (v8.toInt64)) ≤ 0) → (shAt sh x0 = some (.inr 7) ∧ (∃ P17 : Int32 → Hp → Prop, C_X7_fail w sh x0 (7 : Int32) x2 h7 P17 ∧ (∀ (v21 : Int32) (h20 : Hp), P17 v21 h20 → ((v21 = 0 ∨ v21 = 1) ∧ RET v21 h20)))))))))
set_option maxRecDepth 20000 in
set_option maxHeartbeats 4000000 in
theorem W_X7_readSegment_78 {w : Wd} {E : GE} {sh : List Sh} {x0 : Nat} {x2 : Int32} {x3 : Int64} {x5 : Int64} {s0 : Nat} {h : Hp}  {RET : Int32 → Hp → Prop} (X : Cx w E cX7_readSegment 8 RX7) (Tt : Rt w E (some .boolean) sh.length 0 0 (fun q sh9 h9 => ∃ v : Int32, q = some (Value.int v) ∧ sh9 = sh ∧ RET v h9)) (hR : gR E = { frames := 3, cells := 0, slots := 0, locals := 68 }) (hV : V_X7_readSegment_78 w sh x0 x2 x3 x5 s0 h RET) : G w E 8 78 [(0, rv w.2.2.2 x0), (2, Value.int x2), (3, Value.long x3), (5, Value.long x5)] [rv w.2.2.2 s0] sh h 0 0 := by
  unfold V_X7_readSegment_78 at hV
  refine g_astore (pc := 78) X (i := 7) (rest := [(0, rv w.2.2.2 x0), (2, Value.int x2), (3, Value.long x3), (5, Value.long x5)]) (by decide) rfl dX7_readSegment_78 (fun y1 e2 => ?_)
  have hV := hV y1 e2
  refine g_lload (pc := 80) X 4 rfl dX7_readSegment_80 ?_
  refine g_lload_n (pc := 82) X 3 rfl rfl dX7_readSegment_82 ?_
  refine g_ladd (pc := 83) X dX7_readSegment_83 ?_
  refine g_aload (pc := 84) X 0 rfl dX7_readSegment_84 ?_
  obtain ⟨q3, hV⟩ := hV
  obtain ⟨P4, t5, hV⟩ := hV
  refine g_cVI (pc := 86) X (As := []) ml_X7_153 rfl q3 t5 (by rw [hR]; exact ⟨by decide, by decide, by decide, by decide⟩) rfl rfl (Nat.le_of_ble_eq_true rfl) dX7_readSegment_86 (fun v8 h7 p6 => ?_)
  have hV := hV v8 h7 p6
  refine g_i2l (pc := 89) X dX7_readSegment_89 ?_
  refine g_lcmp (pc := 90) X dX7_readSegment_90 ?_
  refine g_if_le (pc := 91) X 102 dX7_readSegment_91 (by decide) (fun c9 => ?_) (fun c9 => ?_)
  · have hV := hV.1 c9
    refine g_aload_n (pc := 102) X 1 rfl rfl dX7_readSegment_102 ?_
    obtain ⟨q10, hV⟩ := hV
    refine g_getR (pc := 103) X fl_X7_33 q10 dX7_readSegment_103 ?_
    refine g_aload (pc := 106) X 0 rfl dX7_readSegment_106 ?_
    refine g_lload (pc := 108) X 4 rfl dX7_readSegment_108 ?_
    refine g_l2i (pc := 110) X dX7_readSegment_110 ?_
    refine g_lload_n (pc := 111) X 3 rfl rfl dX7_readSegment_111 ?_
    refine g_l2i (pc := 112) X dX7_readSegment_112 ?_
    refine g_aload_n (pc := 113) X 1 rfl rfl dX7_readSegment_113 ?_
    refine g_getR (pc := 114) X fl_X7_46 q10 dX7_readSegment_114 ?_
    obtain ⟨q11, hV⟩ := hV
    obtain ⟨P12, t13, hV⟩ := hV
    refine g_cVV (pc := 117) X (As := [rv w.2.2.2 y1, Value.int (x5.toInt32), Value.int (x3.toInt32), rv w.2.2.2 (h7.2.1 x0 11)]) ml_X7_185 rfl q11 t13 (by rw [hR]; exact ⟨by decide, by decide, by decide, by decide⟩) rfl rfl (Nat.zero_le _) dX7_readSegment_117 (fun h15 p14 => ?_)
    have hV := hV h15 p14
    refine g_iconst (pc := 120) (v := (1 : Int32)) X dX7_readSegment_120 (by decide) ?_
    exact g_zret (pc := 121) X Tt (by decide) ⟨_, rfl, rfl, hV⟩ dX7_readSegment_121
  · have hV := hV.2 c9
    refine g_aload_n (pc := 94) X 1 rfl rfl dX7_readSegment_94 ?_
    refine g_bipush (pc := 95) (v := (7 : Int32)) X dX7_readSegment_95 (by decide) ?_
    refine g_iload_n (pc := 97) X 2 rfl rfl dX7_readSegment_97 ?_
    obtain ⟨q16, hV⟩ := hV
    obtain ⟨P17, t18, hV⟩ := hV
    refine g_cVI (pc := 98) X (As := [Value.int (7 : Int32), Value.int x2]) ml_X7_114 rfl q16 t18 (by rw [hR]; exact ⟨by decide, by decide, by decide, by decide⟩) rfl rfl (Nat.zero_le _) dX7_readSegment_98 (fun v21 h20 p19 => ?_)
    have hV := hV v21 h20 p19
    exact g_zret (pc := 101) X Tt hV.1 ⟨_, rfl, rfl, hV.2⟩ dX7_readSegment_101
def V_X7_readSegment_0 (w : Wd) (sh : List Sh) (x0 : Nat) (x1 : Int32) (h : Hp)  (RET : Int32 → Hp → Prop) : Prop :=
  shAt sh x0 = some (.inr 7) ∧ (shAt sh (h.2.1 x0 9) = some (.inr 9) ∧ (∃ P3 : Hp → Prop, C_X9_lay w sh (h.2.1 x0 9) (h.2.1 x0 10) (0 : Int32) (0 : Int32) (h.2.1 x0 11) h P3 ∧ (∀ h6 : Hp, P3 h6 → (((¬ (x1 &&& (3 : Int32)) = 0) → (shAt sh (h6.2.1 x0 4) = some (.inr 2) ∧ (∀ y9 : Int32, y9 = (h6.1 (h6.2.1 x0 4) 1) → (∃ P11 : Int64 → Hp → Prop, C_X7_readBig w sh x0 h6 P11 ∧ (∀ (v15 : Int64) (h14 : Hp), P11 v15 h14 → (∀ y16 : Int64, y16 = v15 → (((0 ≤ (lg_cmp y16 (0 : Int64))) → (∃ P19 : Int64 → Hp → Prop, C_X7_readBig w sh x0 h14 P19 ∧ (∀ (v23 : Int64) (h22 : Hp), P19 v23 h22 → (∀ y24 : Int64, y24 = v23 → (((0 ≤ (lg_cmp y24 (0 : Int64))) → ((((x1 &&& (1 : Int32)) = 0) → (V_X7_readSegment_78 w sh x0 y9 y16 y24 (h22.2.1 x0 11) h22 RET)) ∧ ((¬ (x1 &&& (1 : Int32)) = 0) → (V_X7_readSegment_78 w sh x0 y9 y16 y24 (h22.2.1 x0 10) h22 RET)))) ∧ ((¬ 0 ≤ (lg_cmp y24 (0 : Int64))) → (RET (0 : Int32) h22))))))) ∧ ((¬ 0 ≤ (lg_cmp y16 (0 : Int64))) → (RET (0 : Int32) h14))))))))) ∧ (((x1 &&& (3 : Int32)) = 0) → (RET (1 : Int32) h6))))))
set_option maxRecDepth 20000 in
set_option maxHeartbeats 4000000 in
theorem W_X7_readSegment_0 {w : Wd} {E : GE} {sh : List Sh} {x0 : Nat} {x1 : Int32} {h : Hp}  {RET : Int32 → Hp → Prop} (X : Cx w E cX7_readSegment 8 RX7) (Tt : Rt w E (some .boolean) sh.length 0 0 (fun q sh9 h9 => ∃ v : Int32, q = some (Value.int v) ∧ sh9 = sh ∧ RET v h9)) (hR : gR E = { frames := 3, cells := 0, slots := 0, locals := 68 }) (hV : V_X7_readSegment_0 w sh x0 x1 h RET) : G w E 8 0 [(0, rv w.2.2.2 x0), (1, Value.int x1)] [] sh h 0 0 := by
  unfold V_X7_readSegment_0 at hV
  refine g_aload_n (pc := 0) X 0 rfl rfl dX7_readSegment_0 ?_
  obtain ⟨q1, hV⟩ := hV
  refine g_getR (pc := 1) X fl_X7_33 q1 dX7_readSegment_1 ?_
  refine g_aload_n (pc := 4) X 0 rfl rfl dX7_readSegment_4 ?_
  refine g_getR (pc := 5) X fl_X7_42 q1 dX7_readSegment_5 ?_
  refine g_iconst (pc := 8) (v := (0 : Int32)) X dX7_readSegment_8 (by decide) ?_
  refine g_iconst (pc := 9) (v := (0 : Int32)) X dX7_readSegment_9 (by decide) ?_
  refine g_aload_n (pc := 10) X 0 rfl rfl dX7_readSegment_10 ?_
  refine g_getR (pc := 11) X fl_X7_46 q1 dX7_readSegment_11 ?_
  obtain ⟨q2, hV⟩ := hV
  obtain ⟨P3, t4, hV⟩ := hV
  refine g_cVV (pc := 14) X (As := [rv w.2.2.2 (h.2.1 x0 10), Value.int (0 : Int32), Value.int (0 : Int32), rv w.2.2.2 (h.2.1 x0 11)]) ml_X7_185 rfl q2 t4 (by rw [hR]; exact ⟨by decide, by decide, by decide, by decide⟩) rfl rfl (Nat.zero_le _) dX7_readSegment_14 (fun h6 p5 => ?_)
  have hV := hV h6 p5
  refine g_iload_n (pc := 17) X 1 rfl rfl dX7_readSegment_17 ?_
  refine g_iconst (pc := 18) (v := (3 : Int32)) X dX7_readSegment_18 (by decide) ?_
  refine g_iand (pc := 19) X dX7_readSegment_19 ?_
  refine g_if_ne (pc := 20) X 25 dX7_readSegment_20 (by decide) (fun c7 => ?_) (fun c7 => ?_)
  · have hV := hV.1 c7
    refine g_aload_n (pc := 25) X 0 rfl rfl dX7_readSegment_25 ?_
    refine g_getR (pc := 26) X fl_X7_12 q1 dX7_readSegment_26 ?_
    obtain ⟨q8, hV⟩ := hV
    refine g_getI (pc := 29) X fl_X7_104 q8 dX7_readSegment_29 ?_
    refine g_istore_n (pc := 32) X (i := 2) (rest := [(0, rv w.2.2.2 x0), (1, Value.int x1)]) rfl (by decide) rfl dX7_readSegment_32 (fun y9 e10 => ?_)
    have hV := hV y9 e10
    refine g_aload_n (pc := 33) X 1 rfl rfl dX7_readSegment_33 ?_
    obtain ⟨P11, t12, hV⟩ := hV
    refine g_cVJ (pc := 34) X (As := []) ml_X7_142 rfl q1 t12 (by rw [hR]; exact ⟨by decide, by decide, by decide, by decide⟩) rfl rfl (Nat.zero_le _) dX7_readSegment_34 (fun v15 h14 p13 => ?_)
    have hV := hV v15 h14 p13
    refine g_lstore_n (pc := 37) X (i := 3) (rest := [(2, Value.int y9), (0, rv w.2.2.2 x0), (1, Value.int x1)]) rfl (by decide) rfl dX7_readSegment_37 (fun y16 e17 => ?_)
    have hV := hV y16 e17
    refine g_lload_n (pc := 38) X 0 rfl rfl dX7_readSegment_38 ?_
    refine g_lconst (pc := 39) (v := (0 : Int64)) X dX7_readSegment_39 (by decide) ?_
    refine g_lcmp (pc := 40) X dX7_readSegment_40 ?_
    refine g_if_ge (pc := 41) X 46 dX7_readSegment_41 (by decide) (fun c18 => ?_) (fun c18 => ?_)
    · have hV := hV.1 c18
      refine g_aload_n (pc := 46) X 2 rfl rfl dX7_readSegment_46 ?_
      obtain ⟨P19, t20, hV⟩ := hV
      refine g_cVJ (pc := 47) X (As := []) ml_X7_142 rfl q1 t20 (by rw [hR]; exact ⟨by decide, by decide, by decide, by decide⟩) rfl rfl (Nat.zero_le _) dX7_readSegment_47 (fun v23 h22 p21 => ?_)
      have hV := hV v23 h22 p21
      refine g_lstore (pc := 50) X (i := 5) (rest := [(3, Value.long y16), (2, Value.int y9), (0, rv w.2.2.2 x0), (1, Value.int x1)]) (by decide) rfl dX7_readSegment_50 (fun y24 e25 => ?_)
      have hV := hV y24 e25
      refine g_lload (pc := 52) X 0 rfl dX7_readSegment_52 ?_
      refine g_lconst (pc := 54) (v := (0 : Int64)) X dX7_readSegment_54 (by decide) ?_
      refine g_lcmp (pc := 55) X dX7_readSegment_55 ?_
      refine g_if_ge (pc := 56) X 61 dX7_readSegment_56 (by decide) (fun c26 => ?_) (fun c26 => ?_)
      · have hV := hV.1 c26
        refine g_iload_n (pc := 61) X 4 rfl rfl dX7_readSegment_61 ?_
        refine g_iconst (pc := 62) (v := (1 : Int32)) X dX7_readSegment_62 (by decide) ?_
        refine g_iand (pc := 63) X dX7_readSegment_63 ?_
        refine g_if_eq (pc := 64) X 74 dX7_readSegment_64 (by decide) (fun c27 => ?_) (fun c27 => ?_)
        · have hV := hV.1 c27
          refine g_aload_n (pc := 74) X 3 rfl rfl dX7_readSegment_74 ?_
          refine g_getR (pc := 75) X fl_X7_46 q1 dX7_readSegment_75 ?_
          refine g_lv [3, 2, 1, 0] rfl ?_
          exact W_X7_readSegment_78 X Tt hR hV
        · have hV := hV.2 c27
          refine g_aload_n (pc := 67) X 3 rfl rfl dX7_readSegment_67 ?_
          refine g_getR (pc := 68) X fl_X7_42 q1 dX7_readSegment_68 ?_
          refine g_goto (pc := 71) X 78 dX7_readSegment_71 (by decide) ?_
          refine g_lv [3, 2, 1, 0] rfl ?_
          exact W_X7_readSegment_78 X Tt hR hV
      · have hV := hV.2 c26
        refine g_iconst (pc := 59) (v := (0 : Int32)) X dX7_readSegment_59 (by decide) ?_
        exact g_zret (pc := 60) X Tt (by decide) ⟨_, rfl, rfl, hV⟩ dX7_readSegment_60
    · have hV := hV.2 c18
      refine g_iconst (pc := 44) (v := (0 : Int32)) X dX7_readSegment_44 (by decide) ?_
      exact g_zret (pc := 45) X Tt (by decide) ⟨_, rfl, rfl, hV⟩ dX7_readSegment_45
  · have hV := hV.2 c7
    refine g_iconst (pc := 23) (v := (1 : Int32)) X dX7_readSegment_23 (by decide) ?_
    exact g_zret (pc := 24) X Tt (by decide) ⟨_, rfl, rfl, hV⟩ dX7_readSegment_24
def C_X7_readSegment (w : Wd) (sh : List Sh) (x0 : Nat) (x1 : Int32) (h : Hp) (RET : Int32 → Hp → Prop) : Prop := CI w yX7_readSegment (.code yX7_readSegment cX7_readSegment 8 (some .boolean)) 3 68 [rv w.2.2.2 x0, Value.int x1] sh h RET
theorem K_X7_readSegment {w : Wd} {sh : List Sh} {x0 : Nat} {x1 : Int32} {h : Hp} {RET : Int32 → Hp → Prop} (hV : V_X7_readSegment_0 w sh x0 x1 h RET) : C_X7_readSegment w sh x0 x1 h RET :=
  Ct_of (by decide +kernel) (by simp [lg_sl, rv_cat, cat_int, cat_long]) (fun E X Tt hR _ => by
    rw [show lv_args 0 [rv w.2.2.2 x0, Value.int x1] = [(0, rv w.2.2.2 x0), (1, Value.int x1)] from by simp [lv_args, rv_cat, cat_int, cat_long]]
    refine g_lv [0, 1] rfl ?_
    exact W_X7_readSegment_0 X Tt hR hV)
def V_X7_readTargetSize_0 (w : Wd) (sh : List Sh) (x0 : Nat) (h : Hp)  (RET : Int32 → Hp → Prop) : Prop :=
  shAt sh x0 = some (.inr 7) ∧ (shAt sh (h.2.1 x0 4) = some (.inr 2) ∧ (∀ y3 : Int32, y3 = (h.1 (h.2.1 x0 4) 1) → (∃ P5 : Int64 → Hp → Prop, C_X7_readBig w sh x0 h P5 ∧ (∀ (v9 : Int64) (h8 : Hp), P5 v9 h8 → (∀ y10 : Int64, y10 = v9 → (((0 ≤ (lg_cmp y10 (0 : Int64))) → (shAt sh (h8.2.1 x0 11) = some (.inr 8) ∧ (∃ P14 : Int32 → Hp → Prop, C_X8_length w sh (h8.2.1 x0 11) h8 P14 ∧ (∀ (v18 : Int32) (h17 : Hp), P14 v18 h17 → ((((lg_cmp y10 (((8000 : Int32) - v18).toInt64)) ≤ 0) → (∀ h20 : Hp, h20 = wI h17 x0 17 (y10.toInt32) → (∃ P22 : Int32 → Hp → Prop, C_X7_lacks w sh x0 (1 : Int64) h20 P22 ∧ (∀ (v26 : Int32) (h25 : Hp), P22 v26 h25 → (((v26 = 0) → (shAt sh (h25.2.1 x0 4) = some (.inr 2) ∧ (∀ y29 : Int32, y29 = (h25.1 (h25.2.1 x0 4) 1) → (∃ P31 : Int32 → Hp → Prop, C_X2_next w sh (h25.2.1 x0 4) h25 P31 ∧ (∀ (v35 : Int32) (h34 : Hp), P31 v35 h34 → (((v35 = 0) → (RET (1 : Int32) h34)) ∧ ((¬ v35 = 0) → (∃ P37 : Int32 → Hp → Prop, C_X7_fail w sh x0 (9 : Int32) y29 h34 P37 ∧ (∀ (v41 : Int32) (h40 : Hp), P37 v41 h40 → (((v41 = 0) → (RET (0 : Int32) h40)) ∧ ((¬ v41 = 0) → (RET (1 : Int32) h40)))))))))))) ∧ ((¬ v26 = 0) → (RET (0 : Int32) h25))))))) ∧ ((¬ (lg_cmp y10 (((8000 : Int32) - v18).toInt64)) ≤ 0) → (∃ P43 : Int32 → Hp → Prop, C_X7_fail w sh x0 (10 : Int32) y3 h17 P43 ∧ (∀ (v47 : Int32) (h46 : Hp), P43 v47 h46 → ((v47 = 0 ∨ v47 = 1) ∧ RET v47 h46))))))))) ∧ ((¬ 0 ≤ (lg_cmp y10 (0 : Int64))) → (RET (0 : Int32) h8))))))))
set_option maxRecDepth 20000 in
set_option maxHeartbeats 4000000 in
theorem W_X7_readTargetSize_0 {w : Wd} {E : GE} {sh : List Sh} {x0 : Nat} {h : Hp}  {RET : Int32 → Hp → Prop} (X : Cx w E cX7_readTargetSize 5 RX7) (Tt : Rt w E (some .boolean) sh.length 0 0 (fun q sh9 h9 => ∃ v : Int32, q = some (Value.int v) ∧ sh9 = sh ∧ RET v h9)) (hR : gR E = { frames := 3, cells := 0, slots := 0, locals := 68 }) (hV : V_X7_readTargetSize_0 w sh x0 h RET) : G w E 5 0 [(0, rv w.2.2.2 x0)] [] sh h 0 0 := by
  unfold V_X7_readTargetSize_0 at hV
  refine g_aload_n (pc := 0) X 0 rfl rfl dX7_readTargetSize_0 ?_
  obtain ⟨q1, hV⟩ := hV
  refine g_getR (pc := 1) X fl_X7_12 q1 dX7_readTargetSize_1 ?_
  obtain ⟨q2, hV⟩ := hV
  refine g_getI (pc := 4) X fl_X7_104 q2 dX7_readTargetSize_4 ?_
  refine g_istore_n (pc := 7) X (i := 1) (rest := [(0, rv w.2.2.2 x0)]) rfl (by decide) (by simp [flt1, flt2, rv_cat, cat_int, cat_long]) dX7_readTargetSize_7 (fun y3 e4 => ?_)
  have hV := hV y3 e4
  refine g_aload_n (pc := 8) X 1 rfl rfl dX7_readTargetSize_8 ?_
  obtain ⟨P5, t6, hV⟩ := hV
  refine g_cVJ (pc := 9) X (As := []) ml_X7_142 rfl q1 t6 (by rw [hR]; exact ⟨by decide, by decide, by decide, by decide⟩) rfl rfl (Nat.zero_le _) dX7_readTargetSize_9 (fun v9 h8 p7 => ?_)
  have hV := hV v9 h8 p7
  refine g_lstore_n (pc := 12) X (i := 2) (rest := [(1, Value.int y3), (0, rv w.2.2.2 x0)]) rfl (by decide) rfl dX7_readTargetSize_12 (fun y10 e11 => ?_)
  have hV := hV y10 e11
  refine g_lload_n (pc := 13) X 0 rfl rfl dX7_readTargetSize_13 ?_
  refine g_lconst (pc := 14) (v := (0 : Int64)) X dX7_readTargetSize_14 (by decide) ?_
  refine g_lcmp (pc := 15) X dX7_readTargetSize_15 ?_
  refine g_if_ge (pc := 16) X 21 dX7_readTargetSize_16 (by decide) (fun c12 => ?_) (fun c12 => ?_)
  · have hV := hV.1 c12
    refine g_lload_n (pc := 21) X 0 rfl rfl dX7_readTargetSize_21 ?_
    refine g_sipush (pc := 22) (v := (8000 : Int32)) X dX7_readTargetSize_22 (by decide) ?_
    refine g_aload_n (pc := 25) X 2 rfl rfl dX7_readTargetSize_25 ?_
    refine g_getR (pc := 26) X fl_X7_46 q1 dX7_readTargetSize_26 ?_
    obtain ⟨q13, hV⟩ := hV
    obtain ⟨P14, t15, hV⟩ := hV
    refine g_cVI (pc := 29) X (As := []) ml_X7_153 rfl q13 t15 (by rw [hR]; exact ⟨by decide, by decide, by decide, by decide⟩) rfl rfl (Nat.le_of_ble_eq_true rfl) dX7_readTargetSize_29 (fun v18 h17 p16 => ?_)
    have hV := hV v18 h17 p16
    refine g_isub (pc := 32) X dX7_readTargetSize_32 ?_
    refine g_i2l (pc := 33) X dX7_readTargetSize_33 ?_
    refine g_lcmp (pc := 34) X dX7_readTargetSize_34 ?_
    refine g_if_le (pc := 35) X 46 dX7_readTargetSize_35 (by decide) (fun c19 => ?_) (fun c19 => ?_)
    · have hV := hV.1 c19
      refine g_aload_n (pc := 46) X 2 rfl rfl dX7_readTargetSize_46 ?_
      refine g_lload_n (pc := 47) X 0 rfl rfl dX7_readTargetSize_47 ?_
      refine g_l2i (pc := 48) X dX7_readTargetSize_48 ?_
      refine g_putI (pc := 49) X fl_X7_195 q1 rfl rfl dX7_readTargetSize_49 (fun h20 e21 => ?_)
      have hV := hV h20 e21
      refine g_aload_n (pc := 52) X 2 rfl rfl dX7_readTargetSize_52 ?_
      refine g_lconst (pc := 53) (v := (1 : Int64)) X dX7_readTargetSize_53 (by decide) ?_
      obtain ⟨P22, t23, hV⟩ := hV
      refine g_cVI (pc := 54) X (As := [Value.long (1 : Int64)]) ml_X7_128 rfl q1 t23 (by rw [hR]; exact ⟨by decide, by decide, by decide, by decide⟩) rfl rfl (Nat.zero_le _) dX7_readTargetSize_54 (fun v26 h25 p24 => ?_)
      have hV := hV v26 h25 p24
      refine g_if_eq (pc := 57) X 62 dX7_readTargetSize_57 (by decide) (fun c27 => ?_) (fun c27 => ?_)
      · have hV := hV.1 c27
        refine g_aload_n (pc := 62) X 2 rfl rfl dX7_readTargetSize_62 ?_
        refine g_getR (pc := 63) X fl_X7_12 q1 dX7_readTargetSize_63 ?_
        obtain ⟨q28, hV⟩ := hV
        refine g_getI (pc := 66) X fl_X7_104 q28 dX7_readTargetSize_66 ?_
        refine g_istore (pc := 69) X (i := 4) (rest := [(2, Value.long y10), (1, Value.int y3), (0, rv w.2.2.2 x0)]) (by decide) rfl dX7_readTargetSize_69 (fun y29 e30 => ?_)
        have hV := hV y29 e30
        refine g_aload_n (pc := 71) X 3 rfl rfl dX7_readTargetSize_71 ?_
        refine g_getR (pc := 72) X fl_X7_12 q1 dX7_readTargetSize_72 ?_
        obtain ⟨P31, t32, hV⟩ := hV
        refine g_cVI (pc := 75) X (As := []) ml_X7_134 rfl q28 t32 (by rw [hR]; exact ⟨by decide, by decide, by decide, by decide⟩) rfl rfl (Nat.zero_le _) dX7_readTargetSize_75 (fun v35 h34 p33 => ?_)
        have hV := hV v35 h34 p33
        refine g_if_eq (pc := 78) X 92 dX7_readTargetSize_78 (by decide) (fun c36 => ?_) (fun c36 => ?_)
        · have hV := hV.1 c36
          refine g_iconst (pc := 92) (v := (1 : Int32)) X dX7_readTargetSize_92 (by decide) ?_
          refine g_goto (pc := 93) X 97 dX7_readTargetSize_93 (by decide) ?_
          exact g_zret (pc := 97) X Tt (by decide) ⟨_, rfl, rfl, hV⟩ dX7_readTargetSize_97
        · have hV := hV.2 c36
          refine g_aload_n (pc := 81) X 3 rfl rfl dX7_readTargetSize_81 ?_
          refine g_bipush (pc := 82) (v := (9 : Int32)) X dX7_readTargetSize_82 (by decide) ?_
          refine g_iload (pc := 84) X 0 rfl dX7_readTargetSize_84 ?_
          obtain ⟨P37, t38, hV⟩ := hV
          refine g_cVI (pc := 86) X (As := [Value.int (9 : Int32), Value.int y29]) ml_X7_114 rfl q1 t38 (by rw [hR]; exact ⟨by decide, by decide, by decide, by decide⟩) rfl rfl (Nat.zero_le _) dX7_readTargetSize_86 (fun v41 h40 p39 => ?_)
          have hV := hV v41 h40 p39
          refine g_if_eq (pc := 89) X 96 dX7_readTargetSize_89 (by decide) (fun c42 => ?_) (fun c42 => ?_)
          · have hV := hV.1 c42
            refine g_iconst (pc := 96) (v := (0 : Int32)) X dX7_readTargetSize_96 (by decide) ?_
            exact g_zret (pc := 97) X Tt (by decide) ⟨_, rfl, rfl, hV⟩ dX7_readTargetSize_97
          · have hV := hV.2 c42
            refine g_iconst (pc := 92) (v := (1 : Int32)) X dX7_readTargetSize_92 (by decide) ?_
            refine g_goto (pc := 93) X 97 dX7_readTargetSize_93 (by decide) ?_
            exact g_zret (pc := 97) X Tt (by decide) ⟨_, rfl, rfl, hV⟩ dX7_readTargetSize_97
      · have hV := hV.2 c27
        refine g_iconst (pc := 60) (v := (0 : Int32)) X dX7_readTargetSize_60 (by decide) ?_
        exact g_zret (pc := 61) X Tt (by decide) ⟨_, rfl, rfl, hV⟩ dX7_readTargetSize_61
    · have hV := hV.2 c19
      refine g_aload_n (pc := 38) X 2 rfl rfl dX7_readTargetSize_38 ?_
      refine g_bipush (pc := 39) (v := (10 : Int32)) X dX7_readTargetSize_39 (by decide) ?_
      refine g_iload_n (pc := 41) X 1 rfl rfl dX7_readTargetSize_41 ?_
      obtain ⟨P43, t44, hV⟩ := hV
      refine g_cVI (pc := 42) X (As := [Value.int (10 : Int32), Value.int y3]) ml_X7_114 rfl q1 t44 (by rw [hR]; exact ⟨by decide, by decide, by decide, by decide⟩) rfl rfl (Nat.zero_le _) dX7_readTargetSize_42 (fun v47 h46 p45 => ?_)
      have hV := hV v47 h46 p45
      exact g_zret (pc := 45) X Tt hV.1 ⟨_, rfl, rfl, hV.2⟩ dX7_readTargetSize_45
  · have hV := hV.2 c12
    refine g_iconst (pc := 19) (v := (0 : Int32)) X dX7_readTargetSize_19 (by decide) ?_
    exact g_zret (pc := 20) X Tt (by decide) ⟨_, rfl, rfl, hV⟩ dX7_readTargetSize_20
def C_X7_readTargetSize (w : Wd) (sh : List Sh) (x0 : Nat) (h : Hp) (RET : Int32 → Hp → Prop) : Prop := CI w yX7_readTargetSize (.code yX7_readTargetSize cX7_readTargetSize 5 (some .boolean)) 3 68 [rv w.2.2.2 x0] sh h RET
theorem K_X7_readTargetSize {w : Wd} {sh : List Sh} {x0 : Nat} {h : Hp} {RET : Int32 → Hp → Prop} (hV : V_X7_readTargetSize_0 w sh x0 h RET) : C_X7_readTargetSize w sh x0 h RET :=
  Ct_of (by decide +kernel) (by simp [lg_sl, rv_cat, cat_int, cat_long]) (fun E X Tt hR _ => by
    rw [show lv_args 0 [rv w.2.2.2 x0] = [(0, rv w.2.2.2 x0)] from by simp [lv_args, rv_cat, cat_int, cat_long]]
    refine g_lv [0] rfl ?_
    exact W_X7_readTargetSize_0 X Tt hR hV)
def V_X7_layParts_0 (w : Wd) (sh : List Sh) (x0 : Nat) (x1 : Int32) (x2 : Int32) (x3 : Int32) (h : Hp)  (RET : Hp → Prop) : Prop :=
  shAt sh x0 = some (.inr 7) ∧ (shAt sh (h.2.1 x0 4) = some (.inr 2) ∧ (∀ y3 : Int32, y3 = ((h.1 (h.2.1 x0 4) 1) + x1) → (∀ y5 : Int32, y5 = (y3 + x2) → (shAt sh (h.2.1 x0 5) = some (.inr 2) ∧ (∃ P8 : Hp → Prop, C_X2_lay w sh (h.2.1 x0 5) (h.2.1 (h.2.1 x0 4) 0) (h.1 (h.2.1 x0 4) 1) y3 h P8 ∧ (∀ h11 : Hp, P8 h11 → (shAt sh (h11.2.1 x0 4) = some (.inr 2) ∧ (shAt sh (h11.2.1 x0 6) = some (.inr 2) ∧ (∃ P14 : Hp → Prop, C_X2_lay w sh (h11.2.1 x0 6) (h11.2.1 (h11.2.1 x0 4) 0) y3 y5 h11 P14 ∧ (∀ h17 : Hp, P14 h17 → (shAt sh (h17.2.1 x0 4) = some (.inr 2) ∧ (shAt sh (h17.2.1 x0 7) = some (.inr 2) ∧ (∃ P20 : Hp → Prop, C_X2_lay w sh (h17.2.1 x0 7) (h17.2.1 (h17.2.1 x0 4) 0) y5 (y5 + x3) h17 P20 ∧ (∀ h23 : Hp, P20 h23 → (shAt sh (h23.2.1 x0 4) = some (.inr 2) ∧ (∃ P25 : Hp → Prop, C_X2_pass w sh (h23.2.1 x0 4) ((x1 + x2) + x3) h23 P25 ∧ (∀ h28 : Hp, P25 h28 → (RET h28))))))))))))))))))
set_option maxRecDepth 20000 in
set_option maxHeartbeats 4000000 in
theorem W_X7_layParts_0 {w : Wd} {E : GE} {sh : List Sh} {x0 : Nat} {x1 : Int32} {x2 : Int32} {x3 : Int32} {h : Hp}  {RET : Hp → Prop} (X : Cx w E cX7_layParts 6 RX7) (Tt : Rt w E none sh.length 0 0 (fun q sh9 h9 => q = none ∧ sh9 = sh ∧ RET h9)) (hR : gR E = { frames := 1, cells := 0, slots := 0, locals := 23 }) (hV : V_X7_layParts_0 w sh x0 x1 x2 x3 h RET) : G w E 6 0 [(0, rv w.2.2.2 x0), (1, Value.int x1), (2, Value.int x2), (3, Value.int x3)] [] sh h 0 0 := by
  unfold V_X7_layParts_0 at hV
  refine g_aload_n (pc := 0) X 0 rfl rfl dX7_layParts_0 ?_
  obtain ⟨q1, hV⟩ := hV
  refine g_getR (pc := 1) X fl_X7_12 q1 dX7_layParts_1 ?_
  obtain ⟨q2, hV⟩ := hV
  refine g_getI (pc := 4) X fl_X7_104 q2 dX7_layParts_4 ?_
  refine g_iload_n (pc := 7) X 1 rfl rfl dX7_layParts_7 ?_
  refine g_iadd (pc := 8) X dX7_layParts_8 ?_
  refine g_istore (pc := 9) X (i := 4) (rest := [(0, rv w.2.2.2 x0), (1, Value.int x1), (2, Value.int x2), (3, Value.int x3)]) (by decide) rfl dX7_layParts_9 (fun y3 e4 => ?_)
  have hV := hV y3 e4
  refine g_iload (pc := 11) X 0 rfl dX7_layParts_11 ?_
  refine g_iload_n (pc := 13) X 3 rfl rfl dX7_layParts_13 ?_
  refine g_iadd (pc := 14) X dX7_layParts_14 ?_
  refine g_istore (pc := 15) X (i := 5) (rest := [(4, Value.int y3), (0, rv w.2.2.2 x0), (1, Value.int x1), (2, Value.int x2), (3, Value.int x3)]) (by decide) rfl dX7_layParts_15 (fun y5 e6 => ?_)
  have hV := hV y5 e6
  refine g_aload_n (pc := 17) X 2 rfl rfl dX7_layParts_17 ?_
  refine g_getR (pc := 18) X fl_X7_18 q1 dX7_layParts_18 ?_
  refine g_aload_n (pc := 21) X 2 rfl rfl dX7_layParts_21 ?_
  refine g_getR (pc := 22) X fl_X7_12 q1 dX7_layParts_22 ?_
  refine g_getR (pc := 25) X fl_X7_147 q2 dX7_layParts_25 ?_
  refine g_aload_n (pc := 28) X 2 rfl rfl dX7_layParts_28 ?_
  refine g_getR (pc := 29) X fl_X7_12 q1 dX7_layParts_29 ?_
  refine g_getI (pc := 32) X fl_X7_104 q2 dX7_layParts_32 ?_
  refine g_iload (pc := 35) X 1 rfl dX7_layParts_35 ?_
  obtain ⟨q7, hV⟩ := hV
  obtain ⟨P8, t9, hV⟩ := hV
  refine g_cVV (pc := 37) X (As := [rv w.2.2.2 (h.2.1 (h.2.1 x0 4) 0), Value.int (h.1 (h.2.1 x0 4) 1), Value.int y3]) ml_X7_71 rfl q7 t9 (by rw [hR]; exact ⟨by decide, by decide, by decide, by decide⟩) rfl rfl (Nat.zero_le _) dX7_layParts_37 (fun h11 p10 => ?_)
  have hV := hV h11 p10
  refine g_aload_n (pc := 40) X 2 rfl rfl dX7_layParts_40 ?_
  refine g_getR (pc := 41) X fl_X7_21 q1 dX7_layParts_41 ?_
  refine g_aload_n (pc := 44) X 2 rfl rfl dX7_layParts_44 ?_
  refine g_getR (pc := 45) X fl_X7_12 q1 dX7_layParts_45 ?_
  obtain ⟨q12, hV⟩ := hV
  refine g_getR (pc := 48) X fl_X7_147 q12 dX7_layParts_48 ?_
  refine g_iload (pc := 51) X 1 rfl dX7_layParts_51 ?_
  refine g_iload (pc := 53) X 0 rfl dX7_layParts_53 ?_
  obtain ⟨q13, hV⟩ := hV
  obtain ⟨P14, t15, hV⟩ := hV
  refine g_cVV (pc := 55) X (As := [rv w.2.2.2 (h11.2.1 (h11.2.1 x0 4) 0), Value.int y3, Value.int y5]) ml_X7_71 rfl q13 t15 (by rw [hR]; exact ⟨by decide, by decide, by decide, by decide⟩) rfl rfl (Nat.zero_le _) dX7_layParts_55 (fun h17 p16 => ?_)
  have hV := hV h17 p16
  refine g_aload_n (pc := 58) X 2 rfl rfl dX7_layParts_58 ?_
  refine g_getR (pc := 59) X fl_X7_24 q1 dX7_layParts_59 ?_
  refine g_aload_n (pc := 62) X 2 rfl rfl dX7_layParts_62 ?_
  refine g_getR (pc := 63) X fl_X7_12 q1 dX7_layParts_63 ?_
  obtain ⟨q18, hV⟩ := hV
  refine g_getR (pc := 66) X fl_X7_147 q18 dX7_layParts_66 ?_
  refine g_iload (pc := 69) X 0 rfl dX7_layParts_69 ?_
  refine g_iload (pc := 71) X 0 rfl dX7_layParts_71 ?_
  refine g_iload_n (pc := 73) X 5 rfl rfl dX7_layParts_73 ?_
  refine g_iadd (pc := 74) X dX7_layParts_74 ?_
  obtain ⟨q19, hV⟩ := hV
  obtain ⟨P20, t21, hV⟩ := hV
  refine g_cVV (pc := 75) X (As := [rv w.2.2.2 (h17.2.1 (h17.2.1 x0 4) 0), Value.int y5, Value.int (y5 + x3)]) ml_X7_71 rfl q19 t21 (by rw [hR]; exact ⟨by decide, by decide, by decide, by decide⟩) rfl rfl (Nat.zero_le _) dX7_layParts_75 (fun h23 p22 => ?_)
  have hV := hV h23 p22
  refine g_aload_n (pc := 78) X 2 rfl rfl dX7_layParts_78 ?_
  refine g_getR (pc := 79) X fl_X7_12 q1 dX7_layParts_79 ?_
  refine g_iload_n (pc := 82) X 3 rfl rfl dX7_layParts_82 ?_
  refine g_iload_n (pc := 83) X 4 rfl rfl dX7_layParts_83 ?_
  refine g_iadd (pc := 84) X dX7_layParts_84 ?_
  refine g_iload_n (pc := 85) X 5 rfl rfl dX7_layParts_85 ?_
  refine g_iadd (pc := 86) X dX7_layParts_86 ?_
  obtain ⟨q24, hV⟩ := hV
  obtain ⟨P25, t26, hV⟩ := hV
  refine g_cVV (pc := 87) X (As := [Value.int ((x1 + x2) + x3)]) ml_X7_172 rfl q24 t26 (by rw [hR]; exact ⟨by decide, by decide, by decide, by decide⟩) rfl rfl (Nat.zero_le _) dX7_layParts_87 (fun h28 p27 => ?_)
  have hV := hV h28 p27
  exact g_vret (pc := 90) X Tt ⟨rfl, rfl, hV⟩ dX7_layParts_90
def C_X7_layParts (w : Wd) (sh : List Sh) (x0 : Nat) (x1 : Int32) (x2 : Int32) (x3 : Int32) (h : Hp) (RET : Hp → Prop) : Prop := CV w yX7_layParts (.code yX7_layParts cX7_layParts 6 none) 1 23 [rv w.2.2.2 x0, Value.int x1, Value.int x2, Value.int x3] sh h RET
theorem K_X7_layParts {w : Wd} {sh : List Sh} {x0 : Nat} {x1 : Int32} {x2 : Int32} {x3 : Int32} {h : Hp} {RET : Hp → Prop} (hV : V_X7_layParts_0 w sh x0 x1 x2 x3 h RET) : C_X7_layParts w sh x0 x1 x2 x3 h RET :=
  Ct_of (by decide +kernel) (by simp [lg_sl, rv_cat, cat_int, cat_long]) (fun E X Tt hR _ => by
    rw [show lv_args 0 [rv w.2.2.2 x0, Value.int x1, Value.int x2, Value.int x3] = [(0, rv w.2.2.2 x0), (1, Value.int x1), (2, Value.int x2), (3, Value.int x3)] from by simp [lv_args, rv_cat, cat_int, cat_long]]
    refine g_lv [0, 1, 2, 3] rfl ?_
    exact W_X7_layParts_0 X Tt hR hV)
def V_X7_readSizes_99 (w : Wd) (sh : List Sh) (x0 : Nat) (x2 : Int32) (x3 : Int64) (x5 : Int32) (x6 : Int64) (x8 : Int64) (x10 : Int64) (s0 : Int32) (h : Hp)  (RET : Int32 → Hp → Prop) : Prop :=
  ∀ y1 : Int32, y1 = s0 → (shAt sh x0 = some (.inr 7) ∧ (∃ P4 : Int32 → Hp → Prop, C_X7_lacks w sh x0 (y1.toInt64) h P4 ∧ (∀ (v8 : Int32) (h7 : Hp), P4 v8 h7 → (((v8 = 0) → (shAt sh (h7.2.1 x0 4) = some (.inr 2) ∧ (∀ y11 : Int32, y11 = (h7.1 (h7.2.1 x0 4) 1) → (∃ P13 : Hp → Prop, C_X2_pass w sh (h7.2.1 x0 4) y1 h7 P13 ∧ (∀ h16 : Hp, P13 h16 → (∀ y17 : Int64, y17 = ((x6 + x8) + x10) → (shAt sh (h16.2.1 x0 4) = some (.inr 2) ∧ ((((lg_cmp x3 ((((h16.1 (h16.2.1 x0 4) 1) - x5).toInt64) + y17)) = 0) → (∃ P21 : Int32 → Hp → Prop, C_X7_lacks w sh x0 y17 h16 P21 ∧ (∀ (v25 : Int32) (h24 : Hp), P21 v25 h24 → (((v25 = 0) → (∃ P27 : Hp → Prop, C_X7_layParts w sh x0 (x6.toInt32) (x8.toInt32) (x10.toInt32) h24 P27 ∧ (∀ h30 : Hp, P27 h30 → (shAt sh (h30.2.1 x0 4) = some (.inr 2) ∧ (shAt sh (h30.2.1 x0 8) = some (.inr 2) ∧ (∃ P33 : Hp → Prop, C_X2_lay w sh (h30.2.1 x0 8) (h30.2.1 (h30.2.1 x0 4) 0) y11 (y11 + y1) h30 P33 ∧ (∀ h36 : Hp, P33 h36 → (RET (1 : Int32) h36)))))))) ∧ ((¬ v25 = 0) → (RET (0 : Int32) h24)))))) ∧ ((¬ (lg_cmp x3 ((((h16.1 (h16.2.1 x0 4) 1) - x5).toInt64) + y17)) = 0) → (∃ P37 : Int32 → Hp → Prop, C_X7_fail w sh x0 (8 : Int32) x2 h16 P37 ∧ (∀ (v41 : Int32) (h40 : Hp), P37 v41 h40 → ((v41 = 0 ∨ v41 = 1) ∧ RET v41 h40)))))))))))) ∧ ((¬ v8 = 0) → (RET (0 : Int32) h7))))))
set_option maxRecDepth 20000 in
set_option maxHeartbeats 4000000 in
theorem W_X7_readSizes_99 {w : Wd} {E : GE} {sh : List Sh} {x0 : Nat} {x2 : Int32} {x3 : Int64} {x5 : Int32} {x6 : Int64} {x8 : Int64} {x10 : Int64} {s0 : Int32} {h : Hp}  {RET : Int32 → Hp → Prop} (X : Cx w E cX7_readSizes 16 RX7) (Tt : Rt w E (some .boolean) sh.length 0 0 (fun q sh9 h9 => ∃ v : Int32, q = some (Value.int v) ∧ sh9 = sh ∧ RET v h9)) (hR : gR E = { frames := 4, cells := 0, slots := 0, locals := 92 }) (hV : V_X7_readSizes_99 w sh x0 x2 x3 x5 x6 x8 x10 s0 h RET) : G w E 16 99 [(0, rv w.2.2.2 x0), (2, Value.int x2), (3, Value.long x3), (5, Value.int x5), (6, Value.long x6), (8, Value.long x8), (10, Value.long x10)] [Value.int s0] sh h 0 0 := by
  unfold V_X7_readSizes_99 at hV
  refine g_istore (pc := 99) X (i := 12) (rest := [(0, rv w.2.2.2 x0), (2, Value.int x2), (3, Value.long x3), (5, Value.int x5), (6, Value.long x6), (8, Value.long x8), (10, Value.long x10)]) (by decide) rfl dX7_readSizes_99 (fun y1 e2 => ?_)
  have hV := hV y1 e2
  refine g_aload_n (pc := 101) X 1 rfl rfl dX7_readSizes_101 ?_
  refine g_iload (pc := 102) X 0 rfl dX7_readSizes_102 ?_
  refine g_i2l (pc := 104) X dX7_readSizes_104 ?_
  obtain ⟨q3, hV⟩ := hV
  obtain ⟨P4, t5, hV⟩ := hV
  refine g_cVI (pc := 105) X (As := [Value.long (y1.toInt64)]) ml_X7_128 rfl q3 t5 (by rw [hR]; exact ⟨by decide, by decide, by decide, by decide⟩) rfl rfl (Nat.zero_le _) dX7_readSizes_105 (fun v8 h7 p6 => ?_)
  have hV := hV v8 h7 p6
  refine g_if_eq (pc := 108) X 113 dX7_readSizes_108 (by decide) (fun c9 => ?_) (fun c9 => ?_)
  · have hV := hV.1 c9
    refine g_aload_n (pc := 113) X 1 rfl rfl dX7_readSizes_113 ?_
    refine g_getR (pc := 114) X fl_X7_12 q3 dX7_readSizes_114 ?_
    obtain ⟨q10, hV⟩ := hV
    refine g_getI (pc := 117) X fl_X7_104 q10 dX7_readSizes_117 ?_
    refine g_istore (pc := 120) X (i := 13) (rest := [(12, Value.int y1), (0, rv w.2.2.2 x0), (2, Value.int x2), (3, Value.long x3), (5, Value.int x5), (6, Value.long x6), (8, Value.long x8), (10, Value.long x10)]) (by decide) rfl dX7_readSizes_120 (fun y11 e12 => ?_)
    have hV := hV y11 e12
    refine g_aload_n (pc := 122) X 2 rfl rfl dX7_readSizes_122 ?_
    refine g_getR (pc := 123) X fl_X7_12 q3 dX7_readSizes_123 ?_
    refine g_iload (pc := 126) X 1 rfl dX7_readSizes_126 ?_
    obtain ⟨P13, t14, hV⟩ := hV
    refine g_cVV (pc := 128) X (As := [Value.int y1]) ml_X7_172 rfl q10 t14 (by rw [hR]; exact ⟨by decide, by decide, by decide, by decide⟩) rfl rfl (Nat.zero_le _) dX7_readSizes_128 (fun h16 p15 => ?_)
    have hV := hV h16 p15
    refine g_lload (pc := 131) X 6 rfl dX7_readSizes_131 ?_
    refine g_lload (pc := 133) X 7 rfl dX7_readSizes_133 ?_
    refine g_ladd (pc := 135) X dX7_readSizes_135 ?_
    refine g_lload (pc := 136) X 8 rfl dX7_readSizes_136 ?_
    refine g_ladd (pc := 138) X dX7_readSizes_138 ?_
    refine g_lstore (pc := 139) X (i := 14) (rest := [(13, Value.int y11), (12, Value.int y1), (0, rv w.2.2.2 x0), (2, Value.int x2), (3, Value.long x3), (5, Value.int x5), (6, Value.long x6), (8, Value.long x8), (10, Value.long x10)]) (by decide) rfl dX7_readSizes_139 (fun y17 e18 => ?_)
    have hV := hV y17 e18
    refine g_lload_n (pc := 141) X 5 rfl rfl dX7_readSizes_141 ?_
    refine g_aload_n (pc := 142) X 3 rfl rfl dX7_readSizes_142 ?_
    refine g_getR (pc := 143) X fl_X7_12 q3 dX7_readSizes_143 ?_
    obtain ⟨q19, hV⟩ := hV
    refine g_getI (pc := 146) X fl_X7_104 q19 dX7_readSizes_146 ?_
    refine g_iload (pc := 149) X 6 rfl dX7_readSizes_149 ?_
    refine g_isub (pc := 151) X dX7_readSizes_151 ?_
    refine g_i2l (pc := 152) X dX7_readSizes_152 ?_
    refine g_lload (pc := 153) X 0 rfl dX7_readSizes_153 ?_
    refine g_ladd (pc := 155) X dX7_readSizes_155 ?_
    refine g_lcmp (pc := 156) X dX7_readSizes_156 ?_
    refine g_if_eq (pc := 157) X 168 dX7_readSizes_157 (by decide) (fun c20 => ?_) (fun c20 => ?_)
    · have hV := hV.1 c20
      refine g_aload_n (pc := 168) X 3 rfl rfl dX7_readSizes_168 ?_
      refine g_lload (pc := 169) X 0 rfl dX7_readSizes_169 ?_
      obtain ⟨P21, t22, hV⟩ := hV
      refine g_cVI (pc := 171) X (As := [Value.long y17]) ml_X7_128 rfl q3 t22 (by rw [hR]; exact ⟨by decide, by decide, by decide, by decide⟩) rfl rfl (Nat.zero_le _) dX7_readSizes_171 (fun v25 h24 p23 => ?_)
      have hV := hV v25 h24 p23
      refine g_if_eq (pc := 174) X 179 dX7_readSizes_174 (by decide) (fun c26 => ?_) (fun c26 => ?_)
      · have hV := hV.1 c26
        refine g_aload_n (pc := 179) X 3 rfl rfl dX7_readSizes_179 ?_
        refine g_lload (pc := 180) X 7 rfl dX7_readSizes_180 ?_
        refine g_l2i (pc := 182) X dX7_readSizes_182 ?_
        refine g_lload (pc := 183) X 8 rfl dX7_readSizes_183 ?_
        refine g_l2i (pc := 185) X dX7_readSizes_185 ?_
        refine g_lload (pc := 186) X 9 rfl dX7_readSizes_186 ?_
        refine g_l2i (pc := 188) X dX7_readSizes_188 ?_
        obtain ⟨P27, t28, hV⟩ := hV
        refine g_cVV (pc := 189) X (As := [Value.int (x6.toInt32), Value.int (x8.toInt32), Value.int (x10.toInt32)]) ml_X7_191 rfl q3 t28 (by rw [hR]; exact ⟨by decide, by decide, by decide, by decide⟩) rfl rfl (Nat.zero_le _) dX7_readSizes_189 (fun h30 p29 => ?_)
        have hV := hV h30 p29
        refine g_aload_n (pc := 192) X 3 rfl rfl dX7_readSizes_192 ?_
        refine g_getR (pc := 193) X fl_X7_27 q3 dX7_readSizes_193 ?_
        refine g_aload_n (pc := 196) X 3 rfl rfl dX7_readSizes_196 ?_
        refine g_getR (pc := 197) X fl_X7_12 q3 dX7_readSizes_197 ?_
        obtain ⟨q31, hV⟩ := hV
        refine g_getR (pc := 200) X fl_X7_147 q31 dX7_readSizes_200 ?_
        refine g_iload (pc := 203) X 1 rfl dX7_readSizes_203 ?_
        refine g_iload (pc := 205) X 1 rfl dX7_readSizes_205 ?_
        refine g_iload (pc := 207) X 2 rfl dX7_readSizes_207 ?_
        refine g_iadd (pc := 209) X dX7_readSizes_209 ?_
        obtain ⟨q32, hV⟩ := hV
        obtain ⟨P33, t34, hV⟩ := hV
        refine g_cVV (pc := 210) X (As := [rv w.2.2.2 (h30.2.1 (h30.2.1 x0 4) 0), Value.int y11, Value.int (y11 + y1)]) ml_X7_71 rfl q32 t34 (by rw [hR]; exact ⟨by decide, by decide, by decide, by decide⟩) rfl rfl (Nat.zero_le _) dX7_readSizes_210 (fun h36 p35 => ?_)
        have hV := hV h36 p35
        refine g_iconst (pc := 213) (v := (1 : Int32)) X dX7_readSizes_213 (by decide) ?_
        exact g_zret (pc := 214) X Tt (by decide) ⟨_, rfl, rfl, hV⟩ dX7_readSizes_214
      · have hV := hV.2 c26
        refine g_iconst (pc := 177) (v := (0 : Int32)) X dX7_readSizes_177 (by decide) ?_
        exact g_zret (pc := 178) X Tt (by decide) ⟨_, rfl, rfl, hV⟩ dX7_readSizes_178
    · have hV := hV.2 c20
      refine g_aload_n (pc := 160) X 3 rfl rfl dX7_readSizes_160 ?_
      refine g_bipush (pc := 161) (v := (8 : Int32)) X dX7_readSizes_161 (by decide) ?_
      refine g_iload_n (pc := 163) X 4 rfl rfl dX7_readSizes_163 ?_
      obtain ⟨P37, t38, hV⟩ := hV
      refine g_cVI (pc := 164) X (As := [Value.int (8 : Int32), Value.int x2]) ml_X7_114 rfl q3 t38 (by rw [hR]; exact ⟨by decide, by decide, by decide, by decide⟩) rfl rfl (Nat.zero_le _) dX7_readSizes_164 (fun v41 h40 p39 => ?_)
      have hV := hV v41 h40 p39
      exact g_zret (pc := 167) X Tt hV.1 ⟨_, rfl, rfl, hV.2⟩ dX7_readSizes_167
  · have hV := hV.2 c9
    refine g_iconst (pc := 111) (v := (0 : Int32)) X dX7_readSizes_111 (by decide) ?_
    exact g_zret (pc := 112) X Tt (by decide) ⟨_, rfl, rfl, hV⟩ dX7_readSizes_112
def V_X7_readSizes_77 (w : Wd) (sh : List Sh) (x0 : Nat) (x1 : Int32) (x2 : Int32) (x3 : Int64) (x5 : Int32) (x6 : Int64) (x8 : Int64) (s0 : Int64) (h : Hp)  (RET : Int32 → Hp → Prop) : Prop :=
  ∀ y1 : Int64, y1 = s0 → (((0 ≤ (lg_cmp y1 (0 : Int64))) → ((((x1 &&& (4 : Int32)) = 0) → (V_X7_readSizes_99 w sh x0 x2 x3 x5 x6 x8 y1 (0 : Int32) h RET)) ∧ ((¬ (x1 &&& (4 : Int32)) = 0) → (V_X7_readSizes_99 w sh x0 x2 x3 x5 x6 x8 y1 (4 : Int32) h RET)))) ∧ ((¬ 0 ≤ (lg_cmp y1 (0 : Int64))) → (RET (0 : Int32) h)))
set_option maxRecDepth 20000 in
set_option maxHeartbeats 4000000 in
theorem W_X7_readSizes_77 {w : Wd} {E : GE} {sh : List Sh} {x0 : Nat} {x1 : Int32} {x2 : Int32} {x3 : Int64} {x5 : Int32} {x6 : Int64} {x8 : Int64} {s0 : Int64} {h : Hp}  {RET : Int32 → Hp → Prop} (X : Cx w E cX7_readSizes 16 RX7) (Tt : Rt w E (some .boolean) sh.length 0 0 (fun q sh9 h9 => ∃ v : Int32, q = some (Value.int v) ∧ sh9 = sh ∧ RET v h9)) (hR : gR E = { frames := 4, cells := 0, slots := 0, locals := 92 }) (hV : V_X7_readSizes_77 w sh x0 x1 x2 x3 x5 x6 x8 s0 h RET) : G w E 16 77 [(0, rv w.2.2.2 x0), (1, Value.int x1), (2, Value.int x2), (3, Value.long x3), (5, Value.int x5), (6, Value.long x6), (8, Value.long x8)] [Value.long s0] sh h 0 0 := by
  unfold V_X7_readSizes_77 at hV
  refine g_lstore (pc := 77) X (i := 10) (rest := [(0, rv w.2.2.2 x0), (1, Value.int x1), (2, Value.int x2), (3, Value.long x3), (5, Value.int x5), (6, Value.long x6), (8, Value.long x8)]) (by decide) rfl dX7_readSizes_77 (fun y1 e2 => ?_)
  have hV := hV y1 e2
  refine g_lload (pc := 79) X 0 rfl dX7_readSizes_79 ?_
  refine g_lconst (pc := 81) (v := (0 : Int64)) X dX7_readSizes_81 (by decide) ?_
  refine g_lcmp (pc := 82) X dX7_readSizes_82 ?_
  refine g_if_ge (pc := 83) X 88 dX7_readSizes_83 (by decide) (fun c3 => ?_) (fun c3 => ?_)
  · have hV := hV.1 c3
    refine g_iload_n (pc := 88) X 2 rfl rfl dX7_readSizes_88 ?_
    refine g_iconst (pc := 89) (v := (4 : Int32)) X dX7_readSizes_89 (by decide) ?_
    refine g_iand (pc := 90) X dX7_readSizes_90 ?_
    refine g_if_eq (pc := 91) X 98 dX7_readSizes_91 (by decide) (fun c4 => ?_) (fun c4 => ?_)
    · have hV := hV.1 c4
      refine g_iconst (pc := 98) (v := (0 : Int32)) X dX7_readSizes_98 (by decide) ?_
      refine g_lv [1, 3, 4, 5, 6, 7, 0] rfl ?_
      exact W_X7_readSizes_99 X Tt hR hV
    · have hV := hV.2 c4
      refine g_iconst (pc := 94) (v := (4 : Int32)) X dX7_readSizes_94 (by decide) ?_
      refine g_goto (pc := 95) X 99 dX7_readSizes_95 (by decide) ?_
      refine g_lv [1, 3, 4, 5, 6, 7, 0] rfl ?_
      exact W_X7_readSizes_99 X Tt hR hV
  · have hV := hV.2 c3
    refine g_iconst (pc := 86) (v := (0 : Int32)) X dX7_readSizes_86 (by decide) ?_
    exact g_zret (pc := 87) X Tt (by decide) ⟨_, rfl, rfl, hV⟩ dX7_readSizes_87
def V_X7_readSizes_59 (w : Wd) (sh : List Sh) (x0 : Nat) (x1 : Int32) (x2 : Int32) (x3 : Int64) (x5 : Int32) (x6 : Int64) (s0 : Int64) (h : Hp)  (RET : Int32 → Hp → Prop) : Prop :=
  ∀ y1 : Int64, y1 = s0 → (((0 ≤ (lg_cmp y1 (0 : Int64))) → (shAt sh x0 = some (.inr 7) ∧ (∃ P5 : Int64 → Hp → Prop, C_X7_readBig w sh x0 h P5 ∧ (∀ (v9 : Int64) (h8 : Hp), P5 v9 h8 → (V_X7_readSizes_77 w sh x0 x1 x2 x3 x5 x6 y1 v9 h8 RET))))) ∧ ((¬ 0 ≤ (lg_cmp y1 (0 : Int64))) → (V_X7_readSizes_77 w sh x0 x1 x2 x3 x5 x6 y1 y1 h RET)))
set_option maxRecDepth 20000 in
set_option maxHeartbeats 4000000 in
theorem W_X7_readSizes_59 {w : Wd} {E : GE} {sh : List Sh} {x0 : Nat} {x1 : Int32} {x2 : Int32} {x3 : Int64} {x5 : Int32} {x6 : Int64} {s0 : Int64} {h : Hp}  {RET : Int32 → Hp → Prop} (X : Cx w E cX7_readSizes 16 RX7) (Tt : Rt w E (some .boolean) sh.length 0 0 (fun q sh9 h9 => ∃ v : Int32, q = some (Value.int v) ∧ sh9 = sh ∧ RET v h9)) (hR : gR E = { frames := 4, cells := 0, slots := 0, locals := 92 }) (hV : V_X7_readSizes_59 w sh x0 x1 x2 x3 x5 x6 s0 h RET) : G w E 16 59 [(0, rv w.2.2.2 x0), (1, Value.int x1), (2, Value.int x2), (3, Value.long x3), (5, Value.int x5), (6, Value.long x6)] [Value.long s0] sh h 0 0 := by
  unfold V_X7_readSizes_59 at hV
  refine g_lstore (pc := 59) X (i := 8) (rest := [(0, rv w.2.2.2 x0), (1, Value.int x1), (2, Value.int x2), (3, Value.long x3), (5, Value.int x5), (6, Value.long x6)]) (by decide) rfl dX7_readSizes_59 (fun y1 e2 => ?_)
  have hV := hV y1 e2
  refine g_lload (pc := 61) X 0 rfl dX7_readSizes_61 ?_
  refine g_lconst (pc := 63) (v := (0 : Int64)) X dX7_readSizes_63 (by decide) ?_
  refine g_lcmp (pc := 64) X dX7_readSizes_64 ?_
  refine g_if_ge (pc := 65) X 73 dX7_readSizes_65 (by decide) (fun c3 => ?_) (fun c3 => ?_)
  · have hV := hV.1 c3
    refine g_aload_n (pc := 73) X 1 rfl rfl dX7_readSizes_73 ?_
    obtain ⟨q4, hV⟩ := hV
    obtain ⟨P5, t6, hV⟩ := hV
    refine g_cVJ (pc := 74) X (As := []) ml_X7_142 rfl q4 t6 (by rw [hR]; exact ⟨by decide, by decide, by decide, by decide⟩) rfl rfl (Nat.zero_le _) dX7_readSizes_74 (fun v9 h8 p7 => ?_)
    have hV := hV v9 h8 p7
    refine g_lv [1, 2, 3, 4, 5, 6, 0] rfl ?_
    exact W_X7_readSizes_77 X Tt hR hV
  · have hV := hV.2 c3
    refine g_lload (pc := 68) X 0 rfl dX7_readSizes_68 ?_
    refine g_goto (pc := 70) X 77 dX7_readSizes_70 (by decide) ?_
    refine g_lv [1, 2, 3, 4, 5, 6, 0] rfl ?_
    exact W_X7_readSizes_77 X Tt hR hV
def V_X7_readSizes_0 (w : Wd) (sh : List Sh) (x0 : Nat) (x1 : Int32) (h : Hp)  (RET : Int32 → Hp → Prop) : Prop :=
  shAt sh x0 = some (.inr 7) ∧ (shAt sh (h.2.1 x0 4) = some (.inr 2) ∧ (∀ y3 : Int32, y3 = (h.1 (h.2.1 x0 4) 1) → (∃ P5 : Int64 → Hp → Prop, C_X7_readBig w sh x0 h P5 ∧ (∀ (v9 : Int64) (h8 : Hp), P5 v9 h8 → (∀ y10 : Int64, y10 = v9 → (shAt sh (h8.2.1 x0 4) = some (.inr 2) ∧ (∀ y13 : Int32, y13 = (h8.1 (h8.2.1 x0 4) 1) → ((((lg_cmp y10 (0 : Int64)) < 0) → (RET (0 : Int32) h8)) ∧ ((¬ (lg_cmp y10 (0 : Int64)) < 0) → (∃ P16 : Int32 → Hp → Prop, C_X7_readTargetSize w sh x0 h8 P16 ∧ (∀ (v20 : Int32) (h19 : Hp), P16 v20 h19 → (((¬ v20 = 0) → (∃ P22 : Int64 → Hp → Prop, C_X7_readBig w sh x0 h19 P22 ∧ (∀ (v26 : Int64) (h25 : Hp), P22 v26 h25 → (∀ y27 : Int64, y27 = v26 → (((0 ≤ (lg_cmp y27 (0 : Int64))) → (∃ P30 : Int64 → Hp → Prop, C_X7_readBig w sh x0 h25 P30 ∧ (∀ (v34 : Int64) (h33 : Hp), P30 v34 h33 → (V_X7_readSizes_59 w sh x0 x1 y3 y10 y13 y27 v34 h33 RET)))) ∧ ((¬ 0 ≤ (lg_cmp y27 (0 : Int64))) → (V_X7_readSizes_59 w sh x0 x1 y3 y10 y13 y27 y27 h25 RET))))))) ∧ ((v20 = 0) → (RET (0 : Int32) h19))))))))))))))
set_option maxRecDepth 20000 in
set_option maxHeartbeats 4000000 in
theorem W_X7_readSizes_0 {w : Wd} {E : GE} {sh : List Sh} {x0 : Nat} {x1 : Int32} {h : Hp}  {RET : Int32 → Hp → Prop} (X : Cx w E cX7_readSizes 16 RX7) (Tt : Rt w E (some .boolean) sh.length 0 0 (fun q sh9 h9 => ∃ v : Int32, q = some (Value.int v) ∧ sh9 = sh ∧ RET v h9)) (hR : gR E = { frames := 4, cells := 0, slots := 0, locals := 92 }) (hV : V_X7_readSizes_0 w sh x0 x1 h RET) : G w E 16 0 [(0, rv w.2.2.2 x0), (1, Value.int x1)] [] sh h 0 0 := by
  unfold V_X7_readSizes_0 at hV
  refine g_aload_n (pc := 0) X 0 rfl rfl dX7_readSizes_0 ?_
  obtain ⟨q1, hV⟩ := hV
  refine g_getR (pc := 1) X fl_X7_12 q1 dX7_readSizes_1 ?_
  obtain ⟨q2, hV⟩ := hV
  refine g_getI (pc := 4) X fl_X7_104 q2 dX7_readSizes_4 ?_
  refine g_istore_n (pc := 7) X (i := 2) (rest := [(0, rv w.2.2.2 x0), (1, Value.int x1)]) rfl (by decide) rfl dX7_readSizes_7 (fun y3 e4 => ?_)
  have hV := hV y3 e4
  refine g_aload_n (pc := 8) X 1 rfl rfl dX7_readSizes_8 ?_
  obtain ⟨P5, t6, hV⟩ := hV
  refine g_cVJ (pc := 9) X (As := []) ml_X7_142 rfl q1 t6 (by rw [hR]; exact ⟨by decide, by decide, by decide, by decide⟩) rfl rfl (Nat.zero_le _) dX7_readSizes_9 (fun v9 h8 p7 => ?_)
  have hV := hV v9 h8 p7
  refine g_lstore_n (pc := 12) X (i := 3) (rest := [(2, Value.int y3), (0, rv w.2.2.2 x0), (1, Value.int x1)]) rfl (by decide) rfl dX7_readSizes_12 (fun y10 e11 => ?_)
  have hV := hV y10 e11
  refine g_aload_n (pc := 13) X 2 rfl rfl dX7_readSizes_13 ?_
  refine g_getR (pc := 14) X fl_X7_12 q1 dX7_readSizes_14 ?_
  obtain ⟨q12, hV⟩ := hV
  refine g_getI (pc := 17) X fl_X7_104 q12 dX7_readSizes_17 ?_
  refine g_istore (pc := 20) X (i := 5) (rest := [(3, Value.long y10), (2, Value.int y3), (0, rv w.2.2.2 x0), (1, Value.int x1)]) (by decide) rfl dX7_readSizes_20 (fun y13 e14 => ?_)
  have hV := hV y13 e14
  refine g_lload_n (pc := 22) X 1 rfl rfl dX7_readSizes_22 ?_
  refine g_lconst (pc := 23) (v := (0 : Int64)) X dX7_readSizes_23 (by decide) ?_
  refine g_lcmp (pc := 24) X dX7_readSizes_24 ?_
  refine g_if_lt (pc := 25) X 35 dX7_readSizes_25 (by decide) (fun c15 => ?_) (fun c15 => ?_)
  · have hV := hV.1 c15
    refine g_iconst (pc := 35) (v := (0 : Int32)) X dX7_readSizes_35 (by decide) ?_
    exact g_zret (pc := 36) X Tt (by decide) ⟨_, rfl, rfl, hV⟩ dX7_readSizes_36
  · have hV := hV.2 c15
    refine g_aload_n (pc := 28) X 3 rfl rfl dX7_readSizes_28 ?_
    obtain ⟨P16, t17, hV⟩ := hV
    refine g_cVI (pc := 29) X (As := []) ml_X7_188 rfl q1 t17 (by rw [hR]; exact ⟨by decide, by decide, by decide, by decide⟩) rfl rfl (Nat.zero_le _) dX7_readSizes_29 (fun v20 h19 p18 => ?_)
    have hV := hV v20 h19 p18
    refine g_if_ne (pc := 32) X 37 dX7_readSizes_32 (by decide) (fun c21 => ?_) (fun c21 => ?_)
    · have hV := hV.1 c21
      refine g_aload_n (pc := 37) X 3 rfl rfl dX7_readSizes_37 ?_
      obtain ⟨P22, t23, hV⟩ := hV
      refine g_cVJ (pc := 38) X (As := []) ml_X7_142 rfl q1 t23 (by rw [hR]; exact ⟨by decide, by decide, by decide, by decide⟩) rfl rfl (Nat.zero_le _) dX7_readSizes_38 (fun v26 h25 p24 => ?_)
      have hV := hV v26 h25 p24
      refine g_lstore (pc := 41) X (i := 6) (rest := [(5, Value.int y13), (3, Value.long y10), (2, Value.int y3), (0, rv w.2.2.2 x0), (1, Value.int x1)]) (by decide) rfl dX7_readSizes_41 (fun y27 e28 => ?_)
      have hV := hV y27 e28
      refine g_lload (pc := 43) X 0 rfl dX7_readSizes_43 ?_
      refine g_lconst (pc := 45) (v := (0 : Int64)) X dX7_readSizes_45 (by decide) ?_
      refine g_lcmp (pc := 46) X dX7_readSizes_46 ?_
      refine g_if_ge (pc := 47) X 55 dX7_readSizes_47 (by decide) (fun c29 => ?_) (fun c29 => ?_)
      · have hV := hV.1 c29
        refine g_aload_n (pc := 55) X 4 rfl rfl dX7_readSizes_55 ?_
        obtain ⟨P30, t31, hV⟩ := hV
        refine g_cVJ (pc := 56) X (As := []) ml_X7_142 rfl q1 t31 (by rw [hR]; exact ⟨by decide, by decide, by decide, by decide⟩) rfl rfl (Nat.zero_le _) dX7_readSizes_56 (fun v34 h33 p32 => ?_)
        have hV := hV v34 h33 p32
        refine g_lv [4, 5, 3, 2, 1, 0] rfl ?_
        exact W_X7_readSizes_59 X Tt hR hV
      · have hV := hV.2 c29
        refine g_lload (pc := 50) X 0 rfl dX7_readSizes_50 ?_
        refine g_goto (pc := 52) X 59 dX7_readSizes_52 (by decide) ?_
        refine g_lv [4, 5, 3, 2, 1, 0] rfl ?_
        exact W_X7_readSizes_59 X Tt hR hV
    · have hV := hV.2 c21
      refine g_iconst (pc := 35) (v := (0 : Int32)) X dX7_readSizes_35 (by decide) ?_
      exact g_zret (pc := 36) X Tt (by decide) ⟨_, rfl, rfl, hV⟩ dX7_readSizes_36
def C_X7_readSizes (w : Wd) (sh : List Sh) (x0 : Nat) (x1 : Int32) (h : Hp) (RET : Int32 → Hp → Prop) : Prop := CI w yX7_readSizes (.code yX7_readSizes cX7_readSizes 16 (some .boolean)) 4 92 [rv w.2.2.2 x0, Value.int x1] sh h RET
theorem K_X7_readSizes {w : Wd} {sh : List Sh} {x0 : Nat} {x1 : Int32} {h : Hp} {RET : Int32 → Hp → Prop} (hV : V_X7_readSizes_0 w sh x0 x1 h RET) : C_X7_readSizes w sh x0 x1 h RET :=
  Ct_of (by decide +kernel) (by simp [lg_sl, rv_cat, cat_int, cat_long]) (fun E X Tt hR _ => by
    rw [show lv_args 0 [rv w.2.2.2 x0, Value.int x1] = [(0, rv w.2.2.2 x0), (1, Value.int x1)] from by simp [lv_args, rv_cat, cat_int, cat_long]]
    refine g_lv [0, 1] rfl ?_
    exact W_X7_readSizes_0 X Tt hR hV)
def V_X7_wantedAddress_0 (w : Wd) (sh : List Sh) (x0 : Nat) (x1 : Int32) (x2 : Int32) (h : Hp)  (RET : Int64 → Hp → Prop) : Prop :=
  shAt sh x0 = some (.inr 7) ∧ (shAt sh (h.2.1 x0 0) = some (.inr 10) ∧ (∀ y3 : Int32, y3 = ((x1 - (2 : Int32)) - (h.1 (h.2.1 x0 0) 1)) → (((y3 < 0) → (shAt sh (h.2.1 x0 7) = some (.inr 2) ∧ (∃ P7 : Int64 → Hp → Prop, C_X2_nextBig w sh (h.2.1 x0 7) h P7 ∧ (∀ (v11 : Int64) (h10 : Hp), P7 v11 h10 → (∀ y12 : Int64, y12 = v11 → ((((lg_cmp y12 (0 : Int64)) < 0) → (RET y12 h10)) ∧ ((¬ (lg_cmp y12 (0 : Int64)) < 0) → (((¬ x1 = 0) → (((¬ x1 = (1 : Int32)) → (shAt sh (h10.2.1 x0 1) = some (.inr 0) ∧ (∃ P18 : Int32 → Hp → Prop, C_X0_nearAt w sh (h10.2.1 x0 1) (x1 - (2 : Int32)) h10 P18 ∧ (∀ (v22 : Int32) (h21 : Hp), P18 v22 h21 → (RET ((v22.toInt64) + y12) h21))))) ∧ ((x1 = (1 : Int32)) → (RET ((x2.toInt64) - y12) h10)))) ∧ ((x1 = 0) → (RET y12 h10)))))))))) ∧ ((¬ y3 < 0) → (shAt sh (h.2.1 x0 7) = some (.inr 2) ∧ (∃ P24 : Int32 → Hp → Prop, C_X2_next w sh (h.2.1 x0 7) h P24 ∧ (∀ (v28 : Int32) (h27 : Hp), P24 v28 h27 → (∀ y29 : Int32, y29 = v28 → (((0 ≤ y29) → (shAt sh (h27.2.1 x0 1) = some (.inr 0) ∧ (∃ P33 : Int32 → Hp → Prop, C_X0_sameAt w sh (h27.2.1 x0 1) (((256 : Int32) * y3) + y29) h27 P33 ∧ (∀ (v37 : Int32) (h36 : Hp), P33 v37 h36 → (RET (v37.toInt64) h36))))) ∧ ((¬ 0 ≤ y29) → (RET (y29.toInt64) h27)))))))))))
set_option maxRecDepth 20000 in
set_option maxHeartbeats 4000000 in
theorem W_X7_wantedAddress_0 {w : Wd} {E : GE} {sh : List Sh} {x0 : Nat} {x1 : Int32} {x2 : Int32} {h : Hp}  {RET : Int64 → Hp → Prop} (X : Cx w E cX7_wantedAddress 6 RX7) (Tt : Rt w E (some .long) sh.length 0 0 (fun q sh9 h9 => ∃ v : Int64, q = some (Value.long v) ∧ sh9 = sh ∧ RET v h9)) (hR : gR E = { frames := 2, cells := 0, slots := 0, locals := 45 }) (hV : V_X7_wantedAddress_0 w sh x0 x1 x2 h RET) : G w E 6 0 [(0, rv w.2.2.2 x0), (1, Value.int x1), (2, Value.int x2)] [] sh h 0 0 := by
  unfold V_X7_wantedAddress_0 at hV
  refine g_iload_n (pc := 0) X 1 rfl rfl dX7_wantedAddress_0 ?_
  refine g_iconst (pc := 1) (v := (2 : Int32)) X dX7_wantedAddress_1 (by decide) ?_
  refine g_isub (pc := 2) X dX7_wantedAddress_2 ?_
  refine g_aload_n (pc := 3) X 0 rfl rfl dX7_wantedAddress_3 ?_
  obtain ⟨q1, hV⟩ := hV
  refine g_getR (pc := 4) X fl_X7_56 q1 dX7_wantedAddress_4 ?_
  obtain ⟨q2, hV⟩ := hV
  refine g_getI (pc := 7) X fl_X7_78 q2 dX7_wantedAddress_7 ?_
  refine g_isub (pc := 10) X dX7_wantedAddress_10 ?_
  refine g_istore_n (pc := 11) X (i := 3) (rest := [(0, rv w.2.2.2 x0), (1, Value.int x1), (2, Value.int x2)]) rfl (by decide) rfl dX7_wantedAddress_11 (fun y3 e4 => ?_)
  have hV := hV y3 e4
  refine g_iload_n (pc := 12) X 0 rfl rfl dX7_wantedAddress_12 ?_
  refine g_if_lt (pc := 13) X 53 dX7_wantedAddress_13 (by decide) (fun c5 => ?_) (fun c5 => ?_)
  · have hV := hV.1 c5
    refine g_aload_n (pc := 53) X 1 rfl rfl dX7_wantedAddress_53 ?_
    refine g_getR (pc := 54) X fl_X7_24 q1 dX7_wantedAddress_54 ?_
    obtain ⟨q6, hV⟩ := hV
    obtain ⟨P7, t8, hV⟩ := hV
    refine g_cVJ (pc := 57) X (As := []) ml_X7_118 rfl q6 t8 (by rw [hR]; exact ⟨by decide, by decide, by decide, by decide⟩) rfl rfl (Nat.zero_le _) dX7_wantedAddress_57 (fun v11 h10 p9 => ?_)
    have hV := hV v11 h10 p9
    refine g_lstore (pc := 60) X (i := 4) (rest := [(3, Value.int y3), (0, rv w.2.2.2 x0), (1, Value.int x1), (2, Value.int x2)]) (by decide) rfl dX7_wantedAddress_60 (fun y12 e13 => ?_)
    have hV := hV y12 e13
    refine g_lload (pc := 62) X 0 rfl dX7_wantedAddress_62 ?_
    refine g_lconst (pc := 64) (v := (0 : Int64)) X dX7_wantedAddress_64 (by decide) ?_
    refine g_lcmp (pc := 65) X dX7_wantedAddress_65 ?_
    refine g_if_lt (pc := 66) X 73 dX7_wantedAddress_66 (by decide) (fun c14 => ?_) (fun c14 => ?_)
    · have hV := hV.1 c14
      refine g_lload (pc := 73) X 0 rfl dX7_wantedAddress_73 ?_
      exact g_lret (pc := 75) X Tt ⟨_, rfl, rfl, hV⟩ dX7_wantedAddress_75
    · have hV := hV.2 c14
      refine g_iload_n (pc := 69) X 3 rfl rfl dX7_wantedAddress_69 ?_
      refine g_if_ne (pc := 70) X 76 dX7_wantedAddress_70 (by decide) (fun c15 => ?_) (fun c15 => ?_)
      · have hV := hV.1 c15
        refine g_iload_n (pc := 76) X 3 rfl rfl dX7_wantedAddress_76 ?_
        refine g_iconst (pc := 77) (v := (1 : Int32)) X dX7_wantedAddress_77 (by decide) ?_
        refine g_icmp_ne (pc := 78) X 89 dX7_wantedAddress_78 (by decide) (fun c16 => ?_) (fun c16 => ?_)
        · have hV := hV.1 c16
          refine g_aload_n (pc := 89) X 2 rfl rfl dX7_wantedAddress_89 ?_
          refine g_getR (pc := 90) X fl_X7_60 q1 dX7_wantedAddress_90 ?_
          refine g_iload_n (pc := 93) X 3 rfl rfl dX7_wantedAddress_93 ?_
          refine g_iconst (pc := 94) (v := (2 : Int32)) X dX7_wantedAddress_94 (by decide) ?_
          refine g_isub (pc := 95) X dX7_wantedAddress_95 ?_
          obtain ⟨q17, hV⟩ := hV
          obtain ⟨P18, t19, hV⟩ := hV
          refine g_cVI (pc := 96) X (As := [Value.int (x1 - (2 : Int32))]) ml_X7_249 rfl q17 t19 (by rw [hR]; exact ⟨by decide, by decide, by decide, by decide⟩) rfl rfl (Nat.zero_le _) dX7_wantedAddress_96 (fun v22 h21 p20 => ?_)
          have hV := hV v22 h21 p20
          refine g_i2l (pc := 99) X dX7_wantedAddress_99 ?_
          refine g_lload (pc := 100) X 0 rfl dX7_wantedAddress_100 ?_
          refine g_ladd (pc := 102) X dX7_wantedAddress_102 ?_
          exact g_lret (pc := 103) X Tt ⟨_, rfl, rfl, hV⟩ dX7_wantedAddress_103
        · have hV := hV.2 c16
          refine g_iload_n (pc := 81) X 4 rfl rfl dX7_wantedAddress_81 ?_
          refine g_i2l (pc := 82) X dX7_wantedAddress_82 ?_
          refine g_lload (pc := 83) X 0 rfl dX7_wantedAddress_83 ?_
          refine g_lsub (pc := 85) X dX7_wantedAddress_85 ?_
          refine g_goto (pc := 86) X 103 dX7_wantedAddress_86 (by decide) ?_
          exact g_lret (pc := 103) X Tt ⟨_, rfl, rfl, hV⟩ dX7_wantedAddress_103
      · have hV := hV.2 c15
        refine g_lload (pc := 73) X 0 rfl dX7_wantedAddress_73 ?_
        exact g_lret (pc := 75) X Tt ⟨_, rfl, rfl, hV⟩ dX7_wantedAddress_75
  · have hV := hV.2 c5
    refine g_aload_n (pc := 16) X 1 rfl rfl dX7_wantedAddress_16 ?_
    refine g_getR (pc := 17) X fl_X7_24 q1 dX7_wantedAddress_17 ?_
    obtain ⟨q23, hV⟩ := hV
    obtain ⟨P24, t25, hV⟩ := hV
    refine g_cVI (pc := 20) X (As := []) ml_X7_134 rfl q23 t25 (by rw [hR]; exact ⟨by decide, by decide, by decide, by decide⟩) rfl rfl (Nat.zero_le _) dX7_wantedAddress_20 (fun v28 h27 p26 => ?_)
    have hV := hV v28 h27 p26
    refine g_istore (pc := 23) X (i := 4) (rest := [(3, Value.int y3), (0, rv w.2.2.2 x0), (1, Value.int x1), (2, Value.int x2)]) (by decide) rfl dX7_wantedAddress_23 (fun y29 e30 => ?_)
    have hV := hV y29 e30
    refine g_iload (pc := 25) X 0 rfl dX7_wantedAddress_25 ?_
    refine g_if_ge (pc := 27) X 36 dX7_wantedAddress_27 (by decide) (fun c31 => ?_) (fun c31 => ?_)
    · have hV := hV.1 c31
      refine g_aload_n (pc := 36) X 2 rfl rfl dX7_wantedAddress_36 ?_
      refine g_getR (pc := 37) X fl_X7_60 q1 dX7_wantedAddress_37 ?_
      refine g_sipush (pc := 40) (v := (256 : Int32)) X dX7_wantedAddress_40 (by decide) ?_
      refine g_iload_n (pc := 43) X 1 rfl rfl dX7_wantedAddress_43 ?_
      refine g_imul (pc := 44) X dX7_wantedAddress_44 ?_
      refine g_iload (pc := 45) X 0 rfl dX7_wantedAddress_45 ?_
      refine g_iadd (pc := 47) X dX7_wantedAddress_47 ?_
      obtain ⟨q32, hV⟩ := hV
      obtain ⟨P33, t34, hV⟩ := hV
      refine g_cVI (pc := 48) X (As := [Value.int (((256 : Int32) * y3) + y29)]) ml_X7_246 rfl q32 t34 (by rw [hR]; exact ⟨by decide, by decide, by decide, by decide⟩) rfl rfl (Nat.zero_le _) dX7_wantedAddress_48 (fun v37 h36 p35 => ?_)
      have hV := hV v37 h36 p35
      refine g_i2l (pc := 51) X dX7_wantedAddress_51 ?_
      exact g_lret (pc := 52) X Tt ⟨_, rfl, rfl, hV⟩ dX7_wantedAddress_52
    · have hV := hV.2 c31
      refine g_iload (pc := 30) X 0 rfl dX7_wantedAddress_30 ?_
      refine g_i2l (pc := 32) X dX7_wantedAddress_32 ?_
      refine g_goto (pc := 33) X 52 dX7_wantedAddress_33 (by decide) ?_
      exact g_lret (pc := 52) X Tt ⟨_, rfl, rfl, hV⟩ dX7_wantedAddress_52
def C_X7_wantedAddress (w : Wd) (sh : List Sh) (x0 : Nat) (x1 : Int32) (x2 : Int32) (h : Hp) (RET : Int64 → Hp → Prop) : Prop := CJ w yX7_wantedAddress (.code yX7_wantedAddress cX7_wantedAddress 6 (some .long)) 2 45 [rv w.2.2.2 x0, Value.int x1, Value.int x2] sh h RET
theorem K_X7_wantedAddress {w : Wd} {sh : List Sh} {x0 : Nat} {x1 : Int32} {x2 : Int32} {h : Hp} {RET : Int64 → Hp → Prop} (hV : V_X7_wantedAddress_0 w sh x0 x1 x2 h RET) : C_X7_wantedAddress w sh x0 x1 x2 h RET :=
  Ct_of (by decide +kernel) (by simp [lg_sl, rv_cat, cat_int, cat_long]) (fun E X Tt hR _ => by
    rw [show lv_args 0 [rv w.2.2.2 x0, Value.int x1, Value.int x2] = [(0, rv w.2.2.2 x0), (1, Value.int x1), (2, Value.int x2)] from by simp [lv_args, rv_cat, cat_int, cat_long]]
    refine g_lv [0, 1, 2] rfl ?_
    exact W_X7_wantedAddress_0 X Tt hR hV)
def V_X7_runCopy_31 (w : Wd) (sh : List Sh) (x0 : Nat) (h : Hp) (L50 : Nat → Int32 → Int32 → Int32 → Int32 → Hp → Prop) (RET : Int32 → Hp → Prop) : Prop :=
  shAt sh x0 = some (.inr 7) ∧ (∃ P2 : Int32 → Hp → Prop, C_X7_fail w sh x0 (14 : Int32) (h.1 x0 18) h P2 ∧ (∀ (v6 : Int32) (h5 : Hp), P2 v6 h5 → ((v6 = 0 ∨ v6 = 1) ∧ RET v6 h5)))
set_option maxRecDepth 20000 in
set_option maxHeartbeats 4000000 in
theorem W_X7_runCopy_31 {w : Wd} {E : GE} {sh : List Sh} {x0 : Nat} {h : Hp} {L50 : Nat → Int32 → Int32 → Int32 → Int32 → Hp → Prop} {RET : Int32 → Hp → Prop} (X : Cx w E cX7_runCopy 8 RX7) (Tt : Rt w E (some .boolean) sh.length 0 0 (fun q sh9 h9 => ∃ v : Int32, q = some (Value.int v) ∧ sh9 = sh ∧ RET v h9)) (hR : gR E = { frames := 3, cells := 0, slots := 0, locals := 70 }) (hL50 : ∀ (x0 : Nat) (x1 : Int32) (x2 : Int32) (x6 : Int32) (x7 : Int32) (h : Hp), L50 x0 x1 x2 x6 x7 h → G w E 8 50 [(0, rv w.2.2.2 x0), (1, Value.int x1), (2, Value.int x2), (6, Value.int x6), (7, Value.int x7)] [] sh h 0 0) (hV : V_X7_runCopy_31 w sh x0 h L50 RET) : G w E 8 31 [(0, rv w.2.2.2 x0)] [] sh h 0 0 := by
  unfold V_X7_runCopy_31 at hV
  refine g_aload_n (pc := 31) X 0 rfl rfl dX7_runCopy_31 ?_
  refine g_bipush (pc := 32) (v := (14 : Int32)) X dX7_runCopy_32 (by decide) ?_
  refine g_aload_n (pc := 34) X 0 rfl rfl dX7_runCopy_34 ?_
  obtain ⟨q1, hV⟩ := hV
  refine g_getI (pc := 35) X fl_X7_201 q1 dX7_runCopy_35 ?_
  obtain ⟨P2, t3, hV⟩ := hV
  refine g_cVI (pc := 38) X (As := [Value.int (14 : Int32), Value.int (h.1 x0 18)]) ml_X7_114 rfl q1 t3 (by rw [hR]; exact ⟨by decide, by decide, by decide, by decide⟩) rfl rfl (Nat.zero_le _) dX7_runCopy_38 (fun v6 h5 p4 => ?_)
  have hV := hV v6 h5 p4
  exact g_zret (pc := 41) X Tt hV.1 ⟨_, rfl, rfl, hV.2⟩ dX7_runCopy_41
def V_X7_runCopy_50 (w : Wd) (sh : List Sh) (x0 : Nat) (x1 : Int32) (x2 : Int32) (x6 : Int32) (x7 : Int32) (h : Hp) (L50 : Nat → Int32 → Int32 → Int32 → Int32 → Hp → Prop) (RET : Int32 → Hp → Prop) : Prop :=
  ((x1 ≤ x7) → (shAt sh x0 = some (.inr 7) ∧ (shAt sh (h.2.1 x0 1) = some (.inr 0) ∧ (∃ P4 : Hp → Prop, C_X0_keep w sh (h.2.1 x0 1) x6 h P4 ∧ (∀ h7 : Hp, P4 h7 → (shAt sh (h7.2.1 x0 2) = some (.inr 4) ∧ (∃ P9 : Hp → Prop, C_X4_through w sh (h7.2.1 x0 2) (3 : Int32) x1 x6 x2 h7 P9 ∧ (∀ h12 : Hp, P9 h12 → (RET (1 : Int32) h12))))))))) ∧ ((¬ x1 ≤ x7) → (shAt sh x0 = some (.inr 7) ∧ (shAt sh (h.2.1 x0 9) = some (.inr 9) ∧ (∃ P15 : Int32 → Hp → Prop, C_X9_at w sh (h.2.1 x0 9) (x6 + x7) h P15 ∧ (∀ (v19 : Int32) (h18 : Hp), P15 v19 h18 → (shAt sh (h.2.1 x0 11) = some (.inr 8) ∧ (∃ P21 : Hp → Prop, C_X8_push w sh (h.2.1 x0 11) v19 h18 P21 ∧ (∀ h24 : Hp, P21 h24 → (∀ y25 : Int32, y25 = x7 + (1 : Int32) → (L50 x0 x1 x2 x6 y25 h24))))))))))
set_option maxRecDepth 20000 in
set_option maxHeartbeats 4000000 in
theorem W_X7_runCopy_50 {w : Wd} {E : GE} {sh : List Sh} {x0 : Nat} {x1 : Int32} {x2 : Int32} {x6 : Int32} {x7 : Int32} {h : Hp} {L50 : Nat → Int32 → Int32 → Int32 → Int32 → Hp → Prop} {RET : Int32 → Hp → Prop} (X : Cx w E cX7_runCopy 8 RX7) (Tt : Rt w E (some .boolean) sh.length 0 0 (fun q sh9 h9 => ∃ v : Int32, q = some (Value.int v) ∧ sh9 = sh ∧ RET v h9)) (hR : gR E = { frames := 3, cells := 0, slots := 0, locals := 70 }) (hL50 : ∀ (x0 : Nat) (x1 : Int32) (x2 : Int32) (x6 : Int32) (x7 : Int32) (h : Hp), L50 x0 x1 x2 x6 x7 h → G w E 8 50 [(0, rv w.2.2.2 x0), (1, Value.int x1), (2, Value.int x2), (6, Value.int x6), (7, Value.int x7)] [] sh h 0 0) (hV : V_X7_runCopy_50 w sh x0 x1 x2 x6 x7 h L50 RET) : G w E 8 50 [(0, rv w.2.2.2 x0), (1, Value.int x1), (2, Value.int x2), (6, Value.int x6), (7, Value.int x7)] [] sh h 0 0 := by
  unfold V_X7_runCopy_50 at hV
  refine g_iload (pc := 50) X 4 rfl dX7_runCopy_50 ?_
  refine g_iload_n (pc := 52) X 1 rfl rfl dX7_runCopy_52 ?_
  refine g_icmp_ge (pc := 53) X 81 dX7_runCopy_53 (by decide) (fun c1 => ?_) (fun c1 => ?_)
  · have hV := hV.1 c1
    refine g_aload_n (pc := 81) X 0 rfl rfl dX7_runCopy_81 ?_
    obtain ⟨q2, hV⟩ := hV
    refine g_getR (pc := 82) X fl_X7_60 q2 dX7_runCopy_82 ?_
    refine g_iload (pc := 85) X 3 rfl dX7_runCopy_85 ?_
    obtain ⟨q3, hV⟩ := hV
    obtain ⟨P4, t5, hV⟩ := hV
    refine g_cVV (pc := 87) X (As := [Value.int x6]) ml_X7_243 rfl q3 t5 (by rw [hR]; exact ⟨by decide, by decide, by decide, by decide⟩) rfl rfl (Nat.zero_le _) dX7_runCopy_87 (fun h7 p6 => ?_)
    have hV := hV h7 p6
    refine g_aload_n (pc := 90) X 0 rfl rfl dX7_runCopy_90 ?_
    refine g_getR (pc := 91) X fl_X7_64 q2 dX7_runCopy_91 ?_
    refine g_iconst (pc := 94) (v := (3 : Int32)) X dX7_runCopy_94 (by decide) ?_
    refine g_iload_n (pc := 95) X 1 rfl rfl dX7_runCopy_95 ?_
    refine g_iload (pc := 96) X 3 rfl dX7_runCopy_96 ?_
    refine g_iload_n (pc := 98) X 2 rfl rfl dX7_runCopy_98 ?_
    obtain ⟨q8, hV⟩ := hV
    obtain ⟨P9, t10, hV⟩ := hV
    refine g_cVV (pc := 99) X (As := [Value.int (3 : Int32), Value.int x1, Value.int x6, Value.int x2]) ml_X7_231 rfl q8 t10 (by rw [hR]; exact ⟨by decide, by decide, by decide, by decide⟩) rfl rfl (Nat.zero_le _) dX7_runCopy_99 (fun h12 p11 => ?_)
    have hV := hV h12 p11
    refine g_iconst (pc := 102) (v := (1 : Int32)) X dX7_runCopy_102 (by decide) ?_
    exact g_zret (pc := 103) X Tt (by decide) ⟨_, rfl, rfl, hV⟩ dX7_runCopy_103
  · have hV := hV.2 c1
    refine g_aload_n (pc := 56) X 0 rfl rfl dX7_runCopy_56 ?_
    obtain ⟨q13, hV⟩ := hV
    refine g_getR (pc := 57) X fl_X7_46 q13 dX7_runCopy_57 ?_
    refine g_aload_n (pc := 60) X 0 rfl rfl dX7_runCopy_60 ?_
    refine g_getR (pc := 61) X fl_X7_33 q13 dX7_runCopy_61 ?_
    refine g_iload (pc := 64) X 3 rfl dX7_runCopy_64 ?_
    refine g_iload (pc := 66) X 4 rfl dX7_runCopy_66 ?_
    refine g_iadd (pc := 68) X dX7_runCopy_68 ?_
    obtain ⟨q14, hV⟩ := hV
    obtain ⟨P15, t16, hV⟩ := hV
    refine g_cVI (pc := 69) X (As := [Value.int (x6 + x7)]) ml_X7_242 rfl q14 t16 (by rw [hR]; exact ⟨by decide, by decide, by decide, by decide⟩) rfl rfl (by simp [rv_cat, cat_int, cat_long]) dX7_runCopy_69 (fun v19 h18 p17 => ?_)
    have hV := hV v19 h18 p17
    obtain ⟨q20, hV⟩ := hV
    obtain ⟨P21, t22, hV⟩ := hV
    refine g_cVV (pc := 72) X (As := [Value.int v19]) ml_X7_228 rfl q20 t22 (by rw [hR]; exact ⟨by decide, by decide, by decide, by decide⟩) rfl rfl (Nat.zero_le _) dX7_runCopy_72 (fun h24 p23 => ?_)
    have hV := hV h24 p23
    refine g_iinc (pc := 75) X 4 (v := (1 : Int32)) (rest := [(0, rv w.2.2.2 x0), (1, Value.int x1), (2, Value.int x2), (6, Value.int x6)]) rfl (by decide) rfl (by decide) dX7_runCopy_75 (fun y25 e26 => ?_)
    have hV := hV y25 e26
    refine g_goto (pc := 78) X 50 dX7_runCopy_78 (by decide) ?_
    refine g_lv [1, 2, 3, 4, 0] rfl ?_
    exact hL50 x0 x1 x2 x6 y25 h24 hV
def V_X7_runCopy_0 (w : Wd) (sh : List Sh) (x0 : Nat) (x1 : Int32) (x2 : Int32) (h : Hp) (L50 : Nat → Int32 → Int32 → Int32 → Int32 → Hp → Prop) (RET : Int32 → Hp → Prop) : Prop :=
  shAt sh x0 = some (.inr 7) ∧ (shAt sh (h.2.1 x0 9) = some (.inr 9) ∧ (∃ P3 : Int32 → Hp → Prop, C_X9_here w sh (h.2.1 x0 9) h P3 ∧ (∀ (v7 : Int32) (h6 : Hp), P3 v7 h6 → (∀ y8 : Int32, y8 = v7 → (∃ P10 : Int64 → Hp → Prop, C_X7_wantedAddress w sh x0 x2 y8 h6 P10 ∧ (∀ (v14 : Int64) (h13 : Hp), P10 v14 h13 → (∀ y15 : Int64, y15 = v14 → ((((lg_cmp y15 (0 : Int64)) < 0) → (V_X7_runCopy_31 w sh x0 h13 L50 RET)) ∧ ((¬ (lg_cmp y15 (0 : Int64)) < 0) → ((((lg_cmp y15 (y8.toInt64)) < 0) → (∀ y19 : Int32, y19 = (y15.toInt32) → (∀ y21 : Int32, y21 = (0 : Int32) → (L50 x0 x1 x2 y19 y21 h13)))) ∧ ((¬ (lg_cmp y15 (y8.toInt64)) < 0) → (V_X7_runCopy_31 w sh x0 h13 L50 RET))))))))))))
set_option maxRecDepth 20000 in
set_option maxHeartbeats 4000000 in
theorem W_X7_runCopy_0 {w : Wd} {E : GE} {sh : List Sh} {x0 : Nat} {x1 : Int32} {x2 : Int32} {h : Hp} {L50 : Nat → Int32 → Int32 → Int32 → Int32 → Hp → Prop} {RET : Int32 → Hp → Prop} (X : Cx w E cX7_runCopy 8 RX7) (Tt : Rt w E (some .boolean) sh.length 0 0 (fun q sh9 h9 => ∃ v : Int32, q = some (Value.int v) ∧ sh9 = sh ∧ RET v h9)) (hR : gR E = { frames := 3, cells := 0, slots := 0, locals := 70 }) (hL50 : ∀ (x0 : Nat) (x1 : Int32) (x2 : Int32) (x6 : Int32) (x7 : Int32) (h : Hp), L50 x0 x1 x2 x6 x7 h → G w E 8 50 [(0, rv w.2.2.2 x0), (1, Value.int x1), (2, Value.int x2), (6, Value.int x6), (7, Value.int x7)] [] sh h 0 0) (hV : V_X7_runCopy_0 w sh x0 x1 x2 h L50 RET) : G w E 8 0 [(0, rv w.2.2.2 x0), (1, Value.int x1), (2, Value.int x2)] [] sh h 0 0 := by
  unfold V_X7_runCopy_0 at hV
  refine g_aload_n (pc := 0) X 0 rfl rfl dX7_runCopy_0 ?_
  obtain ⟨q1, hV⟩ := hV
  refine g_getR (pc := 1) X fl_X7_33 q1 dX7_runCopy_1 ?_
  obtain ⟨q2, hV⟩ := hV
  obtain ⟨P3, t4, hV⟩ := hV
  refine g_cVI (pc := 4) X (As := []) ml_X7_235 rfl q2 t4 (by rw [hR]; exact ⟨by decide, by decide, by decide, by decide⟩) rfl rfl (Nat.zero_le _) dX7_runCopy_4 (fun v7 h6 p5 => ?_)
  have hV := hV v7 h6 p5
  refine g_istore_n (pc := 7) X (i := 3) (rest := [(0, rv w.2.2.2 x0), (1, Value.int x1), (2, Value.int x2)]) rfl (by decide) rfl dX7_runCopy_7 (fun y8 e9 => ?_)
  have hV := hV y8 e9
  refine g_aload_n (pc := 8) X 1 rfl rfl dX7_runCopy_8 ?_
  refine g_iload_n (pc := 9) X 3 rfl rfl dX7_runCopy_9 ?_
  refine g_iload_n (pc := 10) X 0 rfl rfl dX7_runCopy_10 ?_
  obtain ⟨P10, t11, hV⟩ := hV
  refine g_cVJ (pc := 11) X (As := [Value.int x2, Value.int y8]) ml_X7_238 rfl q1 t11 (by rw [hR]; exact ⟨by decide, by decide, by decide, by decide⟩) rfl rfl (Nat.zero_le _) dX7_runCopy_11 (fun v14 h13 p12 => ?_)
  have hV := hV v14 h13 p12
  refine g_lstore (pc := 14) X (i := 4) (rest := [(3, Value.int y8), (0, rv w.2.2.2 x0), (1, Value.int x1), (2, Value.int x2)]) (by decide) rfl dX7_runCopy_14 (fun y15 e16 => ?_)
  have hV := hV y15 e16
  refine g_lload (pc := 16) X 0 rfl dX7_runCopy_16 ?_
  refine g_lconst (pc := 18) (v := (0 : Int64)) X dX7_runCopy_18 (by decide) ?_
  refine g_lcmp (pc := 19) X dX7_runCopy_19 ?_
  refine g_if_lt (pc := 20) X 31 dX7_runCopy_20 (by decide) (fun c17 => ?_) (fun c17 => ?_)
  · have hV := hV.1 c17
    refine g_lv [2] rfl ?_
    exact W_X7_runCopy_31 X Tt hR hL50 hV
  · have hV := hV.2 c17
    refine g_lload (pc := 23) X 0 rfl dX7_runCopy_23 ?_
    refine g_iload_n (pc := 25) X 1 rfl rfl dX7_runCopy_25 ?_
    refine g_i2l (pc := 26) X dX7_runCopy_26 ?_
    refine g_lcmp (pc := 27) X dX7_runCopy_27 ?_
    refine g_if_lt (pc := 28) X 42 dX7_runCopy_28 (by decide) (fun c18 => ?_) (fun c18 => ?_)
    · have hV := hV.1 c18
      refine g_lload (pc := 42) X 0 rfl dX7_runCopy_42 ?_
      refine g_l2i (pc := 44) X dX7_runCopy_44 ?_
      refine g_istore (pc := 45) X (i := 6) (rest := [(4, Value.long y15), (3, Value.int y8), (0, rv w.2.2.2 x0), (1, Value.int x1), (2, Value.int x2)]) (by decide) rfl dX7_runCopy_45 (fun y19 e20 => ?_)
      have hV := hV y19 e20
      refine g_iconst (pc := 47) (v := (0 : Int32)) X dX7_runCopy_47 (by decide) ?_
      refine g_istore (pc := 48) X (i := 7) (rest := [(6, Value.int y19), (4, Value.long y15), (3, Value.int y8), (0, rv w.2.2.2 x0), (1, Value.int x1), (2, Value.int x2)]) (by decide) rfl dX7_runCopy_48 (fun y21 e22 => ?_)
      have hV := hV y21 e22
      refine g_lv [4, 5, 6, 1, 0] rfl ?_
      exact hL50 x0 x1 x2 y19 y21 h13 hV
    · have hV := hV.2 c18
      refine g_lv [2] rfl ?_
      exact W_X7_runCopy_31 X Tt hR hL50 hV
def C_X7_runCopy (w : Wd) (sh : List Sh) (x0 : Nat) (x1 : Int32) (x2 : Int32) (h : Hp) (RET : Int32 → Hp → Prop) : Prop := CI w yX7_runCopy (.code yX7_runCopy cX7_runCopy 8 (some .boolean)) 3 70 [rv w.2.2.2 x0, Value.int x1, Value.int x2] sh h RET
set_option maxRecDepth 20000 in
theorem K_X7_runCopy {w : Wd} {sh : List Sh} {x0 : Nat} {x1 : Int32} {x2 : Int32} {h : Hp} {RET : Int32 → Hp → Prop} {α : Type} {r : α → α → Prop} (wf : WellFounded r) (I50 : α → Nat → Int32 → Int32 → Int32 → Int32 → Hp → Prop) (hE : V_X7_runCopy_0 w sh x0 x1 x2 h (fun x0 x1 x2 x6 x7 h => ∃ a, I50 a x0 x1 x2 x6 x7 h) RET) (h50 : ∀ (b : α) (x0 : Nat) (x1 : Int32) (x2 : Int32) (x6 : Int32) (x7 : Int32) (h : Hp), I50 b x0 x1 x2 x6 x7 h → V_X7_runCopy_50 w sh x0 x1 x2 x6 x7 h (fun x0 x1 x2 x6 x7 h => ∃ a, r a b ∧ I50 a x0 x1 x2 x6 x7 h) RET) : C_X7_runCopy w sh x0 x1 x2 h RET :=
  Ct_of (by decide +kernel) (by simp [lg_sl, rv_cat, cat_int, cat_long]) (fun E X Tt hR _ => by
    have key : ∀ a : α, (∀ (x0 : Nat) (x1 : Int32) (x2 : Int32) (x6 : Int32) (x7 : Int32) (h : Hp), I50 a x0 x1 x2 x6 x7 h → G w E 8 50 [(0, rv w.2.2.2 x0), (1, Value.int x1), (2, Value.int x2), (6, Value.int x6), (7, Value.int x7)] [] sh h 0 0) := by
      intro a
      induction a using wf.induction with
      | _ a ih =>
        exact (fun x0 x1 x2 x6 x7 h hi => W_X7_runCopy_50 X Tt hR (fun x0 x1 x2 x6 x7 h hx => by obtain ⟨a2, ha, hi⟩ := hx; exact (ih a2 ha) x0 x1 x2 x6 x7 h hi) (h50 a x0 x1 x2 x6 x7 h hi))
    rw [show lv_args 0 [rv w.2.2.2 x0, Value.int x1, Value.int x2] = [(0, rv w.2.2.2 x0), (1, Value.int x1), (2, Value.int x2)] from by simp [lv_args, rv_cat, cat_int, cat_long]]
    refine g_lv [0, 1, 2] rfl ?_
    exact W_X7_runCopy_0 X Tt hR (fun x0 x1 x2 x6 x7 h hx => by obtain ⟨a2, hi⟩ := hx; exact (key a2) x0 x1 x2 x6 x7 h hi) hE)
def V_X7_runAdd_24 (w : Wd) (sh : List Sh) (x0 : Nat) (x1 : Int32) (x2 : Int32) (h : Hp) (L24 : Nat → Int32 → Int32 → Hp → Prop) (RET : Int32 → Hp → Prop) : Prop :=
  ((x1 ≤ x2) → (shAt sh x0 = some (.inr 7) ∧ (shAt sh (h.2.1 x0 2) = some (.inr 4) ∧ (∃ P4 : Hp → Prop, C_X4_through w sh (h.2.1 x0 2) (1 : Int32) x1 (-1 : Int32) (0 : Int32) h P4 ∧ (∀ h7 : Hp, P4 h7 → (RET (1 : Int32) h7)))))) ∧ ((¬ x1 ≤ x2) → (shAt sh x0 = some (.inr 7) ∧ (shAt sh (h.2.1 x0 5) = some (.inr 2) ∧ (∃ P10 : Int32 → Hp → Prop, C_X2_next w sh (h.2.1 x0 5) h P10 ∧ (∀ (v14 : Int32) (h13 : Hp), P10 v14 h13 → (shAt sh (h.2.1 x0 11) = some (.inr 8) ∧ (∃ P16 : Hp → Prop, C_X8_push w sh (h.2.1 x0 11) v14 h13 P16 ∧ (∀ h19 : Hp, P16 h19 → (∀ y20 : Int32, y20 = x2 + (1 : Int32) → (L24 x0 x1 y20 h19))))))))))
set_option maxRecDepth 20000 in
set_option maxHeartbeats 4000000 in
theorem W_X7_runAdd_24 {w : Wd} {E : GE} {sh : List Sh} {x0 : Nat} {x1 : Int32} {x2 : Int32} {h : Hp} {L24 : Nat → Int32 → Int32 → Hp → Prop} {RET : Int32 → Hp → Prop} (X : Cx w E cX7_runAdd 3 RX7) (Tt : Rt w E (some .boolean) sh.length 0 0 (fun q sh9 h9 => ∃ v : Int32, q = some (Value.int v) ∧ sh9 = sh ∧ RET v h9)) (hR : gR E = { frames := 2, cells := 0, slots := 0, locals := 47 }) (hL24 : ∀ (x0 : Nat) (x1 : Int32) (x2 : Int32) (h : Hp), L24 x0 x1 x2 h → G w E 3 24 [(0, rv w.2.2.2 x0), (1, Value.int x1), (2, Value.int x2)] [] sh h 0 0) (hV : V_X7_runAdd_24 w sh x0 x1 x2 h L24 RET) : G w E 3 24 [(0, rv w.2.2.2 x0), (1, Value.int x1), (2, Value.int x2)] [] sh h 0 0 := by
  unfold V_X7_runAdd_24 at hV
  refine g_iload_n (pc := 24) X 2 rfl rfl dX7_runAdd_24 ?_
  refine g_iload_n (pc := 25) X 1 rfl rfl dX7_runAdd_25 ?_
  refine g_icmp_ge (pc := 26) X 49 dX7_runAdd_26 (by decide) (fun c1 => ?_) (fun c1 => ?_)
  · have hV := hV.1 c1
    refine g_aload_n (pc := 49) X 0 rfl rfl dX7_runAdd_49 ?_
    obtain ⟨q2, hV⟩ := hV
    refine g_getR (pc := 50) X fl_X7_64 q2 dX7_runAdd_50 ?_
    refine g_iconst (pc := 53) (v := (1 : Int32)) X dX7_runAdd_53 (by decide) ?_
    refine g_iload_n (pc := 54) X 1 rfl rfl dX7_runAdd_54 ?_
    refine g_iconst (pc := 55) (v := (-1 : Int32)) X dX7_runAdd_55 (by decide) ?_
    refine g_iconst (pc := 56) (v := (0 : Int32)) X dX7_runAdd_56 (by decide) ?_
    obtain ⟨q3, hV⟩ := hV
    obtain ⟨P4, t5, hV⟩ := hV
    refine g_cVV (pc := 57) X (As := [Value.int (1 : Int32), Value.int x1, Value.int (-1 : Int32), Value.int (0 : Int32)]) ml_X7_231 rfl q3 t5 (by rw [hR]; exact ⟨by decide, by decide, by decide, by decide⟩) rfl rfl (Nat.zero_le _) dX7_runAdd_57 (fun h7 p6 => ?_)
    have hV := hV h7 p6
    refine g_iconst (pc := 60) (v := (1 : Int32)) X dX7_runAdd_60 (by decide) ?_
    exact g_zret (pc := 61) X Tt (by decide) ⟨_, rfl, rfl, hV⟩ dX7_runAdd_61
  · have hV := hV.2 c1
    refine g_aload_n (pc := 29) X 0 rfl rfl dX7_runAdd_29 ?_
    obtain ⟨q8, hV⟩ := hV
    refine g_getR (pc := 30) X fl_X7_46 q8 dX7_runAdd_30 ?_
    refine g_aload_n (pc := 33) X 0 rfl rfl dX7_runAdd_33 ?_
    refine g_getR (pc := 34) X fl_X7_18 q8 dX7_runAdd_34 ?_
    obtain ⟨q9, hV⟩ := hV
    obtain ⟨P10, t11, hV⟩ := hV
    refine g_cVI (pc := 37) X (As := []) ml_X7_134 rfl q9 t11 (by rw [hR]; exact ⟨by decide, by decide, by decide, by decide⟩) rfl rfl (by simp [rv_cat, cat_int, cat_long]) dX7_runAdd_37 (fun v14 h13 p12 => ?_)
    have hV := hV v14 h13 p12
    obtain ⟨q15, hV⟩ := hV
    obtain ⟨P16, t17, hV⟩ := hV
    refine g_cVV (pc := 40) X (As := [Value.int v14]) ml_X7_228 rfl q15 t17 (by rw [hR]; exact ⟨by decide, by decide, by decide, by decide⟩) rfl rfl (Nat.zero_le _) dX7_runAdd_40 (fun h19 p18 => ?_)
    have hV := hV h19 p18
    refine g_iinc (pc := 43) X 2 (v := (1 : Int32)) (rest := [(0, rv w.2.2.2 x0), (1, Value.int x1)]) rfl (by decide) rfl (by decide) dX7_runAdd_43 (fun y20 e21 => ?_)
    have hV := hV y20 e21
    refine g_goto (pc := 46) X 24 dX7_runAdd_46 (by decide) ?_
    refine g_lv [1, 2, 0] rfl ?_
    exact hL24 x0 x1 y20 h19 hV
def V_X7_runAdd_0 (w : Wd) (sh : List Sh) (x0 : Nat) (x1 : Int32) (h : Hp) (L24 : Nat → Int32 → Int32 → Hp → Prop) (RET : Int32 → Hp → Prop) : Prop :=
  shAt sh x0 = some (.inr 7) ∧ (shAt sh (h.2.1 x0 5) = some (.inr 2) ∧ (∃ P3 : Int32 → Hp → Prop, C_X2_left w sh (h.2.1 x0 5) h P3 ∧ (∀ (v7 : Int32) (h6 : Hp), P3 v7 h6 → (((x1 ≤ v7) → (∀ y9 : Int32, y9 = (0 : Int32) → (L24 x0 x1 y9 h6))) ∧ ((¬ x1 ≤ v7) → (∃ P11 : Int32 → Hp → Prop, C_X7_fail w sh x0 (12 : Int32) (h6.1 x0 18) h6 P11 ∧ (∀ (v15 : Int32) (h14 : Hp), P11 v15 h14 → ((v15 = 0 ∨ v15 = 1) ∧ RET v15 h14))))))))
set_option maxRecDepth 20000 in
set_option maxHeartbeats 4000000 in
theorem W_X7_runAdd_0 {w : Wd} {E : GE} {sh : List Sh} {x0 : Nat} {x1 : Int32} {h : Hp} {L24 : Nat → Int32 → Int32 → Hp → Prop} {RET : Int32 → Hp → Prop} (X : Cx w E cX7_runAdd 3 RX7) (Tt : Rt w E (some .boolean) sh.length 0 0 (fun q sh9 h9 => ∃ v : Int32, q = some (Value.int v) ∧ sh9 = sh ∧ RET v h9)) (hR : gR E = { frames := 2, cells := 0, slots := 0, locals := 47 }) (hL24 : ∀ (x0 : Nat) (x1 : Int32) (x2 : Int32) (h : Hp), L24 x0 x1 x2 h → G w E 3 24 [(0, rv w.2.2.2 x0), (1, Value.int x1), (2, Value.int x2)] [] sh h 0 0) (hV : V_X7_runAdd_0 w sh x0 x1 h L24 RET) : G w E 3 0 [(0, rv w.2.2.2 x0), (1, Value.int x1)] [] sh h 0 0 := by
  unfold V_X7_runAdd_0 at hV
  refine g_iload_n (pc := 0) X 1 rfl rfl dX7_runAdd_0 ?_
  refine g_aload_n (pc := 1) X 0 rfl rfl dX7_runAdd_1 ?_
  obtain ⟨q1, hV⟩ := hV
  refine g_getR (pc := 2) X fl_X7_18 q1 dX7_runAdd_2 ?_
  obtain ⟨q2, hV⟩ := hV
  obtain ⟨P3, t4, hV⟩ := hV
  refine g_cVI (pc := 5) X (As := []) ml_X7_107 rfl q2 t4 (by rw [hR]; exact ⟨by decide, by decide, by decide, by decide⟩) rfl rfl (Nat.le_of_ble_eq_true rfl) dX7_runAdd_5 (fun v7 h6 p5 => ?_)
  have hV := hV v7 h6 p5
  refine g_icmp_le (pc := 8) X 22 dX7_runAdd_8 (by decide) (fun c8 => ?_) (fun c8 => ?_)
  · have hV := hV.1 c8
    refine g_iconst (pc := 22) (v := (0 : Int32)) X dX7_runAdd_22 (by decide) ?_
    refine g_istore_n (pc := 23) X (i := 2) (rest := [(0, rv w.2.2.2 x0), (1, Value.int x1)]) rfl (by decide) rfl dX7_runAdd_23 (fun y9 e10 => ?_)
    have hV := hV y9 e10
    refine g_lv [1, 2, 0] rfl ?_
    exact hL24 x0 x1 y9 h6 hV
  · have hV := hV.2 c8
    refine g_aload_n (pc := 11) X 0 rfl rfl dX7_runAdd_11 ?_
    refine g_bipush (pc := 12) (v := (12 : Int32)) X dX7_runAdd_12 (by decide) ?_
    refine g_aload_n (pc := 14) X 0 rfl rfl dX7_runAdd_14 ?_
    refine g_getI (pc := 15) X fl_X7_201 q1 dX7_runAdd_15 ?_
    obtain ⟨P11, t12, hV⟩ := hV
    refine g_cVI (pc := 18) X (As := [Value.int (12 : Int32), Value.int (h6.1 x0 18)]) ml_X7_114 rfl q1 t12 (by rw [hR]; exact ⟨by decide, by decide, by decide, by decide⟩) rfl rfl (Nat.zero_le _) dX7_runAdd_18 (fun v15 h14 p13 => ?_)
    have hV := hV v15 h14 p13
    exact g_zret (pc := 21) X Tt hV.1 ⟨_, rfl, rfl, hV.2⟩ dX7_runAdd_21
def C_X7_runAdd (w : Wd) (sh : List Sh) (x0 : Nat) (x1 : Int32) (h : Hp) (RET : Int32 → Hp → Prop) : Prop := CI w yX7_runAdd (.code yX7_runAdd cX7_runAdd 3 (some .boolean)) 2 47 [rv w.2.2.2 x0, Value.int x1] sh h RET
set_option maxRecDepth 20000 in
theorem K_X7_runAdd {w : Wd} {sh : List Sh} {x0 : Nat} {x1 : Int32} {h : Hp} {RET : Int32 → Hp → Prop} {α : Type} {r : α → α → Prop} (wf : WellFounded r) (I24 : α → Nat → Int32 → Int32 → Hp → Prop) (hE : V_X7_runAdd_0 w sh x0 x1 h (fun x0 x1 x2 h => ∃ a, I24 a x0 x1 x2 h) RET) (h24 : ∀ (b : α) (x0 : Nat) (x1 : Int32) (x2 : Int32) (h : Hp), I24 b x0 x1 x2 h → V_X7_runAdd_24 w sh x0 x1 x2 h (fun x0 x1 x2 h => ∃ a, r a b ∧ I24 a x0 x1 x2 h) RET) : C_X7_runAdd w sh x0 x1 h RET :=
  Ct_of (by decide +kernel) (by simp [lg_sl, rv_cat, cat_int, cat_long]) (fun E X Tt hR _ => by
    have key : ∀ a : α, (∀ (x0 : Nat) (x1 : Int32) (x2 : Int32) (h : Hp), I24 a x0 x1 x2 h → G w E 3 24 [(0, rv w.2.2.2 x0), (1, Value.int x1), (2, Value.int x2)] [] sh h 0 0) := by
      intro a
      induction a using wf.induction with
      | _ a ih =>
        exact (fun x0 x1 x2 h hi => W_X7_runAdd_24 X Tt hR (fun x0 x1 x2 h hx => by obtain ⟨a2, ha, hi⟩ := hx; exact (ih a2 ha) x0 x1 x2 h hi) (h24 a x0 x1 x2 h hi))
    rw [show lv_args 0 [rv w.2.2.2 x0, Value.int x1] = [(0, rv w.2.2.2 x0), (1, Value.int x1)] from by simp [lv_args, rv_cat, cat_int, cat_long]]
    refine g_lv [0, 1] rfl ?_
    exact W_X7_runAdd_0 X Tt hR (fun x0 x1 x2 h hx => by obtain ⟨a2, hi⟩ := hx; exact (key a2) x0 x1 x2 h hi) hE)
def V_X7_runRun_25 (w : Wd) (sh : List Sh) (x0 : Nat) (x1 : Int32) (x2 : Int32) (x3 : Int32) (h : Hp) (L25 : Nat → Int32 → Int32 → Int32 → Hp → Prop) (RET : Int32 → Hp → Prop) : Prop :=
  ((x1 ≤ x3) → (shAt sh x0 = some (.inr 7) ∧ (shAt sh (h.2.1 x0 2) = some (.inr 4) ∧ (∃ P4 : Hp → Prop, C_X4_through w sh (h.2.1 x0 2) (2 : Int32) x1 (-1 : Int32) (0 : Int32) h P4 ∧ (∀ h7 : Hp, P4 h7 → (RET (1 : Int32) h7)))))) ∧ ((¬ x1 ≤ x3) → (shAt sh x0 = some (.inr 7) ∧ (shAt sh (h.2.1 x0 11) = some (.inr 8) ∧ (∃ P10 : Hp → Prop, C_X8_push w sh (h.2.1 x0 11) x2 h P10 ∧ (∀ h13 : Hp, P10 h13 → (∀ y14 : Int32, y14 = x3 + (1 : Int32) → (L25 x0 x1 x2 y14 h13)))))))
set_option maxRecDepth 20000 in
set_option maxHeartbeats 4000000 in
theorem W_X7_runRun_25 {w : Wd} {E : GE} {sh : List Sh} {x0 : Nat} {x1 : Int32} {x2 : Int32} {x3 : Int32} {h : Hp} {L25 : Nat → Int32 → Int32 → Int32 → Hp → Prop} {RET : Int32 → Hp → Prop} (X : Cx w E cX7_runRun 4 RX7) (Tt : Rt w E (some .boolean) sh.length 0 0 (fun q sh9 h9 => ∃ v : Int32, q = some (Value.int v) ∧ sh9 = sh ∧ RET v h9)) (hR : gR E = { frames := 2, cells := 0, slots := 0, locals := 47 }) (hL25 : ∀ (x0 : Nat) (x1 : Int32) (x2 : Int32) (x3 : Int32) (h : Hp), L25 x0 x1 x2 x3 h → G w E 4 25 [(0, rv w.2.2.2 x0), (1, Value.int x1), (2, Value.int x2), (3, Value.int x3)] [] sh h 0 0) (hV : V_X7_runRun_25 w sh x0 x1 x2 x3 h L25 RET) : G w E 4 25 [(0, rv w.2.2.2 x0), (1, Value.int x1), (2, Value.int x2), (3, Value.int x3)] [] sh h 0 0 := by
  unfold V_X7_runRun_25 at hV
  refine g_iload_n (pc := 25) X 3 rfl rfl dX7_runRun_25 ?_
  refine g_iload_n (pc := 26) X 1 rfl rfl dX7_runRun_26 ?_
  refine g_icmp_ge (pc := 27) X 44 dX7_runRun_27 (by decide) (fun c1 => ?_) (fun c1 => ?_)
  · have hV := hV.1 c1
    refine g_aload_n (pc := 44) X 0 rfl rfl dX7_runRun_44 ?_
    obtain ⟨q2, hV⟩ := hV
    refine g_getR (pc := 45) X fl_X7_64 q2 dX7_runRun_45 ?_
    refine g_iconst (pc := 48) (v := (2 : Int32)) X dX7_runRun_48 (by decide) ?_
    refine g_iload_n (pc := 49) X 1 rfl rfl dX7_runRun_49 ?_
    refine g_iconst (pc := 50) (v := (-1 : Int32)) X dX7_runRun_50 (by decide) ?_
    refine g_iconst (pc := 51) (v := (0 : Int32)) X dX7_runRun_51 (by decide) ?_
    obtain ⟨q3, hV⟩ := hV
    obtain ⟨P4, t5, hV⟩ := hV
    refine g_cVV (pc := 52) X (As := [Value.int (2 : Int32), Value.int x1, Value.int (-1 : Int32), Value.int (0 : Int32)]) ml_X7_231 rfl q3 t5 (by rw [hR]; exact ⟨by decide, by decide, by decide, by decide⟩) rfl rfl (Nat.zero_le _) dX7_runRun_52 (fun h7 p6 => ?_)
    have hV := hV h7 p6
    refine g_iconst (pc := 55) (v := (1 : Int32)) X dX7_runRun_55 (by decide) ?_
    exact g_zret (pc := 56) X Tt (by decide) ⟨_, rfl, rfl, hV⟩ dX7_runRun_56
  · have hV := hV.2 c1
    refine g_aload_n (pc := 30) X 0 rfl rfl dX7_runRun_30 ?_
    obtain ⟨q8, hV⟩ := hV
    refine g_getR (pc := 31) X fl_X7_46 q8 dX7_runRun_31 ?_
    refine g_iload_n (pc := 34) X 2 rfl rfl dX7_runRun_34 ?_
    obtain ⟨q9, hV⟩ := hV
    obtain ⟨P10, t11, hV⟩ := hV
    refine g_cVV (pc := 35) X (As := [Value.int x2]) ml_X7_228 rfl q9 t11 (by rw [hR]; exact ⟨by decide, by decide, by decide, by decide⟩) rfl rfl (Nat.zero_le _) dX7_runRun_35 (fun h13 p12 => ?_)
    have hV := hV h13 p12
    refine g_iinc (pc := 38) X 3 (v := (1 : Int32)) (rest := [(0, rv w.2.2.2 x0), (1, Value.int x1), (2, Value.int x2)]) rfl (by decide) rfl (by decide) dX7_runRun_38 (fun y14 e15 => ?_)
    have hV := hV y14 e15
    refine g_goto (pc := 41) X 25 dX7_runRun_41 (by decide) ?_
    refine g_lv [1, 2, 3, 0] rfl ?_
    exact hL25 x0 x1 x2 y14 h13 hV
def V_X7_runRun_0 (w : Wd) (sh : List Sh) (x0 : Nat) (x1 : Int32) (h : Hp) (L25 : Nat → Int32 → Int32 → Int32 → Hp → Prop) (RET : Int32 → Hp → Prop) : Prop :=
  shAt sh x0 = some (.inr 7) ∧ (shAt sh (h.2.1 x0 5) = some (.inr 2) ∧ (∃ P3 : Int32 → Hp → Prop, C_X2_next w sh (h.2.1 x0 5) h P3 ∧ (∀ (v7 : Int32) (h6 : Hp), P3 v7 h6 → (∀ y8 : Int32, y8 = v7 → (((0 ≤ y8) → (∀ y11 : Int32, y11 = (0 : Int32) → (L25 x0 x1 y8 y11 h6))) ∧ ((¬ 0 ≤ y8) → (∃ P13 : Int32 → Hp → Prop, C_X7_fail w sh x0 (12 : Int32) (h6.1 x0 18) h6 P13 ∧ (∀ (v17 : Int32) (h16 : Hp), P13 v17 h16 → ((v17 = 0 ∨ v17 = 1) ∧ RET v17 h16)))))))))
set_option maxRecDepth 20000 in
set_option maxHeartbeats 4000000 in
theorem W_X7_runRun_0 {w : Wd} {E : GE} {sh : List Sh} {x0 : Nat} {x1 : Int32} {h : Hp} {L25 : Nat → Int32 → Int32 → Int32 → Hp → Prop} {RET : Int32 → Hp → Prop} (X : Cx w E cX7_runRun 4 RX7) (Tt : Rt w E (some .boolean) sh.length 0 0 (fun q sh9 h9 => ∃ v : Int32, q = some (Value.int v) ∧ sh9 = sh ∧ RET v h9)) (hR : gR E = { frames := 2, cells := 0, slots := 0, locals := 47 }) (hL25 : ∀ (x0 : Nat) (x1 : Int32) (x2 : Int32) (x3 : Int32) (h : Hp), L25 x0 x1 x2 x3 h → G w E 4 25 [(0, rv w.2.2.2 x0), (1, Value.int x1), (2, Value.int x2), (3, Value.int x3)] [] sh h 0 0) (hV : V_X7_runRun_0 w sh x0 x1 h L25 RET) : G w E 4 0 [(0, rv w.2.2.2 x0), (1, Value.int x1)] [] sh h 0 0 := by
  unfold V_X7_runRun_0 at hV
  refine g_aload_n (pc := 0) X 0 rfl rfl dX7_runRun_0 ?_
  obtain ⟨q1, hV⟩ := hV
  refine g_getR (pc := 1) X fl_X7_18 q1 dX7_runRun_1 ?_
  obtain ⟨q2, hV⟩ := hV
  obtain ⟨P3, t4, hV⟩ := hV
  refine g_cVI (pc := 4) X (As := []) ml_X7_134 rfl q2 t4 (by rw [hR]; exact ⟨by decide, by decide, by decide, by decide⟩) rfl rfl (Nat.zero_le _) dX7_runRun_4 (fun v7 h6 p5 => ?_)
  have hV := hV v7 h6 p5
  refine g_istore_n (pc := 7) X (i := 2) (rest := [(0, rv w.2.2.2 x0), (1, Value.int x1)]) rfl (by decide) rfl dX7_runRun_7 (fun y8 e9 => ?_)
  have hV := hV y8 e9
  refine g_iload_n (pc := 8) X 0 rfl rfl dX7_runRun_8 ?_
  refine g_if_ge (pc := 9) X 23 dX7_runRun_9 (by decide) (fun c10 => ?_) (fun c10 => ?_)
  · have hV := hV.1 c10
    refine g_iconst (pc := 23) (v := (0 : Int32)) X dX7_runRun_23 (by decide) ?_
    refine g_istore_n (pc := 24) X (i := 3) (rest := [(2, Value.int y8), (0, rv w.2.2.2 x0), (1, Value.int x1)]) rfl (by decide) rfl dX7_runRun_24 (fun y11 e12 => ?_)
    have hV := hV y11 e12
    refine g_lv [2, 3, 1, 0] rfl ?_
    exact hL25 x0 x1 y8 y11 h6 hV
  · have hV := hV.2 c10
    refine g_aload_n (pc := 12) X 1 rfl rfl dX7_runRun_12 ?_
    refine g_bipush (pc := 13) (v := (12 : Int32)) X dX7_runRun_13 (by decide) ?_
    refine g_aload_n (pc := 15) X 1 rfl rfl dX7_runRun_15 ?_
    refine g_getI (pc := 16) X fl_X7_201 q1 dX7_runRun_16 ?_
    obtain ⟨P13, t14, hV⟩ := hV
    refine g_cVI (pc := 19) X (As := [Value.int (12 : Int32), Value.int (h6.1 x0 18)]) ml_X7_114 rfl q1 t14 (by rw [hR]; exact ⟨by decide, by decide, by decide, by decide⟩) rfl rfl (Nat.zero_le _) dX7_runRun_19 (fun v17 h16 p15 => ?_)
    have hV := hV v17 h16 p15
    exact g_zret (pc := 22) X Tt hV.1 ⟨_, rfl, rfl, hV.2⟩ dX7_runRun_22
def C_X7_runRun (w : Wd) (sh : List Sh) (x0 : Nat) (x1 : Int32) (h : Hp) (RET : Int32 → Hp → Prop) : Prop := CI w yX7_runRun (.code yX7_runRun cX7_runRun 4 (some .boolean)) 2 47 [rv w.2.2.2 x0, Value.int x1] sh h RET
set_option maxRecDepth 20000 in
theorem K_X7_runRun {w : Wd} {sh : List Sh} {x0 : Nat} {x1 : Int32} {h : Hp} {RET : Int32 → Hp → Prop} {α : Type} {r : α → α → Prop} (wf : WellFounded r) (I25 : α → Nat → Int32 → Int32 → Int32 → Hp → Prop) (hE : V_X7_runRun_0 w sh x0 x1 h (fun x0 x1 x2 x3 h => ∃ a, I25 a x0 x1 x2 x3 h) RET) (h25 : ∀ (b : α) (x0 : Nat) (x1 : Int32) (x2 : Int32) (x3 : Int32) (h : Hp), I25 b x0 x1 x2 x3 h → V_X7_runRun_25 w sh x0 x1 x2 x3 h (fun x0 x1 x2 x3 h => ∃ a, r a b ∧ I25 a x0 x1 x2 x3 h) RET) : C_X7_runRun w sh x0 x1 h RET :=
  Ct_of (by decide +kernel) (by simp [lg_sl, rv_cat, cat_int, cat_long]) (fun E X Tt hR _ => by
    have key : ∀ a : α, (∀ (x0 : Nat) (x1 : Int32) (x2 : Int32) (x3 : Int32) (h : Hp), I25 a x0 x1 x2 x3 h → G w E 4 25 [(0, rv w.2.2.2 x0), (1, Value.int x1), (2, Value.int x2), (3, Value.int x3)] [] sh h 0 0) := by
      intro a
      induction a using wf.induction with
      | _ a ih =>
        exact (fun x0 x1 x2 x3 h hi => W_X7_runRun_25 X Tt hR (fun x0 x1 x2 x3 h hx => by obtain ⟨a2, ha, hi⟩ := hx; exact (ih a2 ha) x0 x1 x2 x3 h hi) (h25 a x0 x1 x2 x3 h hi))
    rw [show lv_args 0 [rv w.2.2.2 x0, Value.int x1] = [(0, rv w.2.2.2 x0), (1, Value.int x1)] from by simp [lv_args, rv_cat, cat_int, cat_long]]
    refine g_lv [0, 1] rfl ?_
    exact W_X7_runRun_0 X Tt hR (fun x0 x1 x2 x3 h hx => by obtain ⟨a2, hi⟩ := hx; exact (key a2) x0 x1 x2 x3 h hi) hE)
def V_X7_runHalf_48 (w : Wd) (sh : List Sh) (x0 : Nat) (x1 : Int32) (x2 : Int32) (x3 : Int32) (x4 : Int64) (h : Hp)  (RET : Int32 → Hp → Prop) : Prop :=
  ((0 ≤ (lg_cmp x4 (0 : Int64))) → (shAt sh x0 = some (.inr 7) ∧ (shAt sh (h.2.1 x0 9) = some (.inr 9) ∧ (∃ P4 : Int32 → Hp → Prop, C_X9_targetLength w sh (h.2.1 x0 9) h P4 ∧ (∀ (v8 : Int32) (h7 : Hp), P4 v8 h7 → ((((lg_cmp x4 (((h.1 x0 17) - v8).toInt64)) ≤ 0) → (((¬ x3 = (3 : Int32)) → (((¬ x3 = (1 : Int32)) → (∃ P12 : Int32 → Hp → Prop, C_X7_runRun w sh x0 (x4.toInt32) h7 P12 ∧ (∀ (v16 : Int32) (h15 : Hp), P12 v16 h15 → ((v16 = 0 ∨ v16 = 1) ∧ RET v16 h15)))) ∧ ((x3 = (1 : Int32)) → (∃ P17 : Int32 → Hp → Prop, C_X7_runAdd w sh x0 (x4.toInt32) h7 P17 ∧ (∀ (v21 : Int32) (h20 : Hp), P17 v21 h20 → ((v21 = 0 ∨ v21 = 1) ∧ RET v21 h20)))))) ∧ ((x3 = (3 : Int32)) → (shAt sh (h7.2.1 x0 0) = some (.inr 10) ∧ (∃ P23 : Int32 → Hp → Prop, C_X10_get w sh (h7.2.1 x0 0) x1 (x2 + (2 : Int32)) h7 P23 ∧ (∀ (v27 : Int32) (h26 : Hp), P23 v27 h26 → (∃ P28 : Int32 → Hp → Prop, C_X7_runCopy w sh x0 (x4.toInt32) v27 h26 P28 ∧ (∀ (v32 : Int32) (h31 : Hp), P28 v32 h31 → ((v32 = 0 ∨ v32 = 1) ∧ RET v32 h31))))))))) ∧ ((¬ (lg_cmp x4 (((h.1 x0 17) - v8).toInt64)) ≤ 0) → (∃ P33 : Int32 → Hp → Prop, C_X7_fail w sh x0 (13 : Int32) (h7.1 x0 18) h7 P33 ∧ (∀ (v37 : Int32) (h36 : Hp), P33 v37 h36 → ((v37 = 0 ∨ v37 = 1) ∧ RET v37 h36)))))))))) ∧ ((¬ 0 ≤ (lg_cmp x4 (0 : Int64))) → (shAt sh x0 = some (.inr 7) ∧ (∃ P39 : Int32 → Hp → Prop, C_X7_fail w sh x0 (11 : Int32) (h.1 x0 18) h P39 ∧ (∀ (v43 : Int32) (h42 : Hp), P39 v43 h42 → ((v43 = 0 ∨ v43 = 1) ∧ RET v43 h42)))))
set_option maxRecDepth 20000 in
set_option maxHeartbeats 4000000 in
theorem W_X7_runHalf_48 {w : Wd} {E : GE} {sh : List Sh} {x0 : Nat} {x1 : Int32} {x2 : Int32} {x3 : Int32} {x4 : Int64} {h : Hp}  {RET : Int32 → Hp → Prop} (X : Cx w E cX7_runHalf 6 RX7) (Tt : Rt w E (some .boolean) sh.length 0 0 (fun q sh9 h9 => ∃ v : Int32, q = some (Value.int v) ∧ sh9 = sh ∧ RET v h9)) (hR : gR E = { frames := 4, cells := 0, slots := 0, locals := 97 }) (hV : V_X7_runHalf_48 w sh x0 x1 x2 x3 x4 h RET) : G w E 6 48 [(0, rv w.2.2.2 x0), (1, Value.int x1), (2, Value.int x2), (3, Value.int x3), (4, Value.long x4)] [] sh h 0 0 := by
  unfold V_X7_runHalf_48 at hV
  refine g_lload (pc := 48) X 4 rfl dX7_runHalf_48 ?_
  refine g_lconst (pc := 50) (v := (0 : Int64)) X dX7_runHalf_50 (by decide) ?_
  refine g_lcmp (pc := 51) X dX7_runHalf_51 ?_
  refine g_if_ge (pc := 52) X 66 dX7_runHalf_52 (by decide) (fun c1 => ?_) (fun c1 => ?_)
  · have hV := hV.1 c1
    refine g_lload (pc := 66) X 4 rfl dX7_runHalf_66 ?_
    refine g_aload_n (pc := 68) X 0 rfl rfl dX7_runHalf_68 ?_
    obtain ⟨q2, hV⟩ := hV
    refine g_getI (pc := 69) X fl_X7_195 q2 dX7_runHalf_69 ?_
    refine g_aload_n (pc := 72) X 0 rfl rfl dX7_runHalf_72 ?_
    refine g_getR (pc := 73) X fl_X7_33 q2 dX7_runHalf_73 ?_
    obtain ⟨q3, hV⟩ := hV
    obtain ⟨P4, t5, hV⟩ := hV
    refine g_cVI (pc := 76) X (As := []) ml_X7_211 rfl q3 t5 (by rw [hR]; exact ⟨by decide, by decide, by decide, by decide⟩) rfl rfl (Nat.le_of_ble_eq_true rfl) dX7_runHalf_76 (fun v8 h7 p6 => ?_)
    have hV := hV v8 h7 p6
    refine g_isub (pc := 79) X dX7_runHalf_79 ?_
    refine g_i2l (pc := 80) X dX7_runHalf_80 ?_
    refine g_lcmp (pc := 81) X dX7_runHalf_81 ?_
    refine g_if_le (pc := 82) X 96 dX7_runHalf_82 (by decide) (fun c9 => ?_) (fun c9 => ?_)
    · have hV := hV.1 c9
      refine g_iload_n (pc := 96) X 3 rfl rfl dX7_runHalf_96 ?_
      refine g_iconst (pc := 97) (v := (3 : Int32)) X dX7_runHalf_97 (by decide) ?_
      refine g_icmp_ne (pc := 98) X 120 dX7_runHalf_98 (by decide) (fun c10 => ?_) (fun c10 => ?_)
      · have hV := hV.1 c10
        refine g_iload_n (pc := 120) X 3 rfl rfl dX7_runHalf_120 ?_
        refine g_iconst (pc := 121) (v := (1 : Int32)) X dX7_runHalf_121 (by decide) ?_
        refine g_icmp_ne (pc := 122) X 135 dX7_runHalf_122 (by decide) (fun c11 => ?_) (fun c11 => ?_)
        · have hV := hV.1 c11
          refine g_aload_n (pc := 135) X 0 rfl rfl dX7_runHalf_135 ?_
          refine g_lload (pc := 136) X 4 rfl dX7_runHalf_136 ?_
          refine g_l2i (pc := 138) X dX7_runHalf_138 ?_
          obtain ⟨P12, t13, hV⟩ := hV
          refine g_cVI (pc := 139) X (As := [Value.int (x4.toInt32)]) ml_X7_225 rfl q2 t13 (by rw [hR]; exact ⟨by decide, by decide, by decide, by decide⟩) rfl rfl (Nat.zero_le _) dX7_runHalf_139 (fun v16 h15 p14 => ?_)
          have hV := hV v16 h15 p14
          exact g_zret (pc := 142) X Tt hV.1 ⟨_, rfl, rfl, hV.2⟩ dX7_runHalf_142
        · have hV := hV.2 c11
          refine g_aload_n (pc := 125) X 0 rfl rfl dX7_runHalf_125 ?_
          refine g_lload (pc := 126) X 4 rfl dX7_runHalf_126 ?_
          refine g_l2i (pc := 128) X dX7_runHalf_128 ?_
          obtain ⟨P17, t18, hV⟩ := hV
          refine g_cVI (pc := 129) X (As := [Value.int (x4.toInt32)]) ml_X7_222 rfl q2 t18 (by rw [hR]; exact ⟨by decide, by decide, by decide, by decide⟩) rfl rfl (Nat.zero_le _) dX7_runHalf_129 (fun v21 h20 p19 => ?_)
          have hV := hV v21 h20 p19
          refine g_goto (pc := 132) X 142 dX7_runHalf_132 (by decide) ?_
          exact g_zret (pc := 142) X Tt hV.1 ⟨_, rfl, rfl, hV.2⟩ dX7_runHalf_142
      · have hV := hV.2 c10
        refine g_aload_n (pc := 101) X 0 rfl rfl dX7_runHalf_101 ?_
        refine g_lload (pc := 102) X 4 rfl dX7_runHalf_102 ?_
        refine g_l2i (pc := 104) X dX7_runHalf_104 ?_
        refine g_aload_n (pc := 105) X 0 rfl rfl dX7_runHalf_105 ?_
        refine g_getR (pc := 106) X fl_X7_56 q2 dX7_runHalf_106 ?_
        refine g_iload_n (pc := 109) X 1 rfl rfl dX7_runHalf_109 ?_
        refine g_iload_n (pc := 110) X 2 rfl rfl dX7_runHalf_110 ?_
        refine g_iconst (pc := 111) (v := (2 : Int32)) X dX7_runHalf_111 (by decide) ?_
        refine g_iadd (pc := 112) X dX7_runHalf_112 ?_
        obtain ⟨q22, hV⟩ := hV
        obtain ⟨P23, t24, hV⟩ := hV
        refine g_cVI (pc := 113) X (As := [Value.int x1, Value.int (x2 + (2 : Int32))]) ml_X7_204 rfl q22 t24 (by rw [hR]; exact ⟨by decide, by decide, by decide, by decide⟩) rfl rfl (by simp [rv_cat, cat_int, cat_long]) dX7_runHalf_113 (fun v27 h26 p25 => ?_)
        have hV := hV v27 h26 p25
        obtain ⟨P28, t29, hV⟩ := hV
        refine g_cVI (pc := 116) X (As := [Value.int (x4.toInt32), Value.int v27]) ml_X7_219 rfl q2 t29 (by rw [hR]; exact ⟨by decide, by decide, by decide, by decide⟩) rfl rfl (Nat.zero_le _) dX7_runHalf_116 (fun v32 h31 p30 => ?_)
        have hV := hV v32 h31 p30
        exact g_zret (pc := 119) X Tt hV.1 ⟨_, rfl, rfl, hV.2⟩ dX7_runHalf_119
    · have hV := hV.2 c9
      refine g_aload_n (pc := 85) X 0 rfl rfl dX7_runHalf_85 ?_
      refine g_bipush (pc := 86) (v := (13 : Int32)) X dX7_runHalf_86 (by decide) ?_
      refine g_aload_n (pc := 88) X 0 rfl rfl dX7_runHalf_88 ?_
      refine g_getI (pc := 89) X fl_X7_201 q2 dX7_runHalf_89 ?_
      obtain ⟨P33, t34, hV⟩ := hV
      refine g_cVI (pc := 92) X (As := [Value.int (13 : Int32), Value.int (h7.1 x0 18)]) ml_X7_114 rfl q2 t34 (by rw [hR]; exact ⟨by decide, by decide, by decide, by decide⟩) rfl rfl (Nat.zero_le _) dX7_runHalf_92 (fun v37 h36 p35 => ?_)
      have hV := hV v37 h36 p35
      exact g_zret (pc := 95) X Tt hV.1 ⟨_, rfl, rfl, hV.2⟩ dX7_runHalf_95
  · have hV := hV.2 c1
    refine g_aload_n (pc := 55) X 0 rfl rfl dX7_runHalf_55 ?_
    refine g_bipush (pc := 56) (v := (11 : Int32)) X dX7_runHalf_56 (by decide) ?_
    refine g_aload_n (pc := 58) X 0 rfl rfl dX7_runHalf_58 ?_
    obtain ⟨q38, hV⟩ := hV
    refine g_getI (pc := 59) X fl_X7_201 q38 dX7_runHalf_59 ?_
    obtain ⟨P39, t40, hV⟩ := hV
    refine g_cVI (pc := 62) X (As := [Value.int (11 : Int32), Value.int (h.1 x0 18)]) ml_X7_114 rfl q38 t40 (by rw [hR]; exact ⟨by decide, by decide, by decide, by decide⟩) rfl rfl (Nat.zero_le _) dX7_runHalf_62 (fun v43 h42 p41 => ?_)
    have hV := hV v43 h42 p41
    exact g_zret (pc := 65) X Tt hV.1 ⟨_, rfl, rfl, hV.2⟩ dX7_runHalf_65
def V_X7_runHalf_0 (w : Wd) (sh : List Sh) (x0 : Nat) (x1 : Int32) (x2 : Int32) (h : Hp)  (RET : Int32 → Hp → Prop) : Prop :=
  shAt sh x0 = some (.inr 7) ∧ (shAt sh (h.2.1 x0 0) = some (.inr 10) ∧ (∃ P3 : Int32 → Hp → Prop, C_X10_get w sh (h.2.1 x0 0) x1 (x2 + (0 : Int32)) h P3 ∧ (∀ (v7 : Int32) (h6 : Hp), P3 v7 h6 → (∀ y8 : Int32, y8 = v7 → (((¬ y8 = 0) → (shAt sh (h6.2.1 x0 0) = some (.inr 10) ∧ (∃ P12 : Int32 → Hp → Prop, C_X10_get w sh (h6.2.1 x0 0) x1 (x2 + (1 : Int32)) h6 P12 ∧ (∀ (v16 : Int32) (h15 : Hp), P12 v16 h15 → (∀ y17 : Int64, y17 = (v16.toInt64) → (((¬ (lg_cmp y17 (0 : Int64)) = 0) → (V_X7_runHalf_48 w sh x0 x1 x2 y8 y17 h15 RET)) ∧ (((lg_cmp y17 (0 : Int64)) = 0) → (shAt sh (h15.2.1 x0 6) = some (.inr 2) ∧ (∃ P21 : Int64 → Hp → Prop, C_X2_nextBig w sh (h15.2.1 x0 6) h15 P21 ∧ (∀ (v25 : Int64) (h24 : Hp), P21 v25 h24 → (∀ y26 : Int64, y26 = v25 → (V_X7_runHalf_48 w sh x0 x1 x2 y8 y26 h24 RET)))))))))))) ∧ ((y8 = 0) → (RET (1 : Int32) h6)))))))
set_option maxRecDepth 20000 in
set_option maxHeartbeats 4000000 in
theorem W_X7_runHalf_0 {w : Wd} {E : GE} {sh : List Sh} {x0 : Nat} {x1 : Int32} {x2 : Int32} {h : Hp}  {RET : Int32 → Hp → Prop} (X : Cx w E cX7_runHalf 6 RX7) (Tt : Rt w E (some .boolean) sh.length 0 0 (fun q sh9 h9 => ∃ v : Int32, q = some (Value.int v) ∧ sh9 = sh ∧ RET v h9)) (hR : gR E = { frames := 4, cells := 0, slots := 0, locals := 97 }) (hV : V_X7_runHalf_0 w sh x0 x1 x2 h RET) : G w E 6 0 [(0, rv w.2.2.2 x0), (1, Value.int x1), (2, Value.int x2)] [] sh h 0 0 := by
  unfold V_X7_runHalf_0 at hV
  refine g_aload_n (pc := 0) X 0 rfl rfl dX7_runHalf_0 ?_
  obtain ⟨q1, hV⟩ := hV
  refine g_getR (pc := 1) X fl_X7_56 q1 dX7_runHalf_1 ?_
  refine g_iload_n (pc := 4) X 1 rfl rfl dX7_runHalf_4 ?_
  refine g_iload_n (pc := 5) X 2 rfl rfl dX7_runHalf_5 ?_
  refine g_iconst (pc := 6) (v := (0 : Int32)) X dX7_runHalf_6 (by decide) ?_
  refine g_iadd (pc := 7) X dX7_runHalf_7 ?_
  obtain ⟨q2, hV⟩ := hV
  obtain ⟨P3, t4, hV⟩ := hV
  refine g_cVI (pc := 8) X (As := [Value.int x1, Value.int (x2 + (0 : Int32))]) ml_X7_204 rfl q2 t4 (by rw [hR]; exact ⟨by decide, by decide, by decide, by decide⟩) rfl rfl (Nat.zero_le _) dX7_runHalf_8 (fun v7 h6 p5 => ?_)
  have hV := hV v7 h6 p5
  refine g_istore_n (pc := 11) X (i := 3) (rest := [(0, rv w.2.2.2 x0), (1, Value.int x1), (2, Value.int x2)]) rfl (by decide) rfl dX7_runHalf_11 (fun y8 e9 => ?_)
  have hV := hV y8 e9
  refine g_iload_n (pc := 12) X 0 rfl rfl dX7_runHalf_12 ?_
  refine g_if_ne (pc := 13) X 18 dX7_runHalf_13 (by decide) (fun c10 => ?_) (fun c10 => ?_)
  · have hV := hV.1 c10
    refine g_aload_n (pc := 18) X 1 rfl rfl dX7_runHalf_18 ?_
    refine g_getR (pc := 19) X fl_X7_56 q1 dX7_runHalf_19 ?_
    refine g_iload_n (pc := 22) X 2 rfl rfl dX7_runHalf_22 ?_
    refine g_iload_n (pc := 23) X 3 rfl rfl dX7_runHalf_23 ?_
    refine g_iconst (pc := 24) (v := (1 : Int32)) X dX7_runHalf_24 (by decide) ?_
    refine g_iadd (pc := 25) X dX7_runHalf_25 ?_
    obtain ⟨q11, hV⟩ := hV
    obtain ⟨P12, t13, hV⟩ := hV
    refine g_cVI (pc := 26) X (As := [Value.int x1, Value.int (x2 + (1 : Int32))]) ml_X7_204 rfl q11 t13 (by rw [hR]; exact ⟨by decide, by decide, by decide, by decide⟩) rfl rfl (Nat.zero_le _) dX7_runHalf_26 (fun v16 h15 p14 => ?_)
    have hV := hV v16 h15 p14
    refine g_i2l (pc := 29) X dX7_runHalf_29 ?_
    refine g_lstore (pc := 30) X (i := 4) (rest := [(3, Value.int y8), (0, rv w.2.2.2 x0), (1, Value.int x1), (2, Value.int x2)]) (by decide) rfl dX7_runHalf_30 (fun y17 e18 => ?_)
    have hV := hV y17 e18
    refine g_lload (pc := 32) X 0 rfl dX7_runHalf_32 ?_
    refine g_lconst (pc := 34) (v := (0 : Int64)) X dX7_runHalf_34 (by decide) ?_
    refine g_lcmp (pc := 35) X dX7_runHalf_35 ?_
    refine g_if_ne (pc := 36) X 48 dX7_runHalf_36 (by decide) (fun c19 => ?_) (fun c19 => ?_)
    · have hV := hV.1 c19
      refine g_lv [2, 3, 4, 1, 0] rfl ?_
      exact W_X7_runHalf_48 X Tt hR hV
    · have hV := hV.2 c19
      refine g_aload_n (pc := 39) X 2 rfl rfl dX7_runHalf_39 ?_
      refine g_getR (pc := 40) X fl_X7_21 q1 dX7_runHalf_40 ?_
      obtain ⟨q20, hV⟩ := hV
      obtain ⟨P21, t22, hV⟩ := hV
      refine g_cVJ (pc := 43) X (As := []) ml_X7_118 rfl q20 t22 (by rw [hR]; exact ⟨by decide, by decide, by decide, by decide⟩) rfl rfl (Nat.zero_le _) dX7_runHalf_43 (fun v25 h24 p23 => ?_)
      have hV := hV v25 h24 p23
      refine g_lstore (pc := 46) X (i := 4) (rest := [(3, Value.int y8), (0, rv w.2.2.2 x0), (1, Value.int x1), (2, Value.int x2)]) (by decide) rfl dX7_runHalf_46 (fun y26 e27 => ?_)
      have hV := hV y26 e27
      refine g_lv [2, 3, 4, 1, 0] rfl ?_
      exact W_X7_runHalf_48 X Tt hR hV
  · have hV := hV.2 c10
    refine g_iconst (pc := 16) (v := (1 : Int32)) X dX7_runHalf_16 (by decide) ?_
    exact g_zret (pc := 17) X Tt (by decide) ⟨_, rfl, rfl, hV⟩ dX7_runHalf_17
def C_X7_runHalf (w : Wd) (sh : List Sh) (x0 : Nat) (x1 : Int32) (x2 : Int32) (h : Hp) (RET : Int32 → Hp → Prop) : Prop := CI w yX7_runHalf (.code yX7_runHalf cX7_runHalf 6 (some .boolean)) 4 97 [rv w.2.2.2 x0, Value.int x1, Value.int x2] sh h RET
theorem K_X7_runHalf {w : Wd} {sh : List Sh} {x0 : Nat} {x1 : Int32} {x2 : Int32} {h : Hp} {RET : Int32 → Hp → Prop} (hV : V_X7_runHalf_0 w sh x0 x1 x2 h RET) : C_X7_runHalf w sh x0 x1 x2 h RET :=
  Ct_of (by decide +kernel) (by simp [lg_sl, rv_cat, cat_int, cat_long]) (fun E X Tt hR _ => by
    rw [show lv_args 0 [rv w.2.2.2 x0, Value.int x1, Value.int x2] = [(0, rv w.2.2.2 x0), (1, Value.int x1), (2, Value.int x2)] from by simp [lv_args, rv_cat, cat_int, cat_long]]
    refine g_lv [0, 1, 2] rfl ?_
    exact W_X7_runHalf_0 X Tt hR hV)
def V_X7_judgeSum_24 (w : Wd) (sh : List Sh) (x0 : Nat) (x1 : Int32) (x2 : Int64) (x4 : Int32) (h : Hp) (L24 : Nat → Int32 → Int64 → Int32 → Hp → Prop) (RET : Hp → Prop) : Prop :=
  (((4 : Int32) ≤ x4) → (shAt sh x0 = some (.inr 7) ∧ (shAt sh (h.2.1 x0 9) = some (.inr 9) ∧ (∃ P4 : Int64 → Hp → Prop, C_X9_sum w sh (h.2.1 x0 9) h P4 ∧ (∀ (v8 : Int64) (h7 : Hp), P4 v8 h7 → ((((lg_cmp x2 v8) = 0) → (RET h7)) ∧ ((¬ (lg_cmp x2 v8) = 0) → (∃ P10 : Int32 → Hp → Prop, C_X7_fail w sh x0 (16 : Int32) x1 h7 P10 ∧ (∀ (v14 : Int32) (h13 : Hp), P10 v14 h13 → (RET h13)))))))))) ∧ ((¬ (4 : Int32) ≤ x4) → (shAt sh x0 = some (.inr 7) ∧ (shAt sh (h.2.1 x0 8) = some (.inr 2) ∧ (∃ P17 : Int32 → Hp → Prop, C_X2_next w sh (h.2.1 x0 8) h P17 ∧ (∀ (v21 : Int32) (h20 : Hp), P17 v21 h20 → (∀ y22 : Int64, y22 = ((x2 * (256 : Int64)) + (v21.toInt64)) → (∀ y24 : Int32, y24 = x4 + (1 : Int32) → (L24 x0 x1 y22 y24 h20))))))))
set_option maxRecDepth 20000 in
set_option maxHeartbeats 4000000 in
theorem W_X7_judgeSum_24 {w : Wd} {E : GE} {sh : List Sh} {x0 : Nat} {x1 : Int32} {x2 : Int64} {x4 : Int32} {h : Hp} {L24 : Nat → Int32 → Int64 → Int32 → Hp → Prop} {RET : Hp → Prop} (X : Cx w E cX7_judgeSum 5 RX7) (Tt : Rt w E none sh.length 0 0 (fun q sh9 h9 => q = none ∧ sh9 = sh ∧ RET h9)) (hR : gR E = { frames := 3, cells := 0, slots := 0, locals := 66 }) (hL24 : ∀ (x0 : Nat) (x1 : Int32) (x2 : Int64) (x4 : Int32) (h : Hp), L24 x0 x1 x2 x4 h → G w E 5 24 [(0, rv w.2.2.2 x0), (1, Value.int x1), (2, Value.long x2), (4, Value.int x4)] [] sh h 0 0) (hV : V_X7_judgeSum_24 w sh x0 x1 x2 x4 h L24 RET) : G w E 5 24 [(0, rv w.2.2.2 x0), (1, Value.int x1), (2, Value.long x2), (4, Value.int x4)] [] sh h 0 0 := by
  unfold V_X7_judgeSum_24 at hV
  refine g_iload (pc := 24) X 3 rfl dX7_judgeSum_24 ?_
  refine g_iconst (pc := 26) (v := (4 : Int32)) X dX7_judgeSum_26 (by decide) ?_
  refine g_icmp_ge (pc := 27) X 51 dX7_judgeSum_27 (by decide) (fun c1 => ?_) (fun c1 => ?_)
  · have hV := hV.1 c1
    refine g_lload_n (pc := 51) X 2 rfl rfl dX7_judgeSum_51 ?_
    refine g_aload_n (pc := 52) X 0 rfl rfl dX7_judgeSum_52 ?_
    obtain ⟨q2, hV⟩ := hV
    refine g_getR (pc := 53) X fl_X7_33 q2 dX7_judgeSum_53 ?_
    obtain ⟨q3, hV⟩ := hV
    obtain ⟨P4, t5, hV⟩ := hV
    refine g_cVJ (pc := 56) X (As := []) ml_X7_217 rfl q3 t5 (by rw [hR]; exact ⟨by decide, by decide, by decide, by decide⟩) rfl rfl (Nat.le_of_ble_eq_true rfl) dX7_judgeSum_56 (fun v8 h7 p6 => ?_)
    have hV := hV v8 h7 p6
    refine g_lcmp (pc := 59) X dX7_judgeSum_59 ?_
    refine g_if_eq (pc := 60) X 71 dX7_judgeSum_60 (by decide) (fun c9 => ?_) (fun c9 => ?_)
    · have hV := hV.1 c9
      exact g_vret (pc := 71) X Tt ⟨rfl, rfl, hV⟩ dX7_judgeSum_71
    · have hV := hV.2 c9
      refine g_aload_n (pc := 63) X 0 rfl rfl dX7_judgeSum_63 ?_
      refine g_bipush (pc := 64) (v := (16 : Int32)) X dX7_judgeSum_64 (by decide) ?_
      refine g_iload_n (pc := 66) X 1 rfl rfl dX7_judgeSum_66 ?_
      obtain ⟨P10, t11, hV⟩ := hV
      refine g_cVI (pc := 67) X (As := [Value.int (16 : Int32), Value.int x1]) ml_X7_114 rfl q2 t11 (by rw [hR]; exact ⟨by decide, by decide, by decide, by decide⟩) rfl rfl (Nat.zero_le _) dX7_judgeSum_67 (fun v14 h13 p12 => ?_)
      have hV := hV v14 h13 p12
      refine g_pop (pc := 70) X dX7_judgeSum_70 (rfl) ?_
      exact g_vret (pc := 71) X Tt ⟨rfl, rfl, hV⟩ dX7_judgeSum_71
  · have hV := hV.2 c1
    refine g_lload_n (pc := 30) X 2 rfl rfl dX7_judgeSum_30 ?_
    refine g_ldc2 (pc := 31) X kc_X7_132 dX7_judgeSum_31 ?_
    refine g_lmul (pc := 34) X dX7_judgeSum_34 ?_
    refine g_aload_n (pc := 35) X 0 rfl rfl dX7_judgeSum_35 ?_
    obtain ⟨q15, hV⟩ := hV
    refine g_getR (pc := 36) X fl_X7_27 q15 dX7_judgeSum_36 ?_
    obtain ⟨q16, hV⟩ := hV
    obtain ⟨P17, t18, hV⟩ := hV
    refine g_cVI (pc := 39) X (As := []) ml_X7_134 rfl q16 t18 (by rw [hR]; exact ⟨by decide, by decide, by decide, by decide⟩) rfl rfl (Nat.le_of_ble_eq_true rfl) dX7_judgeSum_39 (fun v21 h20 p19 => ?_)
    have hV := hV v21 h20 p19
    refine g_i2l (pc := 42) X dX7_judgeSum_42 ?_
    refine g_ladd (pc := 43) X dX7_judgeSum_43 ?_
    refine g_lstore_n (pc := 44) X (i := 2) (rest := [(0, rv w.2.2.2 x0), (1, Value.int x1), (4, Value.int x4)]) rfl (by decide) rfl dX7_judgeSum_44 (fun y22 e23 => ?_)
    have hV := hV y22 e23
    refine g_iinc (pc := 45) X 3 (v := (1 : Int32)) (rest := [(2, Value.long y22), (0, rv w.2.2.2 x0), (1, Value.int x1)]) rfl (by decide) rfl (by decide) dX7_judgeSum_45 (fun y24 e25 => ?_)
    have hV := hV y24 e25
    refine g_goto (pc := 48) X 24 dX7_judgeSum_48 (by decide) ?_
    refine g_lv [2, 3, 1, 0] rfl ?_
    exact hL24 x0 x1 y22 y24 h20 hV
def V_X7_judgeSum_0 (w : Wd) (sh : List Sh) (x0 : Nat) (h : Hp) (L24 : Nat → Int32 → Int64 → Int32 → Hp → Prop) (RET : Hp → Prop) : Prop :=
  shAt sh x0 = some (.inr 7) ∧ (shAt sh (h.2.1 x0 8) = some (.inr 2) ∧ (∃ P3 : Int32 → Hp → Prop, C_X2_left w sh (h.2.1 x0 8) h P3 ∧ (∀ (v7 : Int32) (h6 : Hp), P3 v7 h6 → (((¬ v7 = 0) → (shAt sh (h6.2.1 x0 8) = some (.inr 2) ∧ (∀ y10 : Int32, y10 = (h6.1 (h6.2.1 x0 8) 1) → (∀ y12 : Int64, y12 = (0 : Int64) → (∀ y14 : Int32, y14 = (0 : Int32) → (L24 x0 y10 y12 y14 h6)))))) ∧ ((v7 = 0) → (RET h6))))))
set_option maxRecDepth 20000 in
set_option maxHeartbeats 4000000 in
theorem W_X7_judgeSum_0 {w : Wd} {E : GE} {sh : List Sh} {x0 : Nat} {h : Hp} {L24 : Nat → Int32 → Int64 → Int32 → Hp → Prop} {RET : Hp → Prop} (X : Cx w E cX7_judgeSum 5 RX7) (Tt : Rt w E none sh.length 0 0 (fun q sh9 h9 => q = none ∧ sh9 = sh ∧ RET h9)) (hR : gR E = { frames := 3, cells := 0, slots := 0, locals := 66 }) (hL24 : ∀ (x0 : Nat) (x1 : Int32) (x2 : Int64) (x4 : Int32) (h : Hp), L24 x0 x1 x2 x4 h → G w E 5 24 [(0, rv w.2.2.2 x0), (1, Value.int x1), (2, Value.long x2), (4, Value.int x4)] [] sh h 0 0) (hV : V_X7_judgeSum_0 w sh x0 h L24 RET) : G w E 5 0 [(0, rv w.2.2.2 x0)] [] sh h 0 0 := by
  unfold V_X7_judgeSum_0 at hV
  refine g_aload_n (pc := 0) X 0 rfl rfl dX7_judgeSum_0 ?_
  obtain ⟨q1, hV⟩ := hV
  refine g_getR (pc := 1) X fl_X7_27 q1 dX7_judgeSum_1 ?_
  obtain ⟨q2, hV⟩ := hV
  obtain ⟨P3, t4, hV⟩ := hV
  refine g_cVI (pc := 4) X (As := []) ml_X7_107 rfl q2 t4 (by rw [hR]; exact ⟨by decide, by decide, by decide, by decide⟩) rfl rfl (Nat.zero_le _) dX7_judgeSum_4 (fun v7 h6 p5 => ?_)
  have hV := hV v7 h6 p5
  refine g_if_ne (pc := 7) X 11 dX7_judgeSum_7 (by decide) (fun c8 => ?_) (fun c8 => ?_)
  · have hV := hV.1 c8
    refine g_aload_n (pc := 11) X 0 rfl rfl dX7_judgeSum_11 ?_
    refine g_getR (pc := 12) X fl_X7_27 q1 dX7_judgeSum_12 ?_
    obtain ⟨q9, hV⟩ := hV
    refine g_getI (pc := 15) X fl_X7_104 q9 dX7_judgeSum_15 ?_
    refine g_istore_n (pc := 18) X (i := 1) (rest := [(0, rv w.2.2.2 x0)]) rfl (by decide) (by simp [flt1, flt2, rv_cat, cat_int, cat_long]) dX7_judgeSum_18 (fun y10 e11 => ?_)
    have hV := hV y10 e11
    refine g_lconst (pc := 19) (v := (0 : Int64)) X dX7_judgeSum_19 (by decide) ?_
    refine g_lstore_n (pc := 20) X (i := 2) (rest := [(1, Value.int y10), (0, rv w.2.2.2 x0)]) rfl (by decide) rfl dX7_judgeSum_20 (fun y12 e13 => ?_)
    have hV := hV y12 e13
    refine g_iconst (pc := 21) (v := (0 : Int32)) X dX7_judgeSum_21 (by decide) ?_
    refine g_istore (pc := 22) X (i := 4) (rest := [(2, Value.long y12), (1, Value.int y10), (0, rv w.2.2.2 x0)]) (by decide) rfl dX7_judgeSum_22 (fun y14 e15 => ?_)
    have hV := hV y14 e15
    refine g_lv [3, 2, 1, 0] rfl ?_
    exact hL24 x0 y10 y12 y14 h6 hV
  · have hV := hV.2 c8
    exact g_vret (pc := 10) X Tt ⟨rfl, rfl, hV⟩ dX7_judgeSum_10
def C_X7_judgeSum (w : Wd) (sh : List Sh) (x0 : Nat) (h : Hp) (RET : Hp → Prop) : Prop := CV w yX7_judgeSum (.code yX7_judgeSum cX7_judgeSum 5 none) 3 66 [rv w.2.2.2 x0] sh h RET
set_option maxRecDepth 20000 in
theorem K_X7_judgeSum {w : Wd} {sh : List Sh} {x0 : Nat} {h : Hp} {RET : Hp → Prop} {α : Type} {r : α → α → Prop} (wf : WellFounded r) (I24 : α → Nat → Int32 → Int64 → Int32 → Hp → Prop) (hE : V_X7_judgeSum_0 w sh x0 h (fun x0 x1 x2 x4 h => ∃ a, I24 a x0 x1 x2 x4 h) RET) (h24 : ∀ (b : α) (x0 : Nat) (x1 : Int32) (x2 : Int64) (x4 : Int32) (h : Hp), I24 b x0 x1 x2 x4 h → V_X7_judgeSum_24 w sh x0 x1 x2 x4 h (fun x0 x1 x2 x4 h => ∃ a, r a b ∧ I24 a x0 x1 x2 x4 h) RET) : C_X7_judgeSum w sh x0 h RET :=
  Ct_of (by decide +kernel) (by simp [lg_sl, rv_cat, cat_int, cat_long]) (fun E X Tt hR _ => by
    have key : ∀ a : α, (∀ (x0 : Nat) (x1 : Int32) (x2 : Int64) (x4 : Int32) (h : Hp), I24 a x0 x1 x2 x4 h → G w E 5 24 [(0, rv w.2.2.2 x0), (1, Value.int x1), (2, Value.long x2), (4, Value.int x4)] [] sh h 0 0) := by
      intro a
      induction a using wf.induction with
      | _ a ih =>
        exact (fun x0 x1 x2 x4 h hi => W_X7_judgeSum_24 X Tt hR (fun x0 x1 x2 x4 h hx => by obtain ⟨a2, ha, hi⟩ := hx; exact (ih a2 ha) x0 x1 x2 x4 h hi) (h24 a x0 x1 x2 x4 h hi))
    rw [show lv_args 0 [rv w.2.2.2 x0] = [(0, rv w.2.2.2 x0)] from by simp [lv_args, rv_cat, cat_int, cat_long]]
    refine g_lv [0] rfl ?_
    exact W_X7_judgeSum_0 X Tt hR (fun x0 x1 x2 x4 h hx => by obtain ⟨a2, hi⟩ := hx; exact (key a2) x0 x1 x2 x4 h hi) hE)
def V_X7_runWindow_149 (w : Wd) (sh : List Sh) (x0 : Nat) (h : Hp) (L9 : Nat → Int32 → Hp → Prop) (RET : Hp → Prop) : Prop :=
  shAt sh x0 = some (.inr 7) ∧ (shAt sh (h.2.1 x0 6) = some (.inr 2) ∧ (∃ P3 : Int32 → Hp → Prop, C_X7_fail w sh x0 (15 : Int32) (h.1 (h.2.1 x0 6) 1) h P3 ∧ (∀ (v7 : Int32) (h6 : Hp), P3 v7 h6 → (RET h6))))
set_option maxRecDepth 20000 in
set_option maxHeartbeats 4000000 in
theorem W_X7_runWindow_149 {w : Wd} {E : GE} {sh : List Sh} {x0 : Nat} {h : Hp} {L9 : Nat → Int32 → Hp → Prop} {RET : Hp → Prop} (X : Cx w E cX7_runWindow 3 RX7) (Tt : Rt w E none sh.length 0 0 (fun q sh9 h9 => q = none ∧ sh9 = sh ∧ RET h9)) (hR : gR E = { frames := 5, cells := 0, slots := 0, locals := 122 }) (hL9 : ∀ (x0 : Nat) (x1 : Int32) (h : Hp), L9 x0 x1 h → G w E 3 9 [(0, rv w.2.2.2 x0), (1, Value.int x1)] [] sh h 0 0) (hV : V_X7_runWindow_149 w sh x0 h L9 RET) : G w E 3 149 [(0, rv w.2.2.2 x0)] [] sh h 0 0 := by
  unfold V_X7_runWindow_149 at hV
  refine g_aload_n (pc := 149) X 0 rfl rfl dX7_runWindow_149 ?_
  refine g_bipush (pc := 150) (v := (15 : Int32)) X dX7_runWindow_150 (by decide) ?_
  refine g_aload_n (pc := 152) X 0 rfl rfl dX7_runWindow_152 ?_
  obtain ⟨q1, hV⟩ := hV
  refine g_getR (pc := 153) X fl_X7_21 q1 dX7_runWindow_153 ?_
  obtain ⟨q2, hV⟩ := hV
  refine g_getI (pc := 156) X fl_X7_104 q2 dX7_runWindow_156 ?_
  obtain ⟨P3, t4, hV⟩ := hV
  refine g_cVI (pc := 159) X (As := [Value.int (15 : Int32), Value.int (h.1 (h.2.1 x0 6) 1)]) ml_X7_114 rfl q1 t4 (by rw [hR]; exact ⟨by decide, by decide, by decide, by decide⟩) rfl rfl (Nat.zero_le _) dX7_runWindow_159 (fun v7 h6 p5 => ?_)
  have hV := hV v7 h6 p5
  refine g_pop (pc := 162) X dX7_runWindow_162 (rfl) ?_
  refine g_goto (pc := 163) X 170 dX7_runWindow_163 (by decide) ?_
  exact g_vret (pc := 170) X Tt ⟨rfl, rfl, hV⟩ dX7_runWindow_170
def V_X7_runWindow_107 (w : Wd) (sh : List Sh) (x0 : Nat) (h : Hp) (L9 : Nat → Int32 → Hp → Prop) (RET : Hp → Prop) : Prop :=
  shAt sh x0 = some (.inr 7) ∧ ((((h.1 x0 12) = 0) → (shAt sh (h.2.1 x0 9) = some (.inr 9) ∧ (∃ P4 : Int32 → Hp → Prop, C_X9_targetLength w sh (h.2.1 x0 9) h P4 ∧ (∀ (v8 : Int32) (h7 : Hp), P4 v8 h7 → (((v8 < (h7.1 x0 17)) → (V_X7_runWindow_149 w sh x0 h7 L9 RET)) ∧ ((¬ v8 < (h7.1 x0 17)) → (shAt sh (h7.2.1 x0 5) = some (.inr 2) ∧ (∃ P11 : Int32 → Hp → Prop, C_X2_left w sh (h7.2.1 x0 5) h7 P11 ∧ (∀ (v15 : Int32) (h14 : Hp), P11 v15 h14 → (((0 < v15) → (V_X7_runWindow_149 w sh x0 h14 L9 RET)) ∧ ((¬ 0 < v15) → (shAt sh (h14.2.1 x0 7) = some (.inr 2) ∧ (∃ P18 : Int32 → Hp → Prop, C_X2_left w sh (h14.2.1 x0 7) h14 P18 ∧ (∀ (v22 : Int32) (h21 : Hp), P18 v22 h21 → (((v22 ≤ 0) → (∃ P24 : Hp → Prop, C_X7_judgeSum w sh x0 h21 P24 ∧ (∀ h27 : Hp, P24 h27 → (RET h27)))) ∧ ((¬ v22 ≤ 0) → (V_X7_runWindow_149 w sh x0 h21 L9 RET))))))))))))))))) ∧ ((¬ (h.1 x0 12) = 0) → (RET h)))
set_option maxRecDepth 20000 in
set_option maxHeartbeats 4000000 in
theorem W_X7_runWindow_107 {w : Wd} {E : GE} {sh : List Sh} {x0 : Nat} {h : Hp} {L9 : Nat → Int32 → Hp → Prop} {RET : Hp → Prop} (X : Cx w E cX7_runWindow 3 RX7) (Tt : Rt w E none sh.length 0 0 (fun q sh9 h9 => q = none ∧ sh9 = sh ∧ RET h9)) (hR : gR E = { frames := 5, cells := 0, slots := 0, locals := 122 }) (hL9 : ∀ (x0 : Nat) (x1 : Int32) (h : Hp), L9 x0 x1 h → G w E 3 9 [(0, rv w.2.2.2 x0), (1, Value.int x1)] [] sh h 0 0) (hV : V_X7_runWindow_107 w sh x0 h L9 RET) : G w E 3 107 [(0, rv w.2.2.2 x0)] [] sh h 0 0 := by
  unfold V_X7_runWindow_107 at hV
  refine g_aload_n (pc := 107) X 0 rfl rfl dX7_runWindow_107 ?_
  obtain ⟨q1, hV⟩ := hV
  refine g_getI (pc := 108) X fl_X7_49 q1 dX7_runWindow_108 ?_
  refine g_if_eq (pc := 111) X 115 dX7_runWindow_111 (by decide) (fun c2 => ?_) (fun c2 => ?_)
  · have hV := hV.1 c2
    refine g_aload_n (pc := 115) X 0 rfl rfl dX7_runWindow_115 ?_
    refine g_getR (pc := 116) X fl_X7_33 q1 dX7_runWindow_116 ?_
    obtain ⟨q3, hV⟩ := hV
    obtain ⟨P4, t5, hV⟩ := hV
    refine g_cVI (pc := 119) X (As := []) ml_X7_211 rfl q3 t5 (by rw [hR]; exact ⟨by decide, by decide, by decide, by decide⟩) rfl rfl (Nat.zero_le _) dX7_runWindow_119 (fun v8 h7 p6 => ?_)
    have hV := hV v8 h7 p6
    refine g_aload_n (pc := 122) X 0 rfl rfl dX7_runWindow_122 ?_
    refine g_getI (pc := 123) X fl_X7_195 q1 dX7_runWindow_123 ?_
    refine g_icmp_lt (pc := 126) X 149 dX7_runWindow_126 (by decide) (fun c9 => ?_) (fun c9 => ?_)
    · have hV := hV.1 c9
      exact W_X7_runWindow_149 X Tt hR hL9 hV
    · have hV := hV.2 c9
      refine g_aload_n (pc := 129) X 0 rfl rfl dX7_runWindow_129 ?_
      refine g_getR (pc := 130) X fl_X7_18 q1 dX7_runWindow_130 ?_
      obtain ⟨q10, hV⟩ := hV
      obtain ⟨P11, t12, hV⟩ := hV
      refine g_cVI (pc := 133) X (As := []) ml_X7_107 rfl q10 t12 (by rw [hR]; exact ⟨by decide, by decide, by decide, by decide⟩) rfl rfl (Nat.zero_le _) dX7_runWindow_133 (fun v15 h14 p13 => ?_)
      have hV := hV v15 h14 p13
      refine g_if_gt (pc := 136) X 149 dX7_runWindow_136 (by decide) (fun c16 => ?_) (fun c16 => ?_)
      · have hV := hV.1 c16
        exact W_X7_runWindow_149 X Tt hR hL9 hV
      · have hV := hV.2 c16
        refine g_aload_n (pc := 139) X 0 rfl rfl dX7_runWindow_139 ?_
        refine g_getR (pc := 140) X fl_X7_24 q1 dX7_runWindow_140 ?_
        obtain ⟨q17, hV⟩ := hV
        obtain ⟨P18, t19, hV⟩ := hV
        refine g_cVI (pc := 143) X (As := []) ml_X7_107 rfl q17 t19 (by rw [hR]; exact ⟨by decide, by decide, by decide, by decide⟩) rfl rfl (Nat.zero_le _) dX7_runWindow_143 (fun v22 h21 p20 => ?_)
        have hV := hV v22 h21 p20
        refine g_if_le (pc := 146) X 166 dX7_runWindow_146 (by decide) (fun c23 => ?_) (fun c23 => ?_)
        · have hV := hV.1 c23
          refine g_aload_n (pc := 166) X 0 rfl rfl dX7_runWindow_166 ?_
          obtain ⟨P24, t25, hV⟩ := hV
          refine g_cVV (pc := 167) X (As := []) ml_X7_214 rfl q1 t25 (by rw [hR]; exact ⟨by decide, by decide, by decide, by decide⟩) rfl rfl (Nat.zero_le _) dX7_runWindow_167 (fun h27 p26 => ?_)
          have hV := hV h27 p26
          exact g_vret (pc := 170) X Tt ⟨rfl, rfl, hV⟩ dX7_runWindow_170
        · have hV := hV.2 c23
          exact W_X7_runWindow_149 X Tt hR hL9 hV
  · have hV := hV.2 c2
    exact g_vret (pc := 114) X Tt ⟨rfl, rfl, hV⟩ dX7_runWindow_114
def V_X7_runWindow_101 (w : Wd) (sh : List Sh) (x0 : Nat) (x1 : Int32) (h : Hp) (L9 : Nat → Int32 → Hp → Prop) (RET : Hp → Prop) : Prop :=
  ∀ y1 : Int32, y1 = x1 + (1 : Int32) → (L9 x0 y1 h)
set_option maxRecDepth 20000 in
set_option maxHeartbeats 4000000 in
theorem W_X7_runWindow_101 {w : Wd} {E : GE} {sh : List Sh} {x0 : Nat} {x1 : Int32} {h : Hp} {L9 : Nat → Int32 → Hp → Prop} {RET : Hp → Prop} (X : Cx w E cX7_runWindow 3 RX7) (Tt : Rt w E none sh.length 0 0 (fun q sh9 h9 => q = none ∧ sh9 = sh ∧ RET h9)) (hR : gR E = { frames := 5, cells := 0, slots := 0, locals := 122 }) (hL9 : ∀ (x0 : Nat) (x1 : Int32) (h : Hp), L9 x0 x1 h → G w E 3 9 [(0, rv w.2.2.2 x0), (1, Value.int x1)] [] sh h 0 0) (hV : V_X7_runWindow_101 w sh x0 x1 h L9 RET) : G w E 3 101 [(0, rv w.2.2.2 x0), (1, Value.int x1)] [] sh h 0 0 := by
  unfold V_X7_runWindow_101 at hV
  refine g_iinc (pc := 101) X 1 (v := (1 : Int32)) (rest := [(0, rv w.2.2.2 x0)]) rfl (by decide) (by simp [flt1, flt2, rv_cat, cat_int, cat_long]) (by decide) dX7_runWindow_101 (fun y1 e2 => ?_)
  have hV := hV y1 e2
  refine g_goto (pc := 104) X 9 dX7_runWindow_104 (by decide) ?_
  refine g_lv [1, 0] rfl ?_
  exact hL9 x0 y1 h hV
def V_X7_runWindow_85 (w : Wd) (sh : List Sh) (x0 : Nat) (x1 : Int32) (x2 : Int32) (h : Hp) (L9 : Nat → Int32 → Hp → Prop) (RET : Hp → Prop) : Prop :=
  shAt sh x0 = some (.inr 7) ∧ (∃ P2 : Int32 → Hp → Prop, C_X7_runHalf w sh x0 x2 (0 : Int32) h P2 ∧ (∀ (v6 : Int32) (h5 : Hp), P2 v6 h5 → (((v6 = 0) → (V_X7_runWindow_101 w sh x0 x1 h5 L9 RET)) ∧ ((¬ v6 = 0) → (∃ P8 : Int32 → Hp → Prop, C_X7_runHalf w sh x0 x2 (3 : Int32) h5 P8 ∧ (∀ (v12 : Int32) (h11 : Hp), P8 v12 h11 → (V_X7_runWindow_101 w sh x0 x1 h11 L9 RET)))))))
set_option maxRecDepth 20000 in
set_option maxHeartbeats 4000000 in
theorem W_X7_runWindow_85 {w : Wd} {E : GE} {sh : List Sh} {x0 : Nat} {x1 : Int32} {x2 : Int32} {h : Hp} {L9 : Nat → Int32 → Hp → Prop} {RET : Hp → Prop} (X : Cx w E cX7_runWindow 3 RX7) (Tt : Rt w E none sh.length 0 0 (fun q sh9 h9 => q = none ∧ sh9 = sh ∧ RET h9)) (hR : gR E = { frames := 5, cells := 0, slots := 0, locals := 122 }) (hL9 : ∀ (x0 : Nat) (x1 : Int32) (h : Hp), L9 x0 x1 h → G w E 3 9 [(0, rv w.2.2.2 x0), (1, Value.int x1)] [] sh h 0 0) (hV : V_X7_runWindow_85 w sh x0 x1 x2 h L9 RET) : G w E 3 85 [(0, rv w.2.2.2 x0), (1, Value.int x1), (2, Value.int x2)] [] sh h 0 0 := by
  unfold V_X7_runWindow_85 at hV
  refine g_aload_n (pc := 85) X 0 rfl rfl dX7_runWindow_85 ?_
  refine g_iload_n (pc := 86) X 2 rfl rfl dX7_runWindow_86 ?_
  refine g_iconst (pc := 87) (v := (0 : Int32)) X dX7_runWindow_87 (by decide) ?_
  obtain ⟨q1, hV⟩ := hV
  obtain ⟨P2, t3, hV⟩ := hV
  refine g_cVI (pc := 88) X (As := [Value.int x2, Value.int (0 : Int32)]) ml_X7_208 rfl q1 t3 (by rw [hR]; exact ⟨by decide, by decide, by decide, by decide⟩) rfl rfl (Nat.zero_le _) dX7_runWindow_88 (fun v6 h5 p4 => ?_)
  have hV := hV v6 h5 p4
  refine g_if_eq (pc := 91) X 101 dX7_runWindow_91 (by decide) (fun c7 => ?_) (fun c7 => ?_)
  · have hV := hV.1 c7
    refine g_lv [0, 1] rfl ?_
    exact W_X7_runWindow_101 X Tt hR hL9 hV
  · have hV := hV.2 c7
    refine g_aload_n (pc := 94) X 0 rfl rfl dX7_runWindow_94 ?_
    refine g_iload_n (pc := 95) X 2 rfl rfl dX7_runWindow_95 ?_
    refine g_iconst (pc := 96) (v := (3 : Int32)) X dX7_runWindow_96 (by decide) ?_
    obtain ⟨P8, t9, hV⟩ := hV
    refine g_cVI (pc := 97) X (As := [Value.int x2, Value.int (3 : Int32)]) ml_X7_208 rfl q1 t9 (by rw [hR]; exact ⟨by decide, by decide, by decide, by decide⟩) rfl rfl (Nat.zero_le _) dX7_runWindow_97 (fun v12 h11 p10 => ?_)
    have hV := hV v12 h11 p10
    refine g_pop (pc := 100) X dX7_runWindow_100 (rfl) ?_
    refine g_lv [0, 1] rfl ?_
    exact W_X7_runWindow_101 X Tt hR hL9 hV
def V_X7_runWindow_9 (w : Wd) (sh : List Sh) (x0 : Nat) (x1 : Int32) (h : Hp) (L9 : Nat → Int32 → Hp → Prop) (RET : Hp → Prop) : Prop :=
  (((8000 : Int32) ≤ x1) → (V_X7_runWindow_107 w sh x0 h L9 RET)) ∧ ((¬ (8000 : Int32) ≤ x1) → (shAt sh x0 = some (.inr 7) ∧ (((¬ (h.1 x0 12) = 0) → (V_X7_runWindow_107 w sh x0 h L9 RET)) ∧ (((h.1 x0 12) = 0) → (shAt sh (h.2.1 x0 6) = some (.inr 2) ∧ (∃ P5 : Int32 → Hp → Prop, C_X2_left w sh (h.2.1 x0 6) h P5 ∧ (∀ (v9 : Int32) (h8 : Hp), P5 v9 h8 → (((v9 ≤ 0) → (V_X7_runWindow_107 w sh x0 h8 L9 RET)) ∧ ((¬ v9 ≤ 0) → (shAt sh (h8.2.1 x0 6) = some (.inr 2) ∧ (∀ h12 : Hp, h12 = wI h8 x0 18 (h8.1 (h8.2.1 x0 6) 1) → (∃ P14 : Int32 → Hp → Prop, C_X2_next w sh (h8.2.1 x0 6) h12 P14 ∧ (∀ (v18 : Int32) (h17 : Hp), P14 v18 h17 → (∀ y19 : Int32, y19 = v18 → (shAt sh (h17.2.1 x0 0) = some (.inr 10) ∧ (∃ P22 : Int32 → Hp → Prop, C_X10_get w sh (h17.2.1 x0 0) y19 (0 : Int32) h17 P22 ∧ (∀ (v26 : Int32) (h25 : Hp), P22 v26 h25 → (((v26 = 0) → (V_X7_runWindow_85 w sh x0 x1 y19 h25 L9 RET)) ∧ ((¬ v26 = 0) → (shAt sh (h25.2.1 x0 0) = some (.inr 10) ∧ (∃ P29 : Int32 → Hp → Prop, C_X10_get w sh (h25.2.1 x0 0) y19 (3 : Int32) h25 P29 ∧ (∀ (v33 : Int32) (h32 : Hp), P29 v33 h32 → (((v33 = 0) → (V_X7_runWindow_85 w sh x0 x1 y19 h32 L9 RET)) ∧ ((¬ v33 = 0) → (shAt sh (h32.2.1 x0 2) = some (.inr 4) ∧ (∃ P36 : Hp → Prop, C_X4_count w sh (h32.2.1 x0 2) (4 : Int32) (1 : Int32) h32 P36 ∧ (∀ h39 : Hp, P36 h39 → (V_X7_runWindow_85 w sh x0 x1 y19 h39 L9 RET))))))))))))))))))))))))))))
set_option maxRecDepth 20000 in
set_option maxHeartbeats 4000000 in
theorem W_X7_runWindow_9 {w : Wd} {E : GE} {sh : List Sh} {x0 : Nat} {x1 : Int32} {h : Hp} {L9 : Nat → Int32 → Hp → Prop} {RET : Hp → Prop} (X : Cx w E cX7_runWindow 3 RX7) (Tt : Rt w E none sh.length 0 0 (fun q sh9 h9 => q = none ∧ sh9 = sh ∧ RET h9)) (hR : gR E = { frames := 5, cells := 0, slots := 0, locals := 122 }) (hL9 : ∀ (x0 : Nat) (x1 : Int32) (h : Hp), L9 x0 x1 h → G w E 3 9 [(0, rv w.2.2.2 x0), (1, Value.int x1)] [] sh h 0 0) (hV : V_X7_runWindow_9 w sh x0 x1 h L9 RET) : G w E 3 9 [(0, rv w.2.2.2 x0), (1, Value.int x1)] [] sh h 0 0 := by
  unfold V_X7_runWindow_9 at hV
  refine g_iload_n (pc := 9) X 1 rfl rfl dX7_runWindow_9 ?_
  refine g_sipush (pc := 10) (v := (8000 : Int32)) X dX7_runWindow_10 (by decide) ?_
  refine g_icmp_ge (pc := 13) X 107 dX7_runWindow_13 (by decide) (fun c1 => ?_) (fun c1 => ?_)
  · have hV := hV.1 c1
    refine g_lv [0] rfl ?_
    exact W_X7_runWindow_107 X Tt hR hL9 hV
  · have hV := hV.2 c1
    refine g_aload_n (pc := 16) X 0 rfl rfl dX7_runWindow_16 ?_
    obtain ⟨q2, hV⟩ := hV
    refine g_getI (pc := 17) X fl_X7_49 q2 dX7_runWindow_17 ?_
    refine g_if_ne (pc := 20) X 107 dX7_runWindow_20 (by decide) (fun c3 => ?_) (fun c3 => ?_)
    · have hV := hV.1 c3
      refine g_lv [0] rfl ?_
      exact W_X7_runWindow_107 X Tt hR hL9 hV
    · have hV := hV.2 c3
      refine g_aload_n (pc := 23) X 0 rfl rfl dX7_runWindow_23 ?_
      refine g_getR (pc := 24) X fl_X7_21 q2 dX7_runWindow_24 ?_
      obtain ⟨q4, hV⟩ := hV
      obtain ⟨P5, t6, hV⟩ := hV
      refine g_cVI (pc := 27) X (As := []) ml_X7_107 rfl q4 t6 (by rw [hR]; exact ⟨by decide, by decide, by decide, by decide⟩) rfl rfl (Nat.zero_le _) dX7_runWindow_27 (fun v9 h8 p7 => ?_)
      have hV := hV v9 h8 p7
      refine g_if_le (pc := 30) X 107 dX7_runWindow_30 (by decide) (fun c10 => ?_) (fun c10 => ?_)
      · have hV := hV.1 c10
        refine g_lv [0] rfl ?_
        exact W_X7_runWindow_107 X Tt hR hL9 hV
      · have hV := hV.2 c10
        refine g_aload_n (pc := 33) X 0 rfl rfl dX7_runWindow_33 ?_
        refine g_aload_n (pc := 34) X 0 rfl rfl dX7_runWindow_34 ?_
        refine g_getR (pc := 35) X fl_X7_21 q2 dX7_runWindow_35 ?_
        obtain ⟨q11, hV⟩ := hV
        refine g_getI (pc := 38) X fl_X7_104 q11 dX7_runWindow_38 ?_
        refine g_putI (pc := 41) X fl_X7_201 q2 rfl rfl dX7_runWindow_41 (fun h12 e13 => ?_)
        have hV := hV h12 e13
        refine g_aload_n (pc := 44) X 0 rfl rfl dX7_runWindow_44 ?_
        refine g_getRe (pc := 45) X fl_X7_21 q2 (congrFun (congrFun (rfI e13) _) _) dX7_runWindow_45 ?_
        obtain ⟨P14, t15, hV⟩ := hV
        refine g_cVI (pc := 48) X (As := []) ml_X7_134 rfl q11 t15 (by rw [hR]; exact ⟨by decide, by decide, by decide, by decide⟩) rfl rfl (Nat.zero_le _) dX7_runWindow_48 (fun v18 h17 p16 => ?_)
        have hV := hV v18 h17 p16
        refine g_istore_n (pc := 51) X (i := 2) (rest := [(0, rv w.2.2.2 x0), (1, Value.int x1)]) rfl (by decide) rfl dX7_runWindow_51 (fun y19 e20 => ?_)
        have hV := hV y19 e20
        refine g_aload_n (pc := 52) X 1 rfl rfl dX7_runWindow_52 ?_
        refine g_getR (pc := 53) X fl_X7_56 q2 dX7_runWindow_53 ?_
        refine g_iload_n (pc := 56) X 0 rfl rfl dX7_runWindow_56 ?_
        refine g_iconst (pc := 57) (v := (0 : Int32)) X dX7_runWindow_57 (by decide) ?_
        obtain ⟨q21, hV⟩ := hV
        obtain ⟨P22, t23, hV⟩ := hV
        refine g_cVI (pc := 58) X (As := [Value.int y19, Value.int (0 : Int32)]) ml_X7_204 rfl q21 t23 (by rw [hR]; exact ⟨by decide, by decide, by decide, by decide⟩) rfl rfl (Nat.zero_le _) dX7_runWindow_58 (fun v26 h25 p24 => ?_)
        have hV := hV v26 h25 p24
        refine g_if_eq (pc := 61) X 85 dX7_runWindow_61 (by decide) (fun c27 => ?_) (fun c27 => ?_)
        · have hV := hV.1 c27
          refine g_lv [1, 2, 0] rfl ?_
          exact W_X7_runWindow_85 X Tt hR hL9 hV
        · have hV := hV.2 c27
          refine g_aload_n (pc := 64) X 1 rfl rfl dX7_runWindow_64 ?_
          refine g_getR (pc := 65) X fl_X7_56 q2 dX7_runWindow_65 ?_
          refine g_iload_n (pc := 68) X 0 rfl rfl dX7_runWindow_68 ?_
          refine g_iconst (pc := 69) (v := (3 : Int32)) X dX7_runWindow_69 (by decide) ?_
          obtain ⟨q28, hV⟩ := hV
          obtain ⟨P29, t30, hV⟩ := hV
          refine g_cVI (pc := 70) X (As := [Value.int y19, Value.int (3 : Int32)]) ml_X7_204 rfl q28 t30 (by rw [hR]; exact ⟨by decide, by decide, by decide, by decide⟩) rfl rfl (Nat.zero_le _) dX7_runWindow_70 (fun v33 h32 p31 => ?_)
          have hV := hV v33 h32 p31
          refine g_if_eq (pc := 73) X 85 dX7_runWindow_73 (by decide) (fun c34 => ?_) (fun c34 => ?_)
          · have hV := hV.1 c34
            refine g_lv [1, 2, 0] rfl ?_
            exact W_X7_runWindow_85 X Tt hR hL9 hV
          · have hV := hV.2 c34
            refine g_aload_n (pc := 76) X 1 rfl rfl dX7_runWindow_76 ?_
            refine g_getR (pc := 77) X fl_X7_64 q2 dX7_runWindow_77 ?_
            refine g_iconst (pc := 80) (v := (4 : Int32)) X dX7_runWindow_80 (by decide) ?_
            refine g_iconst (pc := 81) (v := (1 : Int32)) X dX7_runWindow_81 (by decide) ?_
            obtain ⟨q35, hV⟩ := hV
            obtain ⟨P36, t37, hV⟩ := hV
            refine g_cVV (pc := 82) X (As := [Value.int (4 : Int32), Value.int (1 : Int32)]) ml_X7_166 rfl q35 t37 (by rw [hR]; exact ⟨by decide, by decide, by decide, by decide⟩) rfl rfl (Nat.zero_le _) dX7_runWindow_82 (fun h39 p38 => ?_)
            have hV := hV h39 p38
            refine g_lv [1, 2, 0] rfl ?_
            exact W_X7_runWindow_85 X Tt hR hL9 hV
def V_X7_runWindow_0 (w : Wd) (sh : List Sh) (x0 : Nat) (h : Hp) (L9 : Nat → Int32 → Hp → Prop) (RET : Hp → Prop) : Prop :=
  shAt sh x0 = some (.inr 7) ∧ (shAt sh (h.2.1 x0 1) = some (.inr 0) ∧ (∃ P3 : Hp → Prop, C_X0_wipe w sh (h.2.1 x0 1) h P3 ∧ (∀ h6 : Hp, P3 h6 → (∀ y7 : Int32, y7 = (0 : Int32) → (L9 x0 y7 h6)))))
set_option maxRecDepth 20000 in
set_option maxHeartbeats 4000000 in
theorem W_X7_runWindow_0 {w : Wd} {E : GE} {sh : List Sh} {x0 : Nat} {h : Hp} {L9 : Nat → Int32 → Hp → Prop} {RET : Hp → Prop} (X : Cx w E cX7_runWindow 3 RX7) (Tt : Rt w E none sh.length 0 0 (fun q sh9 h9 => q = none ∧ sh9 = sh ∧ RET h9)) (hR : gR E = { frames := 5, cells := 0, slots := 0, locals := 122 }) (hL9 : ∀ (x0 : Nat) (x1 : Int32) (h : Hp), L9 x0 x1 h → G w E 3 9 [(0, rv w.2.2.2 x0), (1, Value.int x1)] [] sh h 0 0) (hV : V_X7_runWindow_0 w sh x0 h L9 RET) : G w E 3 0 [(0, rv w.2.2.2 x0)] [] sh h 0 0 := by
  unfold V_X7_runWindow_0 at hV
  refine g_aload_n (pc := 0) X 0 rfl rfl dX7_runWindow_0 ?_
  obtain ⟨q1, hV⟩ := hV
  refine g_getR (pc := 1) X fl_X7_60 q1 dX7_runWindow_1 ?_
  obtain ⟨q2, hV⟩ := hV
  obtain ⟨P3, t4, hV⟩ := hV
  refine g_cVV (pc := 4) X (As := []) ml_X7_198 rfl q2 t4 (by rw [hR]; exact ⟨by decide, by decide, by decide, by decide⟩) rfl rfl (Nat.zero_le _) dX7_runWindow_4 (fun h6 p5 => ?_)
  have hV := hV h6 p5
  refine g_iconst (pc := 7) (v := (0 : Int32)) X dX7_runWindow_7 (by decide) ?_
  refine g_istore_n (pc := 8) X (i := 1) (rest := [(0, rv w.2.2.2 x0)]) rfl (by decide) (by simp [flt1, flt2, rv_cat, cat_int, cat_long]) dX7_runWindow_8 (fun y7 e8 => ?_)
  have hV := hV y7 e8
  refine g_lv [1, 0] rfl ?_
  exact hL9 x0 y7 h6 hV
def C_X7_runWindow (w : Wd) (sh : List Sh) (x0 : Nat) (h : Hp) (RET : Hp → Prop) : Prop := CV w yX7_runWindow (.code yX7_runWindow cX7_runWindow 3 none) 5 122 [rv w.2.2.2 x0] sh h RET
set_option maxRecDepth 20000 in
theorem K_X7_runWindow {w : Wd} {sh : List Sh} {x0 : Nat} {h : Hp} {RET : Hp → Prop} {α : Type} {r : α → α → Prop} (wf : WellFounded r) (I9 : α → Nat → Int32 → Hp → Prop) (hE : V_X7_runWindow_0 w sh x0 h (fun x0 x1 h => ∃ a, I9 a x0 x1 h) RET) (h9 : ∀ (b : α) (x0 : Nat) (x1 : Int32) (h : Hp), I9 b x0 x1 h → V_X7_runWindow_9 w sh x0 x1 h (fun x0 x1 h => ∃ a, r a b ∧ I9 a x0 x1 h) RET) : C_X7_runWindow w sh x0 h RET :=
  Ct_of (by decide +kernel) (by simp [lg_sl, rv_cat, cat_int, cat_long]) (fun E X Tt hR _ => by
    have key : ∀ a : α, (∀ (x0 : Nat) (x1 : Int32) (h : Hp), I9 a x0 x1 h → G w E 3 9 [(0, rv w.2.2.2 x0), (1, Value.int x1)] [] sh h 0 0) := by
      intro a
      induction a using wf.induction with
      | _ a ih =>
        exact (fun x0 x1 h hi => W_X7_runWindow_9 X Tt hR (fun x0 x1 h hx => by obtain ⟨a2, ha, hi⟩ := hx; exact (ih a2 ha) x0 x1 h hi) (h9 a x0 x1 h hi))
    rw [show lv_args 0 [rv w.2.2.2 x0] = [(0, rv w.2.2.2 x0)] from by simp [lv_args, rv_cat, cat_int, cat_long]]
    refine g_lv [0] rfl ?_
    exact W_X7_runWindow_0 X Tt hR (fun x0 x1 h hx => by obtain ⟨a2, hi⟩ := hx; exact (key a2) x0 x1 h hi) hE)
def V_X7_readWindows_55 (w : Wd) (sh : List Sh) (x0 : Nat) (x2 : Int32) (h : Hp) (L2 : Nat → Int32 → Hp → Prop) (RET : Hp → Prop) : Prop :=
  shAt sh x0 = some (.inr 7) ∧ (∃ P2 : Int32 → Hp → Prop, C_X7_fail w sh x0 (6 : Int32) x2 h P2 ∧ (∀ (v6 : Int32) (h5 : Hp), P2 v6 h5 → (RET h5)))
set_option maxRecDepth 20000 in
set_option maxHeartbeats 4000000 in
theorem W_X7_readWindows_55 {w : Wd} {E : GE} {sh : List Sh} {x0 : Nat} {x2 : Int32} {h : Hp} {L2 : Nat → Int32 → Hp → Prop} {RET : Hp → Prop} (X : Cx w E cX7_readWindows 4 RX7) (Tt : Rt w E none sh.length 0 0 (fun q sh9 h9 => q = none ∧ sh9 = sh ∧ RET h9)) (hR : gR E = { frames := 6, cells := 0, slots := 0, locals := 144 }) (hL2 : ∀ (x0 : Nat) (x1 : Int32) (h : Hp), L2 x0 x1 h → G w E 4 2 [(0, rv w.2.2.2 x0), (1, Value.int x1)] [] sh h 0 0) (hV : V_X7_readWindows_55 w sh x0 x2 h L2 RET) : G w E 4 55 [(0, rv w.2.2.2 x0), (2, Value.int x2)] [] sh h 0 0 := by
  unfold V_X7_readWindows_55 at hV
  refine g_aload_n (pc := 55) X 0 rfl rfl dX7_readWindows_55 ?_
  refine g_bipush (pc := 56) (v := (6 : Int32)) X dX7_readWindows_56 (by decide) ?_
  refine g_iload_n (pc := 58) X 1 rfl rfl dX7_readWindows_58 ?_
  obtain ⟨q1, hV⟩ := hV
  obtain ⟨P2, t3, hV⟩ := hV
  refine g_cVI (pc := 59) X (As := [Value.int (6 : Int32), Value.int x2]) ml_X7_114 rfl q1 t3 (by rw [hR]; exact ⟨by decide, by decide, by decide, by decide⟩) rfl rfl (Nat.zero_le _) dX7_readWindows_59 (fun v6 h5 p4 => ?_)
  have hV := hV v6 h5 p4
  refine g_pop (pc := 62) X dX7_readWindows_62 (rfl) ?_
  exact g_vret (pc := 63) X Tt ⟨rfl, rfl, hV⟩ dX7_readWindows_63
def V_X7_readWindows_93 (w : Wd) (sh : List Sh) (x0 : Nat) (x1 : Int32) (h : Hp) (L2 : Nat → Int32 → Hp → Prop) (RET : Hp → Prop) : Prop :=
  ∀ y1 : Int32, y1 = x1 + (1 : Int32) → (L2 x0 y1 h)
set_option maxRecDepth 20000 in
set_option maxHeartbeats 4000000 in
theorem W_X7_readWindows_93 {w : Wd} {E : GE} {sh : List Sh} {x0 : Nat} {x1 : Int32} {h : Hp} {L2 : Nat → Int32 → Hp → Prop} {RET : Hp → Prop} (X : Cx w E cX7_readWindows 4 RX7) (Tt : Rt w E none sh.length 0 0 (fun q sh9 h9 => q = none ∧ sh9 = sh ∧ RET h9)) (hR : gR E = { frames := 6, cells := 0, slots := 0, locals := 144 }) (hL2 : ∀ (x0 : Nat) (x1 : Int32) (h : Hp), L2 x0 x1 h → G w E 4 2 [(0, rv w.2.2.2 x0), (1, Value.int x1)] [] sh h 0 0) (hV : V_X7_readWindows_93 w sh x0 x1 h L2 RET) : G w E 4 93 [(0, rv w.2.2.2 x0), (1, Value.int x1)] [] sh h 0 0 := by
  unfold V_X7_readWindows_93 at hV
  refine g_iinc (pc := 93) X 1 (v := (1 : Int32)) (rest := [(0, rv w.2.2.2 x0)]) rfl (by decide) (by simp [flt1, flt2, rv_cat, cat_int, cat_long]) (by decide) dX7_readWindows_93 (fun y1 e2 => ?_)
  have hV := hV y1 e2
  refine g_goto (pc := 96) X 2 dX7_readWindows_96 (by decide) ?_
  refine g_lv [1, 0] rfl ?_
  exact hL2 x0 y1 h hV
def V_X7_readWindows_2 (w : Wd) (sh : List Sh) (x0 : Nat) (x1 : Int32) (h : Hp) (L2 : Nat → Int32 → Hp → Prop) (RET : Hp → Prop) : Prop :=
  (((8000 : Int32) ≤ x1) → (RET h)) ∧ ((¬ (8000 : Int32) ≤ x1) → (shAt sh x0 = some (.inr 7) ∧ (((¬ (h.1 x0 12) = 0) → (RET h)) ∧ (((h.1 x0 12) = 0) → (shAt sh (h.2.1 x0 4) = some (.inr 2) ∧ (∃ P5 : Int32 → Hp → Prop, C_X2_left w sh (h.2.1 x0 4) h P5 ∧ (∀ (v9 : Int32) (h8 : Hp), P5 v9 h8 → (((v9 ≤ 0) → (RET h8)) ∧ ((¬ v9 ≤ 0) → (shAt sh (h8.2.1 x0 4) = some (.inr 2) ∧ (∀ y12 : Int32, y12 = (h8.1 (h8.2.1 x0 4) 1) → (∃ P14 : Int32 → Hp → Prop, C_X2_next w sh (h8.2.1 x0 4) h8 P14 ∧ (∀ (v18 : Int32) (h17 : Hp), P14 v18 h17 → (∀ y19 : Int32, y19 = v18 → ((((7 : Int32) < y19) → (V_X7_readWindows_55 w sh x0 y12 h17 L2 RET)) ∧ ((¬ (7 : Int32) < y19) → (((¬ (y19 &&& (3 : Int32)) = (3 : Int32)) → (shAt sh (h17.2.1 x0 2) = some (.inr 4) ∧ (∃ P24 : Hp → Prop, C_X4_count w sh (h17.2.1 x0 2) (0 : Int32) (1 : Int32) h17 P24 ∧ (∀ h27 : Hp, P24 h27 → (∃ P28 : Int32 → Hp → Prop, C_X7_readSegment w sh x0 y19 h27 P28 ∧ (∀ (v32 : Int32) (h31 : Hp), P28 v32 h31 → (((v32 = 0) → (V_X7_readWindows_93 w sh x0 x1 h31 L2 RET)) ∧ ((¬ v32 = 0) → (∃ P34 : Int32 → Hp → Prop, C_X7_readSizes w sh x0 y19 h31 P34 ∧ (∀ (v38 : Int32) (h37 : Hp), P34 v38 h37 → (((v38 = 0) → (V_X7_readWindows_93 w sh x0 x1 h37 L2 RET)) ∧ ((¬ v38 = 0) → (∃ P40 : Hp → Prop, C_X7_runWindow w sh x0 h37 P40 ∧ (∀ h43 : Hp, P40 h43 → (V_X7_readWindows_93 w sh x0 x1 h43 L2 RET))))))))))))))) ∧ (((y19 &&& (3 : Int32)) = (3 : Int32)) → (V_X7_readWindows_55 w sh x0 y12 h17 L2 RET)))))))))))))))))))
set_option maxRecDepth 20000 in
set_option maxHeartbeats 4000000 in
theorem W_X7_readWindows_2 {w : Wd} {E : GE} {sh : List Sh} {x0 : Nat} {x1 : Int32} {h : Hp} {L2 : Nat → Int32 → Hp → Prop} {RET : Hp → Prop} (X : Cx w E cX7_readWindows 4 RX7) (Tt : Rt w E none sh.length 0 0 (fun q sh9 h9 => q = none ∧ sh9 = sh ∧ RET h9)) (hR : gR E = { frames := 6, cells := 0, slots := 0, locals := 144 }) (hL2 : ∀ (x0 : Nat) (x1 : Int32) (h : Hp), L2 x0 x1 h → G w E 4 2 [(0, rv w.2.2.2 x0), (1, Value.int x1)] [] sh h 0 0) (hV : V_X7_readWindows_2 w sh x0 x1 h L2 RET) : G w E 4 2 [(0, rv w.2.2.2 x0), (1, Value.int x1)] [] sh h 0 0 := by
  unfold V_X7_readWindows_2 at hV
  refine g_iload_n (pc := 2) X 1 rfl rfl dX7_readWindows_2 ?_
  refine g_sipush (pc := 3) (v := (8000 : Int32)) X dX7_readWindows_3 (by decide) ?_
  refine g_icmp_ge (pc := 6) X 99 dX7_readWindows_6 (by decide) (fun c1 => ?_) (fun c1 => ?_)
  · have hV := hV.1 c1
    exact g_vret (pc := 99) X Tt ⟨rfl, rfl, hV⟩ dX7_readWindows_99
  · have hV := hV.2 c1
    refine g_aload_n (pc := 9) X 0 rfl rfl dX7_readWindows_9 ?_
    obtain ⟨q2, hV⟩ := hV
    refine g_getI (pc := 10) X fl_X7_49 q2 dX7_readWindows_10 ?_
    refine g_if_ne (pc := 13) X 99 dX7_readWindows_13 (by decide) (fun c3 => ?_) (fun c3 => ?_)
    · have hV := hV.1 c3
      exact g_vret (pc := 99) X Tt ⟨rfl, rfl, hV⟩ dX7_readWindows_99
    · have hV := hV.2 c3
      refine g_aload_n (pc := 16) X 0 rfl rfl dX7_readWindows_16 ?_
      refine g_getR (pc := 17) X fl_X7_12 q2 dX7_readWindows_17 ?_
      obtain ⟨q4, hV⟩ := hV
      obtain ⟨P5, t6, hV⟩ := hV
      refine g_cVI (pc := 20) X (As := []) ml_X7_107 rfl q4 t6 (by rw [hR]; exact ⟨by decide, by decide, by decide, by decide⟩) rfl rfl (Nat.zero_le _) dX7_readWindows_20 (fun v9 h8 p7 => ?_)
      have hV := hV v9 h8 p7
      refine g_if_le (pc := 23) X 99 dX7_readWindows_23 (by decide) (fun c10 => ?_) (fun c10 => ?_)
      · have hV := hV.1 c10
        exact g_vret (pc := 99) X Tt ⟨rfl, rfl, hV⟩ dX7_readWindows_99
      · have hV := hV.2 c10
        refine g_aload_n (pc := 26) X 0 rfl rfl dX7_readWindows_26 ?_
        refine g_getR (pc := 27) X fl_X7_12 q2 dX7_readWindows_27 ?_
        obtain ⟨q11, hV⟩ := hV
        refine g_getI (pc := 30) X fl_X7_104 q11 dX7_readWindows_30 ?_
        refine g_istore_n (pc := 33) X (i := 2) (rest := [(0, rv w.2.2.2 x0), (1, Value.int x1)]) rfl (by decide) rfl dX7_readWindows_33 (fun y12 e13 => ?_)
        have hV := hV y12 e13
        refine g_aload_n (pc := 34) X 1 rfl rfl dX7_readWindows_34 ?_
        refine g_getR (pc := 35) X fl_X7_12 q2 dX7_readWindows_35 ?_
        obtain ⟨P14, t15, hV⟩ := hV
        refine g_cVI (pc := 38) X (As := []) ml_X7_134 rfl q11 t15 (by rw [hR]; exact ⟨by decide, by decide, by decide, by decide⟩) rfl rfl (Nat.zero_le _) dX7_readWindows_38 (fun v18 h17 p16 => ?_)
        have hV := hV v18 h17 p16
        refine g_istore_n (pc := 41) X (i := 3) (rest := [(2, Value.int y12), (0, rv w.2.2.2 x0), (1, Value.int x1)]) rfl (by decide) rfl dX7_readWindows_41 (fun y19 e20 => ?_)
        have hV := hV y19 e20
        refine g_iload_n (pc := 42) X 0 rfl rfl dX7_readWindows_42 ?_
        refine g_bipush (pc := 43) (v := (7 : Int32)) X dX7_readWindows_43 (by decide) ?_
        refine g_icmp_gt (pc := 45) X 55 dX7_readWindows_45 (by decide) (fun c21 => ?_) (fun c21 => ?_)
        · have hV := hV.1 c21
          refine g_lv [2, 1] rfl ?_
          exact W_X7_readWindows_55 X Tt hR hL2 hV
        · have hV := hV.2 c21
          refine g_iload_n (pc := 48) X 0 rfl rfl dX7_readWindows_48 ?_
          refine g_iconst (pc := 49) (v := (3 : Int32)) X dX7_readWindows_49 (by decide) ?_
          refine g_iand (pc := 50) X dX7_readWindows_50 ?_
          refine g_iconst (pc := 51) (v := (3 : Int32)) X dX7_readWindows_51 (by decide) ?_
          refine g_icmp_ne (pc := 52) X 64 dX7_readWindows_52 (by decide) (fun c22 => ?_) (fun c22 => ?_)
          · have hV := hV.1 c22
            refine g_aload_n (pc := 64) X 2 rfl rfl dX7_readWindows_64 ?_
            refine g_getR (pc := 65) X fl_X7_64 q2 dX7_readWindows_65 ?_
            refine g_iconst (pc := 68) (v := (0 : Int32)) X dX7_readWindows_68 (by decide) ?_
            refine g_iconst (pc := 69) (v := (1 : Int32)) X dX7_readWindows_69 (by decide) ?_
            obtain ⟨q23, hV⟩ := hV
            obtain ⟨P24, t25, hV⟩ := hV
            refine g_cVV (pc := 70) X (As := [Value.int (0 : Int32), Value.int (1 : Int32)]) ml_X7_166 rfl q23 t25 (by rw [hR]; exact ⟨by decide, by decide, by decide, by decide⟩) rfl rfl (Nat.zero_le _) dX7_readWindows_70 (fun h27 p26 => ?_)
            have hV := hV h27 p26
            refine g_aload_n (pc := 73) X 2 rfl rfl dX7_readWindows_73 ?_
            refine g_iload_n (pc := 74) X 0 rfl rfl dX7_readWindows_74 ?_
            obtain ⟨P28, t29, hV⟩ := hV
            refine g_cVI (pc := 75) X (As := [Value.int y19]) ml_X7_175 rfl q2 t29 (by rw [hR]; exact ⟨by decide, by decide, by decide, by decide⟩) rfl rfl (Nat.zero_le _) dX7_readWindows_75 (fun v32 h31 p30 => ?_)
            have hV := hV v32 h31 p30
            refine g_if_eq (pc := 78) X 93 dX7_readWindows_78 (by decide) (fun c33 => ?_) (fun c33 => ?_)
            · have hV := hV.1 c33
              refine g_lv [2, 3] rfl ?_
              exact W_X7_readWindows_93 X Tt hR hL2 hV
            · have hV := hV.2 c33
              refine g_aload_n (pc := 81) X 2 rfl rfl dX7_readWindows_81 ?_
              refine g_iload_n (pc := 82) X 0 rfl rfl dX7_readWindows_82 ?_
              obtain ⟨P34, t35, hV⟩ := hV
              refine g_cVI (pc := 83) X (As := [Value.int y19]) ml_X7_179 rfl q2 t35 (by rw [hR]; exact ⟨by decide, by decide, by decide, by decide⟩) rfl rfl (Nat.zero_le _) dX7_readWindows_83 (fun v38 h37 p36 => ?_)
              have hV := hV v38 h37 p36
              refine g_if_eq (pc := 86) X 93 dX7_readWindows_86 (by decide) (fun c39 => ?_) (fun c39 => ?_)
              · have hV := hV.1 c39
                refine g_lv [2, 3] rfl ?_
                exact W_X7_readWindows_93 X Tt hR hL2 hV
              · have hV := hV.2 c39
                refine g_aload_n (pc := 89) X 2 rfl rfl dX7_readWindows_89 ?_
                obtain ⟨P40, t41, hV⟩ := hV
                refine g_cVV (pc := 90) X (As := []) ml_X7_182 rfl q2 t41 (by rw [hR]; exact ⟨by decide, by decide, by decide, by decide⟩) rfl rfl (Nat.zero_le _) dX7_readWindows_90 (fun h43 p42 => ?_)
                have hV := hV h43 p42
                refine g_lv [2, 3] rfl ?_
                exact W_X7_readWindows_93 X Tt hR hL2 hV
          · have hV := hV.2 c22
            refine g_lv [2, 1] rfl ?_
            exact W_X7_readWindows_55 X Tt hR hL2 hV
def V_X7_readWindows_0 (w : Wd) (sh : List Sh) (x0 : Nat) (h : Hp) (L2 : Nat → Int32 → Hp → Prop) (RET : Hp → Prop) : Prop :=
  ∀ y1 : Int32, y1 = (0 : Int32) → (L2 x0 y1 h)
set_option maxRecDepth 20000 in
set_option maxHeartbeats 4000000 in
theorem W_X7_readWindows_0 {w : Wd} {E : GE} {sh : List Sh} {x0 : Nat} {h : Hp} {L2 : Nat → Int32 → Hp → Prop} {RET : Hp → Prop} (X : Cx w E cX7_readWindows 4 RX7) (Tt : Rt w E none sh.length 0 0 (fun q sh9 h9 => q = none ∧ sh9 = sh ∧ RET h9)) (hR : gR E = { frames := 6, cells := 0, slots := 0, locals := 144 }) (hL2 : ∀ (x0 : Nat) (x1 : Int32) (h : Hp), L2 x0 x1 h → G w E 4 2 [(0, rv w.2.2.2 x0), (1, Value.int x1)] [] sh h 0 0) (hV : V_X7_readWindows_0 w sh x0 h L2 RET) : G w E 4 0 [(0, rv w.2.2.2 x0)] [] sh h 0 0 := by
  unfold V_X7_readWindows_0 at hV
  refine g_iconst (pc := 0) (v := (0 : Int32)) X dX7_readWindows_0 (by decide) ?_
  refine g_istore_n (pc := 1) X (i := 1) (rest := [(0, rv w.2.2.2 x0)]) rfl (by decide) (by simp [flt1, flt2, rv_cat, cat_int, cat_long]) dX7_readWindows_1 (fun y1 e2 => ?_)
  have hV := hV y1 e2
  refine g_lv [1, 0] rfl ?_
  exact hL2 x0 y1 h hV
def C_X7_readWindows (w : Wd) (sh : List Sh) (x0 : Nat) (h : Hp) (RET : Hp → Prop) : Prop := CV w yX7_readWindows (.code yX7_readWindows cX7_readWindows 4 none) 6 144 [rv w.2.2.2 x0] sh h RET
set_option maxRecDepth 20000 in
theorem K_X7_readWindows {w : Wd} {sh : List Sh} {x0 : Nat} {h : Hp} {RET : Hp → Prop} {α : Type} {r : α → α → Prop} (wf : WellFounded r) (I2 : α → Nat → Int32 → Hp → Prop) (hE : V_X7_readWindows_0 w sh x0 h (fun x0 x1 h => ∃ a, I2 a x0 x1 h) RET) (h2 : ∀ (b : α) (x0 : Nat) (x1 : Int32) (h : Hp), I2 b x0 x1 h → V_X7_readWindows_2 w sh x0 x1 h (fun x0 x1 h => ∃ a, r a b ∧ I2 a x0 x1 h) RET) : C_X7_readWindows w sh x0 h RET :=
  Ct_of (by decide +kernel) (by simp [lg_sl, rv_cat, cat_int, cat_long]) (fun E X Tt hR _ => by
    have key : ∀ a : α, (∀ (x0 : Nat) (x1 : Int32) (h : Hp), I2 a x0 x1 h → G w E 4 2 [(0, rv w.2.2.2 x0), (1, Value.int x1)] [] sh h 0 0) := by
      intro a
      induction a using wf.induction with
      | _ a ih =>
        exact (fun x0 x1 h hi => W_X7_readWindows_2 X Tt hR (fun x0 x1 h hx => by obtain ⟨a2, ha, hi⟩ := hx; exact (ih a2 ha) x0 x1 h hi) (h2 a x0 x1 h hi))
    rw [show lv_args 0 [rv w.2.2.2 x0] = [(0, rv w.2.2.2 x0)] from by simp [lv_args, rv_cat, cat_int, cat_long]]
    refine g_lv [0] rfl ?_
    exact W_X7_readWindows_0 X Tt hR (fun x0 x1 h hx => by obtain ⟨a2, hi⟩ := hx; exact (key a2) x0 x1 h hi) hE)
def V_X7_faultFound_0 (w : Wd) (sh : List Sh) (x0 : Nat) (h : Hp)  (RET : Int32 → Hp → Prop) : Prop :=
  shAt sh x0 = some (.inr 7) ∧ (RET (h.1 x0 12) h)
set_option maxRecDepth 20000 in
set_option maxHeartbeats 4000000 in
theorem W_X7_faultFound_0 {w : Wd} {E : GE} {sh : List Sh} {x0 : Nat} {h : Hp}  {RET : Int32 → Hp → Prop} (X : Cx w E cX7_faultFound 1 RX7) (Tt : Rt w E (some .int) sh.length 0 0 (fun q sh9 h9 => ∃ v : Int32, q = some (Value.int v) ∧ sh9 = sh ∧ RET v h9)) (hR : gR E = { frames := 0, cells := 0, slots := 0, locals := 0 }) (hV : V_X7_faultFound_0 w sh x0 h RET) : G w E 1 0 [(0, rv w.2.2.2 x0)] [] sh h 0 0 := by
  unfold V_X7_faultFound_0 at hV
  refine g_aload_n (pc := 0) X 0 rfl rfl dX7_faultFound_0 ?_
  obtain ⟨q1, hV⟩ := hV
  refine g_getI (pc := 1) X fl_X7_49 q1 dX7_faultFound_1 ?_
  exact g_iret (pc := 4) X Tt ⟨_, rfl, rfl, hV⟩ dX7_faultFound_4
def C_X7_faultFound (w : Wd) (sh : List Sh) (x0 : Nat) (h : Hp) (RET : Int32 → Hp → Prop) : Prop := CI w yX7_faultFound (.code yX7_faultFound cX7_faultFound 1 (some .int)) 0 0 [rv w.2.2.2 x0] sh h RET
theorem K_X7_faultFound {w : Wd} {sh : List Sh} {x0 : Nat} {h : Hp} {RET : Int32 → Hp → Prop} (hV : V_X7_faultFound_0 w sh x0 h RET) : C_X7_faultFound w sh x0 h RET :=
  Ct_of (by decide +kernel) (by simp [lg_sl, rv_cat, cat_int, cat_long]) (fun E X Tt hR _ => by
    rw [show lv_args 0 [rv w.2.2.2 x0] = [(0, rv w.2.2.2 x0)] from by simp [lv_args, rv_cat, cat_int, cat_long]]
    refine g_lv [0] rfl ?_
    exact W_X7_faultFound_0 X Tt hR hV)
def V_X7_takeTable_49 (w : Wd) (sh : List Sh) (x0 : Nat) (h : Hp)  (RET : Hp → Prop) : Prop :=
  shAt sh x0 = some (.inr 7) ∧ (∃ P2 : Int32 → Hp → Prop, C_X7_fail w sh x0 (5 : Int32) (h.1 x0 15) h P2 ∧ (∀ (v6 : Int32) (h5 : Hp), P2 v6 h5 → (RET h5)))
set_option maxRecDepth 20000 in
set_option maxHeartbeats 4000000 in
theorem W_X7_takeTable_49 {w : Wd} {E : GE} {sh : List Sh} {x0 : Nat} {h : Hp}  {RET : Hp → Prop} (X : Cx w E cX7_takeTable 4 RX7) (Tt : Rt w E none sh.length 0 0 (fun q sh9 h9 => q = none ∧ sh9 = sh ∧ RET h9)) (hR : gR E = { frames := 5, cells := 0, slots := 0, locals := 117 }) (hV : V_X7_takeTable_49 w sh x0 h RET) : G w E 4 49 [(0, rv w.2.2.2 x0)] [] sh h 0 0 := by
  unfold V_X7_takeTable_49 at hV
  refine g_aload_n (pc := 49) X 0 rfl rfl dX7_takeTable_49 ?_
  refine g_iconst (pc := 50) (v := (5 : Int32)) X dX7_takeTable_50 (by decide) ?_
  refine g_aload_n (pc := 51) X 0 rfl rfl dX7_takeTable_51 ?_
  obtain ⟨q1, hV⟩ := hV
  refine g_getI (pc := 52) X fl_X7_98 q1 dX7_takeTable_52 ?_
  obtain ⟨P2, t3, hV⟩ := hV
  refine g_cVI (pc := 55) X (As := [Value.int (5 : Int32), Value.int (h.1 x0 15)]) ml_X7_114 rfl q1 t3 (by rw [hR]; exact ⟨by decide, by decide, by decide, by decide⟩) rfl rfl (Nat.zero_le _) dX7_takeTable_55 (fun v6 h5 p4 => ?_)
  have hV := hV v6 h5 p4
  refine g_pop (pc := 58) X dX7_takeTable_58 (rfl) ?_
  exact g_vret (pc := 59) X Tt ⟨rfl, rfl, hV⟩ dX7_takeTable_59
def V_X7_takeTable_0 (w : Wd) (sh : List Sh) (x0 : Nat) (x1 : Int32) (h : Hp)  (RET : Hp → Prop) : Prop :=
  shAt sh x0 = some (.inr 7) ∧ (shAt sh (h.2.1 x0 4) = some (.inr 2) ∧ (shAt sh (h.2.1 (h.2.1 x0 4) 0) = some (.inr 8) ∧ (∃ P4 : Int32 → Hp → Prop, C_X8_at w sh (h.2.1 (h.2.1 x0 4) 0) (h.1 x0 15) h P4 ∧ (∀ (v8 : Int32) (h7 : Hp), P4 v8 h7 → (∀ y9 : Int32, y9 = v8 → (shAt sh (h7.2.1 x0 4) = some (.inr 2) ∧ (shAt sh (h7.2.1 (h7.2.1 x0 4) 0) = some (.inr 8) ∧ (∃ P13 : Int32 → Hp → Prop, C_X8_at w sh (h7.2.1 (h7.2.1 x0 4) 0) ((h7.1 x0 15) + (1 : Int32)) h7 P13 ∧ (∀ (v17 : Int32) (h16 : Hp), P13 v17 h16 → (∀ y18 : Int32, y18 = v17 → (((x1 = 0) → (V_X7_takeTable_49 w sh x0 h16 RET)) ∧ ((¬ x1 = 0) → (shAt sh (h16.2.1 x0 11) = some (.inr 8) ∧ (∃ P22 : Int32 → Hp → Prop, C_X8_length w sh (h16.2.1 x0 11) h16 P22 ∧ (∀ (v26 : Int32) (h25 : Hp), P22 v26 h25 → (((v26 = (1536 : Int32)) → (shAt sh (h25.2.1 x0 0) = some (.inr 10) ∧ (∃ P29 : Hp → Prop, C_X10_become w sh (h25.2.1 x0 0) (h25.2.1 x0 11) y9 y18 h25 P29 ∧ (∀ h32 : Hp, P29 h32 → (shAt sh (h32.2.1 x0 0) = some (.inr 10) ∧ (∃ P34 : Int32 → Hp → Prop, C_X10_isGood w sh (h32.2.1 x0 0) h32 P34 ∧ (∀ (v38 : Int32) (h37 : Hp), P34 v38 h37 → (((¬ v38 = 0) → (shAt sh (h37.2.1 x0 11) = some (.inr 8) ∧ (∃ P41 : Hp → Prop, C_X8_clear w sh (h37.2.1 x0 11) h37 P41 ∧ (∀ h44 : Hp, P41 h44 → (shAt sh (h44.2.1 x0 1) = some (.inr 0) ∧ (∃ P46 : Hp → Prop, C_X0_fit w sh (h44.2.1 x0 1) y9 y18 h44 P46 ∧ (∀ h49 : Hp, P46 h49 → (shAt sh (h49.2.1 x0 2) = some (.inr 4) ∧ (∃ P51 : Hp → Prop, C_X4_count w sh (h49.2.1 x0 2) (7 : Int32) (1 : Int32) h49 P51 ∧ (∀ h54 : Hp, P51 h54 → (shAt sh (h54.2.1 x0 4) = some (.inr 2) ∧ (∃ P56 : Int32 → Hp → Prop, C_X7_tableEnd w sh x0 h54 P56 ∧ (∀ (v60 : Int32) (h59 : Hp), P56 v60 h59 → (shAt sh (h59.2.1 x0 4) = some (.inr 2) ∧ (∃ P62 : Hp → Prop, C_X2_lay w sh (h54.2.1 x0 4) (h54.2.1 (h54.2.1 x0 4) 0) v60 (h59.1 (h59.2.1 x0 4) 2) h59 P62 ∧ (∀ h65 : Hp, P62 h65 → (RET h65))))))))))))))))) ∧ ((v38 = 0) → (shAt sh (h37.2.1 x0 0) = some (.inr 10) ∧ (∃ P67 : Hp → Prop, C_X10_becomeUsual w sh (h37.2.1 x0 0) h37 P67 ∧ (∀ h70 : Hp, P67 h70 → (∃ P71 : Int32 → Hp → Prop, C_X7_fail w sh x0 (5 : Int32) (h70.1 x0 15) h70 P71 ∧ (∀ (v75 : Int32) (h74 : Hp), P71 v75 h74 → (RET h74))))))))))))))) ∧ ((¬ v26 = (1536 : Int32)) → (V_X7_takeTable_49 w sh x0 h25 RET))))))))))))))))))
set_option maxRecDepth 20000 in
set_option maxHeartbeats 4000000 in
theorem W_X7_takeTable_0 {w : Wd} {E : GE} {sh : List Sh} {x0 : Nat} {x1 : Int32} {h : Hp}  {RET : Hp → Prop} (X : Cx w E cX7_takeTable 4 RX7) (Tt : Rt w E none sh.length 0 0 (fun q sh9 h9 => q = none ∧ sh9 = sh ∧ RET h9)) (hR : gR E = { frames := 5, cells := 0, slots := 0, locals := 117 }) (hV : V_X7_takeTable_0 w sh x0 x1 h RET) : G w E 4 0 [(0, rv w.2.2.2 x0), (1, Value.int x1)] [] sh h 0 0 := by
  unfold V_X7_takeTable_0 at hV
  refine g_aload_n (pc := 0) X 0 rfl rfl dX7_takeTable_0 ?_
  obtain ⟨q1, hV⟩ := hV
  refine g_getR (pc := 1) X fl_X7_12 q1 dX7_takeTable_1 ?_
  obtain ⟨q2, hV⟩ := hV
  refine g_getR (pc := 4) X fl_X7_147 q2 dX7_takeTable_4 ?_
  refine g_aload_n (pc := 7) X 0 rfl rfl dX7_takeTable_7 ?_
  refine g_getI (pc := 8) X fl_X7_98 q1 dX7_takeTable_8 ?_
  obtain ⟨q3, hV⟩ := hV
  obtain ⟨P4, t5, hV⟩ := hV
  refine g_cVI (pc := 11) X (As := [Value.int (h.1 x0 15)]) ml_X7_150 rfl q3 t5 (by rw [hR]; exact ⟨by decide, by decide, by decide, by decide⟩) rfl rfl (Nat.zero_le _) dX7_takeTable_11 (fun v8 h7 p6 => ?_)
  have hV := hV v8 h7 p6
  refine g_istore_n (pc := 14) X (i := 2) (rest := [(0, rv w.2.2.2 x0), (1, Value.int x1)]) rfl (by decide) rfl dX7_takeTable_14 (fun y9 e10 => ?_)
  have hV := hV y9 e10
  refine g_aload_n (pc := 15) X 1 rfl rfl dX7_takeTable_15 ?_
  refine g_getR (pc := 16) X fl_X7_12 q1 dX7_takeTable_16 ?_
  obtain ⟨q11, hV⟩ := hV
  refine g_getR (pc := 19) X fl_X7_147 q11 dX7_takeTable_19 ?_
  refine g_aload_n (pc := 22) X 1 rfl rfl dX7_takeTable_22 ?_
  refine g_getI (pc := 23) X fl_X7_98 q1 dX7_takeTable_23 ?_
  refine g_iconst (pc := 26) (v := (1 : Int32)) X dX7_takeTable_26 (by decide) ?_
  refine g_iadd (pc := 27) X dX7_takeTable_27 ?_
  obtain ⟨q12, hV⟩ := hV
  obtain ⟨P13, t14, hV⟩ := hV
  refine g_cVI (pc := 28) X (As := [Value.int ((h7.1 x0 15) + (1 : Int32))]) ml_X7_150 rfl q12 t14 (by rw [hR]; exact ⟨by decide, by decide, by decide, by decide⟩) rfl rfl (Nat.zero_le _) dX7_takeTable_28 (fun v17 h16 p15 => ?_)
  have hV := hV v17 h16 p15
  refine g_istore_n (pc := 31) X (i := 3) (rest := [(2, Value.int y9), (0, rv w.2.2.2 x0), (1, Value.int x1)]) rfl (by decide) rfl dX7_takeTable_31 (fun y18 e19 => ?_)
  have hV := hV y18 e19
  refine g_iload_n (pc := 32) X 3 rfl rfl dX7_takeTable_32 ?_
  refine g_if_eq (pc := 33) X 49 dX7_takeTable_33 (by decide) (fun c20 => ?_) (fun c20 => ?_)
  · have hV := hV.1 c20
    refine g_lv [2] rfl ?_
    exact W_X7_takeTable_49 X Tt hR hV
  · have hV := hV.2 c20
    refine g_aload_n (pc := 36) X 2 rfl rfl dX7_takeTable_36 ?_
    refine g_getR (pc := 37) X fl_X7_46 q1 dX7_takeTable_37 ?_
    obtain ⟨q21, hV⟩ := hV
    obtain ⟨P22, t23, hV⟩ := hV
    refine g_cVI (pc := 40) X (As := []) ml_X7_153 rfl q21 t23 (by rw [hR]; exact ⟨by decide, by decide, by decide, by decide⟩) rfl rfl (Nat.zero_le _) dX7_takeTable_40 (fun v26 h25 p24 => ?_)
    have hV := hV v26 h25 p24
    refine g_sipush (pc := 43) (v := (1536 : Int32)) X dX7_takeTable_43 (by decide) ?_
    refine g_icmp_eq (pc := 46) X 60 dX7_takeTable_46 (by decide) (fun c27 => ?_) (fun c27 => ?_)
    · have hV := hV.1 c27
      refine g_aload_n (pc := 60) X 2 rfl rfl dX7_takeTable_60 ?_
      refine g_getR (pc := 61) X fl_X7_56 q1 dX7_takeTable_61 ?_
      refine g_aload_n (pc := 64) X 2 rfl rfl dX7_takeTable_64 ?_
      refine g_getR (pc := 65) X fl_X7_46 q1 dX7_takeTable_65 ?_
      refine g_iload_n (pc := 68) X 1 rfl rfl dX7_takeTable_68 ?_
      refine g_iload_n (pc := 69) X 0 rfl rfl dX7_takeTable_69 ?_
      obtain ⟨q28, hV⟩ := hV
      obtain ⟨P29, t30, hV⟩ := hV
      refine g_cVV (pc := 70) X (As := [rv w.2.2.2 (h25.2.1 x0 11), Value.int y9, Value.int y18]) ml_X7_156 rfl q28 t30 (by rw [hR]; exact ⟨by decide, by decide, by decide, by decide⟩) rfl rfl (Nat.zero_le _) dX7_takeTable_70 (fun h32 p31 => ?_)
      have hV := hV h32 p31
      refine g_aload_n (pc := 73) X 2 rfl rfl dX7_takeTable_73 ?_
      refine g_getR (pc := 74) X fl_X7_56 q1 dX7_takeTable_74 ?_
      obtain ⟨q33, hV⟩ := hV
      obtain ⟨P34, t35, hV⟩ := hV
      refine g_cVI (pc := 77) X (As := []) ml_X7_159 rfl q33 t35 (by rw [hR]; exact ⟨by decide, by decide, by decide, by decide⟩) rfl rfl (Nat.zero_le _) dX7_takeTable_77 (fun v38 h37 p36 => ?_)
      have hV := hV v38 h37 p36
      refine g_if_ne (pc := 80) X 101 dX7_takeTable_80 (by decide) (fun c39 => ?_) (fun c39 => ?_)
      · have hV := hV.1 c39
        refine g_aload_n (pc := 101) X 2 rfl rfl dX7_takeTable_101 ?_
        refine g_getR (pc := 102) X fl_X7_46 q1 dX7_takeTable_102 ?_
        obtain ⟨q40, hV⟩ := hV
        obtain ⟨P41, t42, hV⟩ := hV
        refine g_cVV (pc := 105) X (As := []) ml_X7_75 rfl q40 t42 (by rw [hR]; exact ⟨by decide, by decide, by decide, by decide⟩) rfl rfl (Nat.zero_le _) dX7_takeTable_105 (fun h44 p43 => ?_)
        have hV := hV h44 p43
        refine g_aload_n (pc := 108) X 2 rfl rfl dX7_takeTable_108 ?_
        refine g_getR (pc := 109) X fl_X7_60 q1 dX7_takeTable_109 ?_
        refine g_iload_n (pc := 112) X 1 rfl rfl dX7_takeTable_112 ?_
        refine g_iload_n (pc := 113) X 0 rfl rfl dX7_takeTable_113 ?_
        obtain ⟨q45, hV⟩ := hV
        obtain ⟨P46, t47, hV⟩ := hV
        refine g_cVV (pc := 114) X (As := [Value.int y9, Value.int y18]) ml_X7_86 rfl q45 t47 (by rw [hR]; exact ⟨by decide, by decide, by decide, by decide⟩) rfl rfl (Nat.zero_le _) dX7_takeTable_114 (fun h49 p48 => ?_)
        have hV := hV h49 p48
        refine g_aload_n (pc := 117) X 2 rfl rfl dX7_takeTable_117 ?_
        refine g_getR (pc := 118) X fl_X7_64 q1 dX7_takeTable_118 ?_
        refine g_bipush (pc := 121) (v := (7 : Int32)) X dX7_takeTable_121 (by decide) ?_
        refine g_iconst (pc := 123) (v := (1 : Int32)) X dX7_takeTable_123 (by decide) ?_
        obtain ⟨q50, hV⟩ := hV
        obtain ⟨P51, t52, hV⟩ := hV
        refine g_cVV (pc := 124) X (As := [Value.int (7 : Int32), Value.int (1 : Int32)]) ml_X7_166 rfl q50 t52 (by rw [hR]; exact ⟨by decide, by decide, by decide, by decide⟩) rfl rfl (Nat.zero_le _) dX7_takeTable_124 (fun h54 p53 => ?_)
        have hV := hV h54 p53
        refine g_aload_n (pc := 127) X 2 rfl rfl dX7_takeTable_127 ?_
        refine g_getR (pc := 128) X fl_X7_12 q1 dX7_takeTable_128 ?_
        refine g_aload_n (pc := 131) X 2 rfl rfl dX7_takeTable_131 ?_
        refine g_getR (pc := 132) X fl_X7_12 q1 dX7_takeTable_132 ?_
        obtain ⟨q55, hV⟩ := hV
        refine g_getR (pc := 135) X fl_X7_147 q55 dX7_takeTable_135 ?_
        refine g_aload_n (pc := 138) X 2 rfl rfl dX7_takeTable_138 ?_
        obtain ⟨P56, t57, hV⟩ := hV
        refine g_cVI (pc := 139) X (As := []) ml_X7_169 rfl q1 t57 (by rw [hR]; exact ⟨by decide, by decide, by decide, by decide⟩) rfl rfl (by simp [rv_cat, cat_int, cat_long]) dX7_takeTable_139 (fun v60 h59 p58 => ?_)
        have hV := hV v60 h59 p58
        refine g_aload_n (pc := 142) X 2 rfl rfl dX7_takeTable_142 ?_
        refine g_getR (pc := 143) X fl_X7_12 q1 dX7_takeTable_143 ?_
        obtain ⟨q61, hV⟩ := hV
        refine g_getI (pc := 146) X fl_X7_111 q61 dX7_takeTable_146 ?_
        obtain ⟨P62, t63, hV⟩ := hV
        refine g_cVV (pc := 149) X (As := [rv w.2.2.2 (h54.2.1 (h54.2.1 x0 4) 0), Value.int v60, Value.int (h59.1 (h59.2.1 x0 4) 2)]) ml_X7_71 rfl q55 t63 (by rw [hR]; exact ⟨by decide, by decide, by decide, by decide⟩) rfl rfl (Nat.zero_le _) dX7_takeTable_149 (fun h65 p64 => ?_)
        have hV := hV h65 p64
        exact g_vret (pc := 152) X Tt ⟨rfl, rfl, hV⟩ dX7_takeTable_152
      · have hV := hV.2 c39
        refine g_aload_n (pc := 83) X 2 rfl rfl dX7_takeTable_83 ?_
        refine g_getR (pc := 84) X fl_X7_56 q1 dX7_takeTable_84 ?_
        obtain ⟨q66, hV⟩ := hV
        obtain ⟨P67, t68, hV⟩ := hV
        refine g_cVV (pc := 87) X (As := []) ml_X7_163 rfl q66 t68 (by rw [hR]; exact ⟨by decide, by decide, by decide, by decide⟩) rfl rfl (Nat.zero_le _) dX7_takeTable_87 (fun h70 p69 => ?_)
        have hV := hV h70 p69
        refine g_aload_n (pc := 90) X 2 rfl rfl dX7_takeTable_90 ?_
        refine g_iconst (pc := 91) (v := (5 : Int32)) X dX7_takeTable_91 (by decide) ?_
        refine g_aload_n (pc := 92) X 2 rfl rfl dX7_takeTable_92 ?_
        refine g_getI (pc := 93) X fl_X7_98 q1 dX7_takeTable_93 ?_
        obtain ⟨P71, t72, hV⟩ := hV
        refine g_cVI (pc := 96) X (As := [Value.int (5 : Int32), Value.int (h70.1 x0 15)]) ml_X7_114 rfl q1 t72 (by rw [hR]; exact ⟨by decide, by decide, by decide, by decide⟩) rfl rfl (Nat.zero_le _) dX7_takeTable_96 (fun v75 h74 p73 => ?_)
        have hV := hV v75 h74 p73
        refine g_pop (pc := 99) X dX7_takeTable_99 (rfl) ?_
        exact g_vret (pc := 100) X Tt ⟨rfl, rfl, hV⟩ dX7_takeTable_100
    · have hV := hV.2 c27
      refine g_lv [2] rfl ?_
      exact W_X7_takeTable_49 X Tt hR hV
def C_X7_takeTable (w : Wd) (sh : List Sh) (x0 : Nat) (x1 : Int32) (h : Hp) (RET : Hp → Prop) : Prop := CV w yX7_takeTable (.code yX7_takeTable cX7_takeTable 4 none) 5 117 [rv w.2.2.2 x0, Value.int x1] sh h RET
theorem K_X7_takeTable {w : Wd} {sh : List Sh} {x0 : Nat} {x1 : Int32} {h : Hp} {RET : Hp → Prop} (hV : V_X7_takeTable_0 w sh x0 x1 h RET) : C_X7_takeTable w sh x0 x1 h RET :=
  Ct_of (by decide +kernel) (by simp [lg_sl, rv_cat, cat_int, cat_long]) (fun E X Tt hR _ => by
    rw [show lv_args 0 [rv w.2.2.2 x0, Value.int x1] = [(0, rv w.2.2.2 x0), (1, Value.int x1)] from by simp [lv_args, rv_cat, cat_int, cat_long]]
    refine g_lv [0, 1] rfl ?_
    exact W_X7_takeTable_0 X Tt hR hV)
def V_X7_faultPlace_0 (w : Wd) (sh : List Sh) (x0 : Nat) (h : Hp)  (RET : Int32 → Hp → Prop) : Prop :=
  shAt sh x0 = some (.inr 7) ∧ (RET (h.1 x0 13) h)
set_option maxRecDepth 20000 in
set_option maxHeartbeats 4000000 in
theorem W_X7_faultPlace_0 {w : Wd} {E : GE} {sh : List Sh} {x0 : Nat} {h : Hp}  {RET : Int32 → Hp → Prop} (X : Cx w E cX7_faultPlace 1 RX7) (Tt : Rt w E (some .int) sh.length 0 0 (fun q sh9 h9 => ∃ v : Int32, q = some (Value.int v) ∧ sh9 = sh ∧ RET v h9)) (hR : gR E = { frames := 0, cells := 0, slots := 0, locals := 0 }) (hV : V_X7_faultPlace_0 w sh x0 h RET) : G w E 1 0 [(0, rv w.2.2.2 x0)] [] sh h 0 0 := by
  unfold V_X7_faultPlace_0 at hV
  refine g_aload_n (pc := 0) X 0 rfl rfl dX7_faultPlace_0 ?_
  obtain ⟨q1, hV⟩ := hV
  refine g_getI (pc := 1) X fl_X7_53 q1 dX7_faultPlace_1 ?_
  exact g_iret (pc := 4) X Tt ⟨_, rfl, rfl, hV⟩ dX7_faultPlace_4
def C_X7_faultPlace (w : Wd) (sh : List Sh) (x0 : Nat) (h : Hp) (RET : Int32 → Hp → Prop) : Prop := CI w yX7_faultPlace (.code yX7_faultPlace cX7_faultPlace 1 (some .int)) 0 0 [rv w.2.2.2 x0] sh h RET
theorem K_X7_faultPlace {w : Wd} {sh : List Sh} {x0 : Nat} {h : Hp} {RET : Int32 → Hp → Prop} (hV : V_X7_faultPlace_0 w sh x0 h RET) : C_X7_faultPlace w sh x0 h RET :=
  Ct_of (by decide +kernel) (by simp [lg_sl, rv_cat, cat_int, cat_long]) (fun E X Tt hR _ => by
    rw [show lv_args 0 [rv w.2.2.2 x0] = [(0, rv w.2.2.2 x0)] from by simp [lv_args, rv_cat, cat_int, cat_long]]
    refine g_lv [0] rfl ?_
    exact W_X7_faultPlace_0 X Tt hR hV)
