def V_X0_wipe_0 (w : Wd) (sh : List Sh) (x0 : Nat) (h : Hp)  (RET : Hp → Prop) : Prop :=
  shAt sh x0 = some (.inr 0) ∧ (∃ P2 : Hp → Prop, C_J7_fill_53178 w sh (h.2.1 x0 0) (0 : Int32) h P2 ∧ (∀ h5 : Hp, P2 h5 → (∃ P6 : Hp → Prop, C_J7_fill_53178 w sh (h5.2.1 x0 1) (0 : Int32) h5 P6 ∧ (∀ h9 : Hp, P6 h9 → (∀ h10 : Hp, h10 = wI h9 x0 4 (0 : Int32) → (RET h10))))))
set_option maxRecDepth 20000 in
set_option maxHeartbeats 4000000 in
theorem W_X0_wipe_0 {w : Wd} {E : GE} {sh : List Sh} {x0 : Nat} {h : Hp}  {RET : Hp → Prop} (X : Cx w E cX0_wipe 1 RX0) (Tt : Rt w E none sh.length 0 0 (fun q sh9 h9 => q = none ∧ sh9 = sh ∧ RET h9)) (hR : gR E = { frames := 1, cells := 0, slots := 0, locals := 23 }) (hV : V_X0_wipe_0 w sh x0 h RET) : G w E 1 0 [(0, rv w.2.2.2 x0)] [] sh h 0 0 := by
  unfold V_X0_wipe_0 at hV
  refine g_aload_n (pc := 0) X 0 rfl rfl dX0_wipe_0 ?_
  obtain ⟨q1, hV⟩ := hV
  refine g_getR (pc := 1) X fl_X0_15 q1 dX0_wipe_1 ?_
  refine g_iconst (pc := 4) (v := (0 : Int32)) X dX0_wipe_4 (by decide) ?_
  obtain ⟨P2, t3, hV⟩ := hV
  refine g_cSV (pc := 5) X (As := [rv w.2.2.2 (h.2.1 x0 0), Value.int (0 : Int32)]) ml_X0_37 t3 (by rw [hR]; exact ⟨by decide, by decide, by decide, by decide⟩) rfl rfl (Nat.zero_le _) dX0_wipe_5 (fun h5 p4 => ?_)
  have hV := hV h5 p4
  refine g_aload_n (pc := 8) X 0 rfl rfl dX0_wipe_8 ?_
  refine g_getR (pc := 9) X fl_X0_21 q1 dX0_wipe_9 ?_
  refine g_iconst (pc := 12) (v := (0 : Int32)) X dX0_wipe_12 (by decide) ?_
  obtain ⟨P6, t7, hV⟩ := hV
  refine g_cSV (pc := 13) X (As := [rv w.2.2.2 (h5.2.1 x0 1), Value.int (0 : Int32)]) ml_X0_37 t7 (by rw [hR]; exact ⟨by decide, by decide, by decide, by decide⟩) rfl rfl (Nat.zero_le _) dX0_wipe_13 (fun h9 p8 => ?_)
  have hV := hV h9 p8
  refine g_aload_n (pc := 16) X 0 rfl rfl dX0_wipe_16 ?_
  refine g_iconst (pc := 17) (v := (0 : Int32)) X dX0_wipe_17 (by decide) ?_
  refine g_putI (pc := 18) X fl_X0_43 q1 rfl rfl dX0_wipe_18 (fun h10 e11 => ?_)
  have hV := hV h10 e11
  exact g_vret (pc := 21) X Tt ⟨rfl, rfl, hV⟩ dX0_wipe_21
def C_X0_wipe (w : Wd) (sh : List Sh) (x0 : Nat) (h : Hp) (RET : Hp → Prop) : Prop := CV w yX0_wipe (.code yX0_wipe cX0_wipe 1 none) 1 23 [rv w.2.2.2 x0] sh h RET
theorem K_X0_wipe {w : Wd} {sh : List Sh} {x0 : Nat} {h : Hp} {RET : Hp → Prop} (hV : V_X0_wipe_0 w sh x0 h RET) : C_X0_wipe w sh x0 h RET :=
  Ct_of (by decide +kernel) (by simp [lg_sl, rv_cat, cat_int, cat_long]) (fun E X Tt hR _ => by
    rw [show lv_args 0 [rv w.2.2.2 x0] = [(0, rv w.2.2.2 x0)] from by simp [lv_args, rv_cat, cat_int, cat_long]]
    refine g_lv [0] rfl ?_
    exact W_X0_wipe_0 X Tt hR hV)
def V_X0_fit_0 (w : Wd) (sh : List Sh) (x0 : Nat) (x1 : Int32) (x2 : Int32) (h : Hp)  (RET : Hp → Prop) : Prop :=
  shAt sh x0 = some (.inr 0) ∧ (∃ n3 : Nat, shAt sh (h.2.1 x0 0) = some (.inl (1, n3)) ∧ (∀ h4 : Hp, h4 = wI h x0 2 (if (0 : Int32) < (if (Int32.ofNat n3) < x1 then (Int32.ofNat n3) else x1) then (if (Int32.ofNat n3) < x1 then (Int32.ofNat n3) else x1) else (0 : Int32)) → (∃ n7 : Nat, shAt sh (h.2.1 x0 1) = some (.inl (1, n7)) ∧ (∀ h8 : Hp, h8 = wI h4 x0 3 (if (0 : Int32) < (if (Int32.ofNat n7) < (x2 * (256 : Int32)) then (Int32.ofNat n7) else (x2 * (256 : Int32))) then (if (Int32.ofNat n7) < (x2 * (256 : Int32)) then (Int32.ofNat n7) else (x2 * (256 : Int32))) else (0 : Int32)) → (∃ P10 : Hp → Prop, C_X0_wipe w sh x0 h8 P10 ∧ (∀ h13 : Hp, P10 h13 → (RET h13)))))))
set_option maxRecDepth 20000 in
set_option maxHeartbeats 4000000 in
theorem W_X0_fit_0 {w : Wd} {E : GE} {sh : List Sh} {x0 : Nat} {x1 : Int32} {x2 : Int32} {h : Hp}  {RET : Hp → Prop} (X : Cx w E cX0_fit 3 RX0) (Tt : Rt w E none sh.length 0 0 (fun q sh9 h9 => q = none ∧ sh9 = sh ∧ RET h9)) (hR : gR E = { frames := 2, cells := 0, slots := 0, locals := 43 }) (hV : V_X0_fit_0 w sh x0 x1 x2 h RET) : G w E 3 0 [(0, rv w.2.2.2 x0), (1, Value.int x1), (2, Value.int x2)] [] sh h 0 0 := by
  unfold V_X0_fit_0 at hV
  refine g_aload_n (pc := 0) X 0 rfl rfl dX0_fit_0 ?_
  refine g_iconst (pc := 1) (v := (0 : Int32)) X dX0_fit_1 (by decide) ?_
  refine g_iload_n (pc := 2) X 1 rfl rfl dX0_fit_2 ?_
  refine g_aload_n (pc := 3) X 0 rfl rfl dX0_fit_3 ?_
  obtain ⟨q1, hV⟩ := hV
  refine g_getR (pc := 4) X fl_X0_15 q1 dX0_fit_4 ?_
  obtain ⟨n3, q2, hV⟩ := hV
  refine g_len (pc := 7) X (t := 1) (by decide) q2 dX0_fit_7 ?_
  refine g_mmin (pc := 8) X wm_X0_24 ws_min wi_Math wc_min (by rw [hR]; exact ⟨by decide, by simp [rv_cat, cat_int, cat_long], by decide, by decide⟩) dX0_fit_8 ?_
  refine g_mmax (pc := 11) X wm_X0_9 ws_max wi_Math wc_max (by rw [hR]; exact ⟨by decide, by simp [rv_cat, cat_int, cat_long], by decide, by decide⟩) dX0_fit_11 ?_
  refine g_putI (pc := 14) X fl_X0_27 q1 rfl rfl dX0_fit_14 (fun h4 e5 => ?_)
  have hV := hV h4 e5
  refine g_aload_n (pc := 17) X 0 rfl rfl dX0_fit_17 ?_
  refine g_iconst (pc := 18) (v := (0 : Int32)) X dX0_fit_18 (by decide) ?_
  refine g_iload_n (pc := 19) X 2 rfl rfl dX0_fit_19 ?_
  refine g_sipush (pc := 20) (v := (256 : Int32)) X dX0_fit_20 (by decide) ?_
  refine g_imul (pc := 23) X dX0_fit_23 ?_
  refine g_aload_n (pc := 24) X 0 rfl rfl dX0_fit_24 ?_
  refine g_getRe (pc := 25) X fl_X0_21 q1 (congrFun (congrFun (rfI e5) _) _) dX0_fit_25 ?_
  obtain ⟨n7, q6, hV⟩ := hV
  refine g_len (pc := 28) X (t := 1) (by decide) q6 dX0_fit_28 ?_
  refine g_mmin (pc := 29) X wm_X0_24 ws_min wi_Math wc_min (by rw [hR]; exact ⟨by decide, by simp [rv_cat, cat_int, cat_long], by decide, by decide⟩) dX0_fit_29 ?_
  refine g_mmax (pc := 32) X wm_X0_9 ws_max wi_Math wc_max (by rw [hR]; exact ⟨by decide, by simp [rv_cat, cat_int, cat_long], by decide, by decide⟩) dX0_fit_32 ?_
  refine g_putI (pc := 35) X fl_X0_31 q1 rfl rfl dX0_fit_35 (fun h8 e9 => ?_)
  have hV := hV h8 e9
  refine g_aload_n (pc := 38) X 0 rfl rfl dX0_fit_38 ?_
  obtain ⟨P10, t11, hV⟩ := hV
  refine g_cVV (pc := 39) X (As := []) ml_X0_34 rfl q1 t11 (by rw [hR]; exact ⟨by decide, by decide, by decide, by decide⟩) rfl rfl (Nat.zero_le _) dX0_fit_39 (fun h13 p12 => ?_)
  have hV := hV h13 p12
  exact g_vret (pc := 42) X Tt ⟨rfl, rfl, hV⟩ dX0_fit_42
def C_X0_fit (w : Wd) (sh : List Sh) (x0 : Nat) (x1 : Int32) (x2 : Int32) (h : Hp) (RET : Hp → Prop) : Prop := CV w yX0_fit (.code yX0_fit cX0_fit 3 none) 2 43 [rv w.2.2.2 x0, Value.int x1, Value.int x2] sh h RET
theorem K_X0_fit {w : Wd} {sh : List Sh} {x0 : Nat} {x1 : Int32} {x2 : Int32} {h : Hp} {RET : Hp → Prop} (hV : V_X0_fit_0 w sh x0 x1 x2 h RET) : C_X0_fit w sh x0 x1 x2 h RET :=
  Ct_of (by decide +kernel) (by simp [lg_sl, rv_cat, cat_int, cat_long]) (fun E X Tt hR _ => by
    rw [show lv_args 0 [rv w.2.2.2 x0, Value.int x1, Value.int x2] = [(0, rv w.2.2.2 x0), (1, Value.int x1), (2, Value.int x2)] from by simp [lv_args, rv_cat, cat_int, cat_long]]
    refine g_lv [0, 1, 2] rfl ?_
    exact W_X0_fit_0 X Tt hR hV)
def V_X1_lay_49 (w : Wd) (sh : List Sh) (x0 : Nat) (x1 : Nat) (x2 : Int32) (h : Hp) (L12 : Nat → Nat → Int32 → Hp → Prop) (RET : Hp → Prop) : Prop :=
  ∀ y1 : Int32, y1 = x2 + (-1 : Int32) → (L12 x0 x1 y1 h)
set_option maxRecDepth 20000 in
set_option maxHeartbeats 4000000 in
theorem W_X1_lay_49 {w : Wd} {E : GE} {sh : List Sh} {x0 : Nat} {x1 : Nat} {x2 : Int32} {h : Hp} {L12 : Nat → Nat → Int32 → Hp → Prop} {RET : Hp → Prop} (X : Cx w E cX1_lay 4 RX1) (Tt : Rt w E none sh.length 0 0 (fun q sh9 h9 => q = none ∧ sh9 = sh ∧ RET h9)) (hR : gR E = { frames := 2, cells := 0, slots := 0, locals := 43 }) (hL12 : ∀ (x0 : Nat) (x1 : Nat) (x2 : Int32) (h : Hp), L12 x0 x1 x2 h → G w E 4 12 [(0, rv w.2.2.2 x0), (1, rv w.2.2.2 x1), (2, Value.int x2)] [] sh h 0 0) (hV : V_X1_lay_49 w sh x0 x1 x2 h L12 RET) : G w E 4 49 [(0, rv w.2.2.2 x0), (1, rv w.2.2.2 x1), (2, Value.int x2)] [] sh h 0 0 := by
  unfold V_X1_lay_49 at hV
  refine g_iinc (pc := 49) X 2 (v := (-1 : Int32)) (rest := [(0, rv w.2.2.2 x0), (1, rv w.2.2.2 x1)]) rfl (by decide) (by simp [flt1, flt2, rv_cat, cat_int, cat_long]) (by decide) dX1_lay_49 (fun y1 e2 => ?_)
  have hV := hV y1 e2
  refine g_goto (pc := 52) X 12 dX1_lay_52 (by decide) ?_
  refine g_lv [1, 2, 0] rfl ?_
  exact hL12 x0 x1 y1 h hV
def V_X1_lay_12 (w : Wd) (sh : List Sh) (x0 : Nat) (x1 : Nat) (x2 : Int32) (h : Hp) (L12 : Nat → Nat → Int32 → Hp → Prop) (RET : Hp → Prop) : Prop :=
  ((x2 < 0) → (RET h)) ∧ ((¬ x2 < 0) → (shAt sh x1 = some (.inr 10) ∧ (∃ P3 : Int32 → Hp → Prop, C_X10_get w sh x1 x2 (1 : Int32) h P3 ∧ (∀ (v7 : Int32) (h6 : Hp), P3 v7 h6 → (∀ y8 : Int32, y8 = v7 → (∃ P10 : Int32 → Hp → Prop, C_X11_isByte w sh y8 h6 P10 ∧ (∀ (v14 : Int32) (h13 : Hp), P10 v14 h13 → (((v14 = 0) → (V_X1_lay_49 w sh x0 x1 x2 h13 L12 RET)) ∧ ((¬ v14 = 0) → (shAt sh x0 = some (.inr 1) ∧ (∃ n18 : Nat, shAt sh (h13.2.1 x0 0) = some (.inl (1, n18)) ∧ (vp_in y8 n18 ∧ (∃ n21 : Nat, shAt sh (h13.2.1 x0 1) = some (.inl (1, n21)) ∧ (vp_in x2 n21 ∧ (∀ h23 : Hp, h23 = wI h13 (h13.2.1 x0 1) x2.toNatClampNeg (h13.1 (h13.2.1 x0 0) y8.toNatClampNeg) → (vp_in y8 n18 ∧ (∀ h26 : Hp, h26 = wI h23 (h13.2.1 x0 0) y8.toNatClampNeg x2 → (V_X1_lay_49 w sh x0 x1 x2 h26 L12 RET))))))))))))))))))
set_option maxRecDepth 20000 in
set_option maxHeartbeats 4000000 in
theorem W_X1_lay_12 {w : Wd} {E : GE} {sh : List Sh} {x0 : Nat} {x1 : Nat} {x2 : Int32} {h : Hp} {L12 : Nat → Nat → Int32 → Hp → Prop} {RET : Hp → Prop} (X : Cx w E cX1_lay 4 RX1) (Tt : Rt w E none sh.length 0 0 (fun q sh9 h9 => q = none ∧ sh9 = sh ∧ RET h9)) (hR : gR E = { frames := 2, cells := 0, slots := 0, locals := 43 }) (hL12 : ∀ (x0 : Nat) (x1 : Nat) (x2 : Int32) (h : Hp), L12 x0 x1 x2 h → G w E 4 12 [(0, rv w.2.2.2 x0), (1, rv w.2.2.2 x1), (2, Value.int x2)] [] sh h 0 0) (hV : V_X1_lay_12 w sh x0 x1 x2 h L12 RET) : G w E 4 12 [(0, rv w.2.2.2 x0), (1, rv w.2.2.2 x1), (2, Value.int x2)] [] sh h 0 0 := by
  unfold V_X1_lay_12 at hV
  refine g_iload_n (pc := 12) X 2 rfl rfl dX1_lay_12 ?_
  refine g_if_lt (pc := 13) X 55 dX1_lay_13 (by decide) (fun c1 => ?_) (fun c1 => ?_)
  · have hV := hV.1 c1
    exact g_vret (pc := 55) X Tt ⟨rfl, rfl, hV⟩ dX1_lay_55
  · have hV := hV.2 c1
    refine g_aload_n (pc := 16) X 1 rfl rfl dX1_lay_16 ?_
    refine g_iload_n (pc := 17) X 2 rfl rfl dX1_lay_17 ?_
    refine g_iconst (pc := 18) (v := (1 : Int32)) X dX1_lay_18 (by decide) ?_
    obtain ⟨q2, hV⟩ := hV
    obtain ⟨P3, t4, hV⟩ := hV
    refine g_cVI (pc := 19) X (As := [Value.int x2, Value.int (1 : Int32)]) ml_X1_24 rfl q2 t4 (by rw [hR]; exact ⟨by decide, by decide, by decide, by decide⟩) rfl rfl (Nat.zero_le _) dX1_lay_19 (fun v7 h6 p5 => ?_)
    have hV := hV v7 h6 p5
    refine g_istore_n (pc := 22) X (i := 3) (rest := [(0, rv w.2.2.2 x0), (1, rv w.2.2.2 x1), (2, Value.int x2)]) rfl (by decide) rfl dX1_lay_22 (fun y8 e9 => ?_)
    have hV := hV y8 e9
    refine g_iload_n (pc := 23) X 0 rfl rfl dX1_lay_23 ?_
    obtain ⟨P10, t11, hV⟩ := hV
    refine g_cSI (pc := 24) X (As := [Value.int y8]) ml_X1_30 t11 (by rw [hR]; exact ⟨by decide, by decide, by decide, by decide⟩) rfl rfl (Nat.zero_le _) dX1_lay_24 (fun v14 h13 p12 => ?_)
    have hV := hV v14 h13 p12
    refine g_if_eq (pc := 27) X 49 dX1_lay_27 (by decide) (fun c15 => ?_) (fun c15 => ?_)
    · have hV := hV.1 c15
      refine g_lv [1, 2, 3] rfl ?_
      exact W_X1_lay_49 X Tt hR hL12 hV
    · have hV := hV.2 c15
      refine g_aload_n (pc := 30) X 1 rfl rfl dX1_lay_30 ?_
      obtain ⟨q16, hV⟩ := hV
      refine g_getR (pc := 31) X fl_X1_15 q16 dX1_lay_31 ?_
      refine g_iload_n (pc := 34) X 3 rfl rfl dX1_lay_34 ?_
      refine g_aload_n (pc := 35) X 1 rfl rfl dX1_lay_35 ?_
      refine g_getR (pc := 36) X fl_X1_9 q16 dX1_lay_36 ?_
      refine g_iload_n (pc := 39) X 0 rfl rfl dX1_lay_39 ?_
      obtain ⟨n18, q17, hV⟩ := hV
      obtain ⟨q19, hV⟩ := hV
      refine g_iald (pc := 40) X q17 q19 dX1_lay_40 ?_
      obtain ⟨n21, q20, hV⟩ := hV
      obtain ⟨q22, hV⟩ := hV
      refine g_iast (pc := 41) X q20 q22 dX1_lay_41 (fun h23 e24 => ?_)
      have hV := hV h23 e24
      refine g_aload_n (pc := 42) X 1 rfl rfl dX1_lay_42 ?_
      refine g_getRe (pc := 43) X fl_X1_9 q16 (congrFun (congrFun (rfI e24) _) _) dX1_lay_43 ?_
      refine g_iload_n (pc := 46) X 0 rfl rfl dX1_lay_46 ?_
      refine g_iload_n (pc := 47) X 3 rfl rfl dX1_lay_47 ?_
      obtain ⟨q25, hV⟩ := hV
      refine g_iast (pc := 48) X q17 q25 dX1_lay_48 (fun h26 e27 => ?_)
      have hV := hV h26 e27
      refine g_lv [1, 2, 3] rfl ?_
      exact W_X1_lay_49 X Tt hR hL12 hV
def V_X1_lay_0 (w : Wd) (sh : List Sh) (x0 : Nat) (x1 : Nat) (h : Hp) (L12 : Nat → Nat → Int32 → Hp → Prop) (RET : Hp → Prop) : Prop :=
  shAt sh x0 = some (.inr 1) ∧ (∃ P2 : Hp → Prop, C_J7_fill_53178 w sh (h.2.1 x0 0) (-1 : Int32) h P2 ∧ (∀ h5 : Hp, P2 h5 → (∀ y6 : Int32, y6 = (255 : Int32) → (L12 x0 x1 y6 h5))))
set_option maxRecDepth 20000 in
set_option maxHeartbeats 4000000 in
theorem W_X1_lay_0 {w : Wd} {E : GE} {sh : List Sh} {x0 : Nat} {x1 : Nat} {h : Hp} {L12 : Nat → Nat → Int32 → Hp → Prop} {RET : Hp → Prop} (X : Cx w E cX1_lay 4 RX1) (Tt : Rt w E none sh.length 0 0 (fun q sh9 h9 => q = none ∧ sh9 = sh ∧ RET h9)) (hR : gR E = { frames := 2, cells := 0, slots := 0, locals := 43 }) (hL12 : ∀ (x0 : Nat) (x1 : Nat) (x2 : Int32) (h : Hp), L12 x0 x1 x2 h → G w E 4 12 [(0, rv w.2.2.2 x0), (1, rv w.2.2.2 x1), (2, Value.int x2)] [] sh h 0 0) (hV : V_X1_lay_0 w sh x0 x1 h L12 RET) : G w E 4 0 [(0, rv w.2.2.2 x0), (1, rv w.2.2.2 x1)] [] sh h 0 0 := by
  unfold V_X1_lay_0 at hV
  refine g_aload_n (pc := 0) X 0 rfl rfl dX1_lay_0 ?_
  obtain ⟨q1, hV⟩ := hV
  refine g_getR (pc := 1) X fl_X1_9 q1 dX1_lay_1 ?_
  refine g_iconst (pc := 4) (v := (-1 : Int32)) X dX1_lay_4 (by decide) ?_
  obtain ⟨P2, t3, hV⟩ := hV
  refine g_cSV (pc := 5) X (As := [rv w.2.2.2 (h.2.1 x0 0), Value.int (-1 : Int32)]) ml_X1_18 t3 (by rw [hR]; exact ⟨by decide, by decide, by decide, by decide⟩) rfl rfl (Nat.zero_le _) dX1_lay_5 (fun h5 p4 => ?_)
  have hV := hV h5 p4
  refine g_sipush (pc := 8) (v := (255 : Int32)) X dX1_lay_8 (by decide) ?_
  refine g_istore_n (pc := 11) X (i := 2) (rest := [(0, rv w.2.2.2 x0), (1, rv w.2.2.2 x1)]) rfl (by decide) (by simp [flt1, flt2, rv_cat, cat_int, cat_long]) dX1_lay_11 (fun y6 e7 => ?_)
  have hV := hV y6 e7
  refine g_lv [1, 2, 0] rfl ?_
  exact hL12 x0 x1 y6 h5 hV
def C_X1_lay (w : Wd) (sh : List Sh) (x0 : Nat) (x1 : Nat) (h : Hp) (RET : Hp → Prop) : Prop := CV w yX1_lay (.code yX1_lay cX1_lay 4 none) 2 43 [rv w.2.2.2 x0, rv w.2.2.2 x1] sh h RET
set_option maxRecDepth 20000 in
theorem K_X1_lay {w : Wd} {sh : List Sh} {x0 : Nat} {x1 : Nat} {h : Hp} {RET : Hp → Prop} {α : Type} {r : α → α → Prop} (wf : WellFounded r) (I12 : α → Nat → Nat → Int32 → Hp → Prop) (hE : V_X1_lay_0 w sh x0 x1 h (fun x0 x1 x2 h => ∃ a, I12 a x0 x1 x2 h) RET) (h12 : ∀ (b : α) (x0 : Nat) (x1 : Nat) (x2 : Int32) (h : Hp), I12 b x0 x1 x2 h → V_X1_lay_12 w sh x0 x1 x2 h (fun x0 x1 x2 h => ∃ a, r a b ∧ I12 a x0 x1 x2 h) RET) : C_X1_lay w sh x0 x1 h RET :=
  Ct_of (by decide +kernel) (by simp [lg_sl, rv_cat, cat_int, cat_long]) (fun E X Tt hR _ => by
    have key : ∀ a : α, (∀ (x0 : Nat) (x1 : Nat) (x2 : Int32) (h : Hp), I12 a x0 x1 x2 h → G w E 4 12 [(0, rv w.2.2.2 x0), (1, rv w.2.2.2 x1), (2, Value.int x2)] [] sh h 0 0) := by
      intro a
      induction a using wf.induction with
      | _ a ih =>
        exact (fun x0 x1 x2 h hi => W_X1_lay_12 X Tt hR (fun x0 x1 x2 h hx => by obtain ⟨a2, ha, hi⟩ := hx; exact (ih a2 ha) x0 x1 x2 h hi) (h12 a x0 x1 x2 h hi))
    rw [show lv_args 0 [rv w.2.2.2 x0, rv w.2.2.2 x1] = [(0, rv w.2.2.2 x0), (1, rv w.2.2.2 x1)] from by simp [lv_args, rv_cat, cat_int, cat_long]]
    refine g_lv [0, 1] rfl ?_
    exact W_X1_lay_0 X Tt hR (fun x0 x1 x2 h hx => by obtain ⟨a2, hi⟩ := hx; exact (key a2) x0 x1 x2 h hi) hE)
def V_X6_clear_0 (w : Wd) (sh : List Sh) (x0 : Nat) (h : Hp)  (RET : Hp → Prop) : Prop :=
  shAt sh x0 = some (.inr 6) ∧ (∀ h2 : Hp, h2 = wI h x0 3 (0 : Int32) → (RET h2))
set_option maxRecDepth 20000 in
set_option maxHeartbeats 4000000 in
theorem W_X6_clear_0 {w : Wd} {E : GE} {sh : List Sh} {x0 : Nat} {h : Hp}  {RET : Hp → Prop} (X : Cx w E cX6_clear 1 RX6) (Tt : Rt w E none sh.length 0 0 (fun q sh9 h9 => q = none ∧ sh9 = sh ∧ RET h9)) (hR : gR E = { frames := 0, cells := 0, slots := 0, locals := 0 }) (hV : V_X6_clear_0 w sh x0 h RET) : G w E 1 0 [(0, rv w.2.2.2 x0)] [] sh h 0 0 := by
  unfold V_X6_clear_0 at hV
  refine g_aload_n (pc := 0) X 0 rfl rfl dX6_clear_0 ?_
  refine g_iconst (pc := 1) (v := (0 : Int32)) X dX6_clear_1 (by decide) ?_
  obtain ⟨q1, hV⟩ := hV
  refine g_putI (pc := 2) X fl_X6_21 q1 rfl rfl dX6_clear_2 (fun h2 e3 => ?_)
  have hV := hV h2 e3
  exact g_vret (pc := 5) X Tt ⟨rfl, rfl, hV⟩ dX6_clear_5
def C_X6_clear (w : Wd) (sh : List Sh) (x0 : Nat) (h : Hp) (RET : Hp → Prop) : Prop := CV w yX6_clear (.code yX6_clear cX6_clear 1 none) 0 0 [rv w.2.2.2 x0] sh h RET
theorem K_X6_clear {w : Wd} {sh : List Sh} {x0 : Nat} {h : Hp} {RET : Hp → Prop} (hV : V_X6_clear_0 w sh x0 h RET) : C_X6_clear w sh x0 h RET :=
  Ct_of (by decide +kernel) (by simp [lg_sl, rv_cat, cat_int, cat_long]) (fun E X Tt hR _ => by
    rw [show lv_args 0 [rv w.2.2.2 x0] = [(0, rv w.2.2.2 x0)] from by simp [lv_args, rv_cat, cat_int, cat_long]]
    refine g_lv [0] rfl ?_
    exact W_X6_clear_0 X Tt hR hV)
def V_X6_push_0 (w : Wd) (sh : List Sh) (x0 : Nat) (x1 : Int32) (x2 : Int32) (x3 : Int32) (h : Hp)  (RET : Hp → Prop) : Prop :=
  shAt sh x0 = some (.inr 6) ∧ ((((1024 : Int32) ≤ (h.1 x0 3)) → (RET h)) ∧ ((¬ (1024 : Int32) ≤ (h.1 x0 3)) → (∃ n4 : Nat, shAt sh (h.2.1 x0 0) = some (.inl (1, n4)) ∧ (vp_in (h.1 x0 3) n4 ∧ (∀ h6 : Hp, h6 = wI h (h.2.1 x0 0) (h.1 x0 3).toNatClampNeg x1 → (∃ n9 : Nat, shAt sh (h.2.1 x0 1) = some (.inl (1, n9)) ∧ (vp_in (h6.1 x0 3) n9 ∧ (∀ h11 : Hp, h11 = wI h6 (h.2.1 x0 1) (h6.1 x0 3).toNatClampNeg x2 → (∃ n14 : Nat, shAt sh (h.2.1 x0 2) = some (.inl (1, n14)) ∧ (vp_in (h11.1 x0 3) n14 ∧ (∀ h16 : Hp, h16 = wI h11 (h.2.1 x0 2) (h11.1 x0 3).toNatClampNeg x3 → (∀ h18 : Hp, h18 = wI h16 x0 3 ((h16.1 x0 3) + (1 : Int32)) → (RET h18)))))))))))))
set_option maxRecDepth 20000 in
set_option maxHeartbeats 4000000 in
theorem W_X6_push_0 {w : Wd} {E : GE} {sh : List Sh} {x0 : Nat} {x1 : Int32} {x2 : Int32} {x3 : Int32} {h : Hp}  {RET : Hp → Prop} (X : Cx w E cX6_push 4 RX6) (Tt : Rt w E none sh.length 0 0 (fun q sh9 h9 => q = none ∧ sh9 = sh ∧ RET h9)) (hR : gR E = { frames := 0, cells := 0, slots := 0, locals := 0 }) (hV : V_X6_push_0 w sh x0 x1 x2 x3 h RET) : G w E 4 0 [(0, rv w.2.2.2 x0), (1, Value.int x1), (2, Value.int x2), (3, Value.int x3)] [] sh h 0 0 := by
  unfold V_X6_push_0 at hV
  refine g_aload_n (pc := 0) X 0 rfl rfl dX6_push_0 ?_
  obtain ⟨q1, hV⟩ := hV
  refine g_getI (pc := 1) X fl_X6_21 q1 dX6_push_1 ?_
  refine g_sipush (pc := 4) (v := (1024 : Int32)) X dX6_push_4 (by decide) ?_
  refine g_icmp_ge (pc := 7) X 50 dX6_push_7 (by decide) (fun c2 => ?_) (fun c2 => ?_)
  · have hV := hV.1 c2
    exact g_vret (pc := 50) X Tt ⟨rfl, rfl, hV⟩ dX6_push_50
  · have hV := hV.2 c2
    refine g_aload_n (pc := 10) X 0 rfl rfl dX6_push_10 ?_
    refine g_getR (pc := 11) X fl_X6_9 q1 dX6_push_11 ?_
    refine g_aload_n (pc := 14) X 0 rfl rfl dX6_push_14 ?_
    refine g_getI (pc := 15) X fl_X6_21 q1 dX6_push_15 ?_
    refine g_iload_n (pc := 18) X 1 rfl rfl dX6_push_18 ?_
    obtain ⟨n4, q3, hV⟩ := hV
    obtain ⟨q5, hV⟩ := hV
    refine g_iast (pc := 19) X q3 q5 dX6_push_19 (fun h6 e7 => ?_)
    have hV := hV h6 e7
    refine g_aload_n (pc := 20) X 0 rfl rfl dX6_push_20 ?_
    refine g_getRe (pc := 21) X fl_X6_15 q1 (congrFun (congrFun (rfI e7) _) _) dX6_push_21 ?_
    refine g_aload_n (pc := 24) X 0 rfl rfl dX6_push_24 ?_
    refine g_getI (pc := 25) X fl_X6_21 q1 dX6_push_25 ?_
    refine g_iload_n (pc := 28) X 2 rfl rfl dX6_push_28 ?_
    obtain ⟨n9, q8, hV⟩ := hV
    obtain ⟨q10, hV⟩ := hV
    refine g_iast (pc := 29) X q8 q10 dX6_push_29 (fun h11 e12 => ?_)
    have hV := hV h11 e12
    refine g_aload_n (pc := 30) X 0 rfl rfl dX6_push_30 ?_
    refine g_getRe (pc := 31) X fl_X6_18 q1 (congrFun (congrFun ((rfI e12).trans (rfI e7)) _) _) dX6_push_31 ?_
    refine g_aload_n (pc := 34) X 0 rfl rfl dX6_push_34 ?_
    refine g_getI (pc := 35) X fl_X6_21 q1 dX6_push_35 ?_
    refine g_iload_n (pc := 38) X 3 rfl rfl dX6_push_38 ?_
    obtain ⟨n14, q13, hV⟩ := hV
    obtain ⟨q15, hV⟩ := hV
    refine g_iast (pc := 39) X q13 q15 dX6_push_39 (fun h16 e17 => ?_)
    have hV := hV h16 e17
    refine g_aload_n (pc := 40) X 0 rfl rfl dX6_push_40 ?_
    refine g_dup (pc := 41) X dX6_push_41 (rv_cat _ _) ?_
    refine g_getI (pc := 42) X fl_X6_21 q1 dX6_push_42 ?_
    refine g_iconst (pc := 45) (v := (1 : Int32)) X dX6_push_45 (by decide) ?_
    refine g_iadd (pc := 46) X dX6_push_46 ?_
    refine g_putI (pc := 47) X fl_X6_21 q1 rfl rfl dX6_push_47 (fun h18 e19 => ?_)
    have hV := hV h18 e19
    exact g_vret (pc := 50) X Tt ⟨rfl, rfl, hV⟩ dX6_push_50
def C_X6_push (w : Wd) (sh : List Sh) (x0 : Nat) (x1 : Int32) (x2 : Int32) (x3 : Int32) (h : Hp) (RET : Hp → Prop) : Prop := CV w yX6_push (.code yX6_push cX6_push 4 none) 0 0 [rv w.2.2.2 x0, Value.int x1, Value.int x2, Value.int x3] sh h RET
theorem K_X6_push {w : Wd} {sh : List Sh} {x0 : Nat} {x1 : Int32} {x2 : Int32} {x3 : Int32} {h : Hp} {RET : Hp → Prop} (hV : V_X6_push_0 w sh x0 x1 x2 x3 h RET) : C_X6_push w sh x0 x1 x2 x3 h RET :=
  Ct_of (by decide +kernel) (by simp [lg_sl, rv_cat, cat_int, cat_long]) (fun E X Tt hR _ => by
    rw [show lv_args 0 [rv w.2.2.2 x0, Value.int x1, Value.int x2, Value.int x3] = [(0, rv w.2.2.2 x0), (1, Value.int x1), (2, Value.int x2), (3, Value.int x3)] from by simp [lv_args, rv_cat, cat_int, cat_long]]
    refine g_lv [0, 1, 2, 3] rfl ?_
    exact W_X6_push_0 X Tt hR hV)
def V_X0_nearAt_0 (w : Wd) (sh : List Sh) (x0 : Nat) (x1 : Int32) (h : Hp)  (RET : Int32 → Hp → Prop) : Prop :=
  ((x1 < 0) → (RET (0 : Int32) h)) ∧ ((¬ x1 < 0) → (shAt sh x0 = some (.inr 0) ∧ ((((h.1 x0 2) ≤ x1) → (RET (0 : Int32) h)) ∧ ((¬ (h.1 x0 2) ≤ x1) → (∃ n5 : Nat, shAt sh (h.2.1 x0 0) = some (.inl (1, n5)) ∧ (vp_in x1 n5 ∧ (RET (h.1 (h.2.1 x0 0) x1.toNatClampNeg) h)))))))
set_option maxRecDepth 20000 in
set_option maxHeartbeats 4000000 in
theorem W_X0_nearAt_0 {w : Wd} {E : GE} {sh : List Sh} {x0 : Nat} {x1 : Int32} {h : Hp}  {RET : Int32 → Hp → Prop} (X : Cx w E cX0_nearAt 2 RX0) (Tt : Rt w E (some .int) sh.length 0 0 (fun q sh9 h9 => ∃ v : Int32, q = some (Value.int v) ∧ sh9 = sh ∧ RET v h9)) (hR : gR E = { frames := 0, cells := 0, slots := 0, locals := 0 }) (hV : V_X0_nearAt_0 w sh x0 x1 h RET) : G w E 2 0 [(0, rv w.2.2.2 x0), (1, Value.int x1)] [] sh h 0 0 := by
  unfold V_X0_nearAt_0 at hV
  refine g_iload_n (pc := 0) X 1 rfl rfl dX0_nearAt_0 ?_
  refine g_if_lt (pc := 1) X 21 dX0_nearAt_1 (by decide) (fun c1 => ?_) (fun c1 => ?_)
  · have hV := hV.1 c1
    refine g_iconst (pc := 21) (v := (0 : Int32)) X dX0_nearAt_21 (by decide) ?_
    exact g_iret (pc := 22) X Tt ⟨_, rfl, rfl, hV⟩ dX0_nearAt_22
  · have hV := hV.2 c1
    refine g_iload_n (pc := 4) X 1 rfl rfl dX0_nearAt_4 ?_
    refine g_aload_n (pc := 5) X 0 rfl rfl dX0_nearAt_5 ?_
    obtain ⟨q2, hV⟩ := hV
    refine g_getI (pc := 6) X fl_X0_27 q2 dX0_nearAt_6 ?_
    refine g_icmp_ge (pc := 9) X 21 dX0_nearAt_9 (by decide) (fun c3 => ?_) (fun c3 => ?_)
    · have hV := hV.1 c3
      refine g_iconst (pc := 21) (v := (0 : Int32)) X dX0_nearAt_21 (by decide) ?_
      exact g_iret (pc := 22) X Tt ⟨_, rfl, rfl, hV⟩ dX0_nearAt_22
    · have hV := hV.2 c3
      refine g_aload_n (pc := 12) X 0 rfl rfl dX0_nearAt_12 ?_
      refine g_getR (pc := 13) X fl_X0_15 q2 dX0_nearAt_13 ?_
      refine g_iload_n (pc := 16) X 1 rfl rfl dX0_nearAt_16 ?_
      obtain ⟨n5, q4, hV⟩ := hV
      obtain ⟨q6, hV⟩ := hV
      refine g_iald (pc := 17) X q4 q6 dX0_nearAt_17 ?_
      refine g_goto (pc := 18) X 22 dX0_nearAt_18 (by decide) ?_
      exact g_iret (pc := 22) X Tt ⟨_, rfl, rfl, hV⟩ dX0_nearAt_22
def C_X0_nearAt (w : Wd) (sh : List Sh) (x0 : Nat) (x1 : Int32) (h : Hp) (RET : Int32 → Hp → Prop) : Prop := CI w yX0_nearAt (.code yX0_nearAt cX0_nearAt 2 (some .int)) 0 0 [rv w.2.2.2 x0, Value.int x1] sh h RET
theorem K_X0_nearAt {w : Wd} {sh : List Sh} {x0 : Nat} {x1 : Int32} {h : Hp} {RET : Int32 → Hp → Prop} (hV : V_X0_nearAt_0 w sh x0 x1 h RET) : C_X0_nearAt w sh x0 x1 h RET :=
  Ct_of (by decide +kernel) (by simp [lg_sl, rv_cat, cat_int, cat_long]) (fun E X Tt hR _ => by
    rw [show lv_args 0 [rv w.2.2.2 x0, Value.int x1] = [(0, rv w.2.2.2 x0), (1, Value.int x1)] from by simp [lv_args, rv_cat, cat_int, cat_long]]
    refine g_lv [0, 1] rfl ?_
    exact W_X0_nearAt_0 X Tt hR hV)
def V_X0_sameAt_0 (w : Wd) (sh : List Sh) (x0 : Nat) (x1 : Int32) (h : Hp)  (RET : Int32 → Hp → Prop) : Prop :=
  ((x1 < 0) → (RET (0 : Int32) h)) ∧ ((¬ x1 < 0) → (shAt sh x0 = some (.inr 0) ∧ ((((h.1 x0 3) ≤ x1) → (RET (0 : Int32) h)) ∧ ((¬ (h.1 x0 3) ≤ x1) → (∃ n5 : Nat, shAt sh (h.2.1 x0 1) = some (.inl (1, n5)) ∧ (vp_in x1 n5 ∧ (RET (h.1 (h.2.1 x0 1) x1.toNatClampNeg) h)))))))
set_option maxRecDepth 20000 in
set_option maxHeartbeats 4000000 in
theorem W_X0_sameAt_0 {w : Wd} {E : GE} {sh : List Sh} {x0 : Nat} {x1 : Int32} {h : Hp}  {RET : Int32 → Hp → Prop} (X : Cx w E cX0_sameAt 2 RX0) (Tt : Rt w E (some .int) sh.length 0 0 (fun q sh9 h9 => ∃ v : Int32, q = some (Value.int v) ∧ sh9 = sh ∧ RET v h9)) (hR : gR E = { frames := 0, cells := 0, slots := 0, locals := 0 }) (hV : V_X0_sameAt_0 w sh x0 x1 h RET) : G w E 2 0 [(0, rv w.2.2.2 x0), (1, Value.int x1)] [] sh h 0 0 := by
  unfold V_X0_sameAt_0 at hV
  refine g_iload_n (pc := 0) X 1 rfl rfl dX0_sameAt_0 ?_
  refine g_if_lt (pc := 1) X 21 dX0_sameAt_1 (by decide) (fun c1 => ?_) (fun c1 => ?_)
  · have hV := hV.1 c1
    refine g_iconst (pc := 21) (v := (0 : Int32)) X dX0_sameAt_21 (by decide) ?_
    exact g_iret (pc := 22) X Tt ⟨_, rfl, rfl, hV⟩ dX0_sameAt_22
  · have hV := hV.2 c1
    refine g_iload_n (pc := 4) X 1 rfl rfl dX0_sameAt_4 ?_
    refine g_aload_n (pc := 5) X 0 rfl rfl dX0_sameAt_5 ?_
    obtain ⟨q2, hV⟩ := hV
    refine g_getI (pc := 6) X fl_X0_31 q2 dX0_sameAt_6 ?_
    refine g_icmp_ge (pc := 9) X 21 dX0_sameAt_9 (by decide) (fun c3 => ?_) (fun c3 => ?_)
    · have hV := hV.1 c3
      refine g_iconst (pc := 21) (v := (0 : Int32)) X dX0_sameAt_21 (by decide) ?_
      exact g_iret (pc := 22) X Tt ⟨_, rfl, rfl, hV⟩ dX0_sameAt_22
    · have hV := hV.2 c3
      refine g_aload_n (pc := 12) X 0 rfl rfl dX0_sameAt_12 ?_
      refine g_getR (pc := 13) X fl_X0_21 q2 dX0_sameAt_13 ?_
      refine g_iload_n (pc := 16) X 1 rfl rfl dX0_sameAt_16 ?_
      obtain ⟨n5, q4, hV⟩ := hV
      obtain ⟨q6, hV⟩ := hV
      refine g_iald (pc := 17) X q4 q6 dX0_sameAt_17 ?_
      refine g_goto (pc := 18) X 22 dX0_sameAt_18 (by decide) ?_
      exact g_iret (pc := 22) X Tt ⟨_, rfl, rfl, hV⟩ dX0_sameAt_22
def C_X0_sameAt (w : Wd) (sh : List Sh) (x0 : Nat) (x1 : Int32) (h : Hp) (RET : Int32 → Hp → Prop) : Prop := CI w yX0_sameAt (.code yX0_sameAt cX0_sameAt 2 (some .int)) 0 0 [rv w.2.2.2 x0, Value.int x1] sh h RET
theorem K_X0_sameAt {w : Wd} {sh : List Sh} {x0 : Nat} {x1 : Int32} {h : Hp} {RET : Int32 → Hp → Prop} (hV : V_X0_sameAt_0 w sh x0 x1 h RET) : C_X0_sameAt w sh x0 x1 h RET :=
  Ct_of (by decide +kernel) (by simp [lg_sl, rv_cat, cat_int, cat_long]) (fun E X Tt hR _ => by
    rw [show lv_args 0 [rv w.2.2.2 x0, Value.int x1] = [(0, rv w.2.2.2 x0), (1, Value.int x1)] from by simp [lv_args, rv_cat, cat_int, cat_long]]
    refine g_lv [0, 1] rfl ?_
    exact W_X0_sameAt_0 X Tt hR hV)
def V_X0_keep_36 (w : Wd) (sh : List Sh) (x0 : Nat) (x1 : Int32) (h : Hp)  (RET : Hp → Prop) : Prop :=
  shAt sh x0 = some (.inr 0) ∧ ((((h.1 x0 3) ≤ 0) → (RET h)) ∧ ((¬ (h.1 x0 3) ≤ 0) → (((x1 < 0) → (RET h)) ∧ ((¬ x1 < 0) → (¬ (h.1 x0 3) = 0 ∧ (∃ n6 : Nat, shAt sh (h.2.1 x0 1) = some (.inl (1, n6)) ∧ (vp_in (x1 - x1 / (h.1 x0 3) * (h.1 x0 3)) n6 ∧ (∀ h8 : Hp, h8 = wI h (h.2.1 x0 1) (x1 - x1 / (h.1 x0 3) * (h.1 x0 3)).toNatClampNeg x1 → (RET h8)))))))))
set_option maxRecDepth 20000 in
set_option maxHeartbeats 4000000 in
theorem W_X0_keep_36 {w : Wd} {E : GE} {sh : List Sh} {x0 : Nat} {x1 : Int32} {h : Hp}  {RET : Hp → Prop} (X : Cx w E cX0_keep 2 RX0) (Tt : Rt w E none sh.length 0 0 (fun q sh9 h9 => q = none ∧ sh9 = sh ∧ RET h9)) (hR : gR E = { frames := 0, cells := 0, slots := 0, locals := 0 }) (hV : V_X0_keep_36 w sh x0 x1 h RET) : G w E 2 36 [(0, rv w.2.2.2 x0), (1, Value.int x1)] [] sh h 0 0 := by
  unfold V_X0_keep_36 at hV
  refine g_aload_n (pc := 36) X 0 rfl rfl dX0_keep_36 ?_
  obtain ⟨q1, hV⟩ := hV
  refine g_getI (pc := 37) X fl_X0_31 q1 dX0_keep_37 ?_
  refine g_if_le (pc := 40) X 59 dX0_keep_40 (by decide) (fun c2 => ?_) (fun c2 => ?_)
  · have hV := hV.1 c2
    exact g_vret (pc := 59) X Tt ⟨rfl, rfl, hV⟩ dX0_keep_59
  · have hV := hV.2 c2
    refine g_iload_n (pc := 43) X 1 rfl rfl dX0_keep_43 ?_
    refine g_if_lt (pc := 44) X 59 dX0_keep_44 (by decide) (fun c3 => ?_) (fun c3 => ?_)
    · have hV := hV.1 c3
      exact g_vret (pc := 59) X Tt ⟨rfl, rfl, hV⟩ dX0_keep_59
    · have hV := hV.2 c3
      refine g_aload_n (pc := 47) X 0 rfl rfl dX0_keep_47 ?_
      refine g_getR (pc := 48) X fl_X0_21 q1 dX0_keep_48 ?_
      refine g_iload_n (pc := 51) X 1 rfl rfl dX0_keep_51 ?_
      refine g_aload_n (pc := 52) X 0 rfl rfl dX0_keep_52 ?_
      refine g_getI (pc := 53) X fl_X0_31 q1 dX0_keep_53 ?_
      obtain ⟨q4, hV⟩ := hV
      refine g_irem (pc := 56) X dX0_keep_56 q4 ?_
      refine g_iload_n (pc := 57) X 1 rfl rfl dX0_keep_57 ?_
      obtain ⟨n6, q5, hV⟩ := hV
      obtain ⟨q7, hV⟩ := hV
      refine g_iast (pc := 58) X q5 q7 dX0_keep_58 (fun h8 e9 => ?_)
      have hV := hV h8 e9
      exact g_vret (pc := 59) X Tt ⟨rfl, rfl, hV⟩ dX0_keep_59
def V_X0_keep_0 (w : Wd) (sh : List Sh) (x0 : Nat) (x1 : Int32) (h : Hp)  (RET : Hp → Prop) : Prop :=
  shAt sh x0 = some (.inr 0) ∧ ((((h.1 x0 2) ≤ (h.1 x0 4)) → (V_X0_keep_36 w sh x0 x1 h RET)) ∧ ((¬ (h.1 x0 2) ≤ (h.1 x0 4)) → (∃ n4 : Nat, shAt sh (h.2.1 x0 0) = some (.inl (1, n4)) ∧ (vp_in (h.1 x0 4) n4 ∧ (∀ h6 : Hp, h6 = wI h (h.2.1 x0 0) (h.1 x0 4).toNatClampNeg x1 → (¬ (h6.1 x0 2) = 0 ∧ (∀ h9 : Hp, h9 = wI h6 x0 4 (((h6.1 x0 4) + (1 : Int32)) - ((h6.1 x0 4) + (1 : Int32)) / (h6.1 x0 2) * (h6.1 x0 2)) → (V_X0_keep_36 w sh x0 x1 h9 RET))))))))
set_option maxRecDepth 20000 in
set_option maxHeartbeats 4000000 in
theorem W_X0_keep_0 {w : Wd} {E : GE} {sh : List Sh} {x0 : Nat} {x1 : Int32} {h : Hp}  {RET : Hp → Prop} (X : Cx w E cX0_keep 2 RX0) (Tt : Rt w E none sh.length 0 0 (fun q sh9 h9 => q = none ∧ sh9 = sh ∧ RET h9)) (hR : gR E = { frames := 0, cells := 0, slots := 0, locals := 0 }) (hV : V_X0_keep_0 w sh x0 x1 h RET) : G w E 2 0 [(0, rv w.2.2.2 x0), (1, Value.int x1)] [] sh h 0 0 := by
  unfold V_X0_keep_0 at hV
  refine g_aload_n (pc := 0) X 0 rfl rfl dX0_keep_0 ?_
  obtain ⟨q1, hV⟩ := hV
  refine g_getI (pc := 1) X fl_X0_43 q1 dX0_keep_1 ?_
  refine g_aload_n (pc := 4) X 0 rfl rfl dX0_keep_4 ?_
  refine g_getI (pc := 5) X fl_X0_27 q1 dX0_keep_5 ?_
  refine g_icmp_ge (pc := 8) X 36 dX0_keep_8 (by decide) (fun c2 => ?_) (fun c2 => ?_)
  · have hV := hV.1 c2
    exact W_X0_keep_36 X Tt hR hV
  · have hV := hV.2 c2
    refine g_aload_n (pc := 11) X 0 rfl rfl dX0_keep_11 ?_
    refine g_getR (pc := 12) X fl_X0_15 q1 dX0_keep_12 ?_
    refine g_aload_n (pc := 15) X 0 rfl rfl dX0_keep_15 ?_
    refine g_getI (pc := 16) X fl_X0_43 q1 dX0_keep_16 ?_
    refine g_iload_n (pc := 19) X 1 rfl rfl dX0_keep_19 ?_
    obtain ⟨n4, q3, hV⟩ := hV
    obtain ⟨q5, hV⟩ := hV
    refine g_iast (pc := 20) X q3 q5 dX0_keep_20 (fun h6 e7 => ?_)
    have hV := hV h6 e7
    refine g_aload_n (pc := 21) X 0 rfl rfl dX0_keep_21 ?_
    refine g_aload_n (pc := 22) X 0 rfl rfl dX0_keep_22 ?_
    refine g_getI (pc := 23) X fl_X0_43 q1 dX0_keep_23 ?_
    refine g_iconst (pc := 26) (v := (1 : Int32)) X dX0_keep_26 (by decide) ?_
    refine g_iadd (pc := 27) X dX0_keep_27 ?_
    refine g_aload_n (pc := 28) X 0 rfl rfl dX0_keep_28 ?_
    refine g_getI (pc := 29) X fl_X0_27 q1 dX0_keep_29 ?_
    obtain ⟨q8, hV⟩ := hV
    refine g_irem (pc := 32) X dX0_keep_32 q8 ?_
    refine g_putI (pc := 33) X fl_X0_43 q1 rfl rfl dX0_keep_33 (fun h9 e10 => ?_)
    have hV := hV h9 e10
    exact W_X0_keep_36 X Tt hR hV
def C_X0_keep (w : Wd) (sh : List Sh) (x0 : Nat) (x1 : Int32) (h : Hp) (RET : Hp → Prop) : Prop := CV w yX0_keep (.code yX0_keep cX0_keep 2 none) 0 0 [rv w.2.2.2 x0, Value.int x1] sh h RET
theorem K_X0_keep {w : Wd} {sh : List Sh} {x0 : Nat} {x1 : Int32} {h : Hp} {RET : Hp → Prop} (hV : V_X0_keep_0 w sh x0 x1 h RET) : C_X0_keep w sh x0 x1 h RET :=
  Ct_of (by decide +kernel) (by simp [lg_sl, rv_cat, cat_int, cat_long]) (fun E X Tt hR _ => by
    rw [show lv_args 0 [rv w.2.2.2 x0, Value.int x1] = [(0, rv w.2.2.2 x0), (1, Value.int x1)] from by simp [lv_args, rv_cat, cat_int, cat_long]]
    refine g_lv [0, 1] rfl ?_
    exact W_X0_keep_0 X Tt hR hV)
def V_X6_pushAdded_46 (w : Wd) (sh : List Sh) (x0 : Nat) (h : Hp)  (RET : Hp → Prop) : Prop :=
  shAt sh x0 = some (.inr 6) ∧ (∃ P2 : Hp → Prop, C_X6_push w sh x0 (1 : Int32) (1 : Int32) (0 : Int32) h P2 ∧ (∀ h5 : Hp, P2 h5 → (RET h5)))
set_option maxRecDepth 20000 in
set_option maxHeartbeats 4000000 in
theorem W_X6_pushAdded_46 {w : Wd} {E : GE} {sh : List Sh} {x0 : Nat} {h : Hp}  {RET : Hp → Prop} (X : Cx w E cX6_pushAdded 2 RX6) (Tt : Rt w E none sh.length 0 0 (fun q sh9 h9 => q = none ∧ sh9 = sh ∧ RET h9)) (hR : gR E = { frames := 1, cells := 0, slots := 0, locals := 23 }) (hV : V_X6_pushAdded_46 w sh x0 h RET) : G w E 2 46 [(0, rv w.2.2.2 x0)] [] sh h 0 0 := by
  unfold V_X6_pushAdded_46 at hV
  refine g_aload_n (pc := 46) X 0 rfl rfl dX6_pushAdded_46 ?_
  refine g_iconst (pc := 47) (v := (1 : Int32)) X dX6_pushAdded_47 (by decide) ?_
  refine g_iconst (pc := 48) (v := (1 : Int32)) X dX6_pushAdded_48 (by decide) ?_
  refine g_iconst (pc := 49) (v := (0 : Int32)) X dX6_pushAdded_49 (by decide) ?_
  obtain ⟨q1, hV⟩ := hV
  obtain ⟨P2, t3, hV⟩ := hV
  refine g_cVV (pc := 50) X (As := [Value.int (1 : Int32), Value.int (1 : Int32), Value.int (0 : Int32)]) ml_X6_25 rfl q1 t3 (by rw [hR]; exact ⟨by decide, by decide, by decide, by decide⟩) rfl rfl (Nat.zero_le _) dX6_pushAdded_50 (fun h5 p4 => ?_)
  have hV := hV h5 p4
  exact g_vret (pc := 53) X Tt ⟨rfl, rfl, hV⟩ dX6_pushAdded_53
def V_X6_pushAdded_0 (w : Wd) (sh : List Sh) (x0 : Nat) (h : Hp)  (RET : Hp → Prop) : Prop :=
  shAt sh x0 = some (.inr 6) ∧ (∀ y2 : Int32, y2 = ((h.1 x0 3) - (1 : Int32)) → (((y2 < 0) → (V_X6_pushAdded_46 w sh x0 h RET)) ∧ ((¬ y2 < 0) → (∃ n6 : Nat, shAt sh (h.2.1 x0 0) = some (.inl (1, n6)) ∧ (vp_in y2 n6 ∧ (((¬ (h.1 (h.2.1 x0 0) y2.toNatClampNeg) = (1 : Int32)) → (V_X6_pushAdded_46 w sh x0 h RET)) ∧ (((h.1 (h.2.1 x0 0) y2.toNatClampNeg) = (1 : Int32)) → (∃ n10 : Nat, shAt sh (h.2.1 x0 1) = some (.inl (1, n10)) ∧ (vp_in y2 n10 ∧ ((((255 : Int32) ≤ (h.1 (h.2.1 x0 1) y2.toNatClampNeg)) → (V_X6_pushAdded_46 w sh x0 h RET)) ∧ ((¬ (255 : Int32) ≤ (h.1 (h.2.1 x0 1) y2.toNatClampNeg)) → (vp_in y2 n10 ∧ (vp_in y2 n10 ∧ (∀ h15 : Hp, h15 = wI h (h.2.1 x0 1) y2.toNatClampNeg ((h.1 (h.2.1 x0 1) y2.toNatClampNeg) + (1 : Int32)) → (RET h15)))))))))))))))
set_option maxRecDepth 20000 in
set_option maxHeartbeats 4000000 in
theorem W_X6_pushAdded_0 {w : Wd} {E : GE} {sh : List Sh} {x0 : Nat} {h : Hp}  {RET : Hp → Prop} (X : Cx w E cX6_pushAdded 2 RX6) (Tt : Rt w E none sh.length 0 0 (fun q sh9 h9 => q = none ∧ sh9 = sh ∧ RET h9)) (hR : gR E = { frames := 1, cells := 0, slots := 0, locals := 23 }) (hV : V_X6_pushAdded_0 w sh x0 h RET) : G w E 2 0 [(0, rv w.2.2.2 x0)] [] sh h 0 0 := by
  unfold V_X6_pushAdded_0 at hV
  refine g_aload_n (pc := 0) X 0 rfl rfl dX6_pushAdded_0 ?_
  obtain ⟨q1, hV⟩ := hV
  refine g_getI (pc := 1) X fl_X6_21 q1 dX6_pushAdded_1 ?_
  refine g_iconst (pc := 4) (v := (1 : Int32)) X dX6_pushAdded_4 (by decide) ?_
  refine g_isub (pc := 5) X dX6_pushAdded_5 ?_
  refine g_istore_n (pc := 6) X (i := 1) (rest := [(0, rv w.2.2.2 x0)]) rfl (by decide) (by simp [flt1, flt2, rv_cat, cat_int, cat_long]) dX6_pushAdded_6 (fun y2 e3 => ?_)
  have hV := hV y2 e3
  refine g_iload_n (pc := 7) X 0 rfl rfl dX6_pushAdded_7 ?_
  refine g_if_lt (pc := 8) X 46 dX6_pushAdded_8 (by decide) (fun c4 => ?_) (fun c4 => ?_)
  · have hV := hV.1 c4
    refine g_lv [1] rfl ?_
    exact W_X6_pushAdded_46 X Tt hR hV
  · have hV := hV.2 c4
    refine g_aload_n (pc := 11) X 1 rfl rfl dX6_pushAdded_11 ?_
    refine g_getR (pc := 12) X fl_X6_9 q1 dX6_pushAdded_12 ?_
    refine g_iload_n (pc := 15) X 0 rfl rfl dX6_pushAdded_15 ?_
    obtain ⟨n6, q5, hV⟩ := hV
    obtain ⟨q7, hV⟩ := hV
    refine g_iald (pc := 16) X q5 q7 dX6_pushAdded_16 ?_
    refine g_iconst (pc := 17) (v := (1 : Int32)) X dX6_pushAdded_17 (by decide) ?_
    refine g_icmp_ne (pc := 18) X 46 dX6_pushAdded_18 (by decide) (fun c8 => ?_) (fun c8 => ?_)
    · have hV := hV.1 c8
      refine g_lv [1] rfl ?_
      exact W_X6_pushAdded_46 X Tt hR hV
    · have hV := hV.2 c8
      refine g_aload_n (pc := 21) X 1 rfl rfl dX6_pushAdded_21 ?_
      refine g_getR (pc := 22) X fl_X6_15 q1 dX6_pushAdded_22 ?_
      refine g_iload_n (pc := 25) X 0 rfl rfl dX6_pushAdded_25 ?_
      obtain ⟨n10, q9, hV⟩ := hV
      obtain ⟨q11, hV⟩ := hV
      refine g_iald (pc := 26) X q9 q11 dX6_pushAdded_26 ?_
      refine g_sipush (pc := 27) (v := (255 : Int32)) X dX6_pushAdded_27 (by decide) ?_
      refine g_icmp_ge (pc := 30) X 46 dX6_pushAdded_30 (by decide) (fun c12 => ?_) (fun c12 => ?_)
      · have hV := hV.1 c12
        refine g_lv [1] rfl ?_
        exact W_X6_pushAdded_46 X Tt hR hV
      · have hV := hV.2 c12
        refine g_aload_n (pc := 33) X 1 rfl rfl dX6_pushAdded_33 ?_
        refine g_getR (pc := 34) X fl_X6_15 q1 dX6_pushAdded_34 ?_
        refine g_iload_n (pc := 37) X 0 rfl rfl dX6_pushAdded_37 ?_
        refine g_dup2_11 (pc := 38) X dX6_pushAdded_38 (rfl) (rv_cat _ _) ?_
        obtain ⟨q13, hV⟩ := hV
        refine g_iald (pc := 39) X q9 q13 dX6_pushAdded_39 ?_
        refine g_iconst (pc := 40) (v := (1 : Int32)) X dX6_pushAdded_40 (by decide) ?_
        refine g_iadd (pc := 41) X dX6_pushAdded_41 ?_
        obtain ⟨q14, hV⟩ := hV
        refine g_iast (pc := 42) X q9 q14 dX6_pushAdded_42 (fun h15 e16 => ?_)
        have hV := hV h15 e16
        refine g_goto (pc := 43) X 53 dX6_pushAdded_43 (by decide) ?_
        exact g_vret (pc := 53) X Tt ⟨rfl, rfl, hV⟩ dX6_pushAdded_53
def C_X6_pushAdded (w : Wd) (sh : List Sh) (x0 : Nat) (h : Hp) (RET : Hp → Prop) : Prop := CV w yX6_pushAdded (.code yX6_pushAdded cX6_pushAdded 2 none) 1 23 [rv w.2.2.2 x0] sh h RET
theorem K_X6_pushAdded {w : Wd} {sh : List Sh} {x0 : Nat} {h : Hp} {RET : Hp → Prop} (hV : V_X6_pushAdded_0 w sh x0 h RET) : C_X6_pushAdded w sh x0 h RET :=
  Ct_of (by decide +kernel) (by simp [lg_sl, rv_cat, cat_int, cat_long]) (fun E X Tt hR _ => by
    rw [show lv_args 0 [rv w.2.2.2 x0] = [(0, rv w.2.2.2 x0)] from by simp [lv_args, rv_cat, cat_int, cat_long]]
    refine g_lv [0] rfl ?_
    exact W_X6_pushAdded_0 X Tt hR hV)
def V_X6_length_0 (w : Wd) (sh : List Sh) (x0 : Nat) (h : Hp)  (RET : Int32 → Hp → Prop) : Prop :=
  shAt sh x0 = some (.inr 6) ∧ (RET (h.1 x0 3) h)
set_option maxRecDepth 20000 in
set_option maxHeartbeats 4000000 in
theorem W_X6_length_0 {w : Wd} {E : GE} {sh : List Sh} {x0 : Nat} {h : Hp}  {RET : Int32 → Hp → Prop} (X : Cx w E cX6_length 1 RX6) (Tt : Rt w E (some .int) sh.length 0 0 (fun q sh9 h9 => ∃ v : Int32, q = some (Value.int v) ∧ sh9 = sh ∧ RET v h9)) (hR : gR E = { frames := 0, cells := 0, slots := 0, locals := 0 }) (hV : V_X6_length_0 w sh x0 h RET) : G w E 1 0 [(0, rv w.2.2.2 x0)] [] sh h 0 0 := by
  unfold V_X6_length_0 at hV
  refine g_aload_n (pc := 0) X 0 rfl rfl dX6_length_0 ?_
  obtain ⟨q1, hV⟩ := hV
  refine g_getI (pc := 1) X fl_X6_21 q1 dX6_length_1 ?_
  exact g_iret (pc := 4) X Tt ⟨_, rfl, rfl, hV⟩ dX6_length_4
def C_X6_length (w : Wd) (sh : List Sh) (x0 : Nat) (h : Hp) (RET : Int32 → Hp → Prop) : Prop := CI w yX6_length (.code yX6_length cX6_length 1 (some .int)) 0 0 [rv w.2.2.2 x0] sh h RET
theorem K_X6_length {w : Wd} {sh : List Sh} {x0 : Nat} {h : Hp} {RET : Int32 → Hp → Prop} (hV : V_X6_length_0 w sh x0 h RET) : C_X6_length w sh x0 h RET :=
  Ct_of (by decide +kernel) (by simp [lg_sl, rv_cat, cat_int, cat_long]) (fun E X Tt hR _ => by
    rw [show lv_args 0 [rv w.2.2.2 x0] = [(0, rv w.2.2.2 x0)] from by simp [lv_args, rv_cat, cat_int, cat_long]]
    refine g_lv [0] rfl ?_
    exact W_X6_length_0 X Tt hR hV)
def V_X6_sizeOf_0 (w : Wd) (sh : List Sh) (x0 : Nat) (x1 : Int32) (h : Hp)  (RET : Int32 → Hp → Prop) : Prop :=
  ((x1 < 0) → (RET (0 : Int32) h)) ∧ ((¬ x1 < 0) → (shAt sh x0 = some (.inr 6) ∧ ((((h.1 x0 3) ≤ x1) → (RET (0 : Int32) h)) ∧ ((¬ (h.1 x0 3) ≤ x1) → (∃ n5 : Nat, shAt sh (h.2.1 x0 1) = some (.inl (1, n5)) ∧ (vp_in x1 n5 ∧ (RET (h.1 (h.2.1 x0 1) x1.toNatClampNeg) h)))))))
set_option maxRecDepth 20000 in
set_option maxHeartbeats 4000000 in
theorem W_X6_sizeOf_0 {w : Wd} {E : GE} {sh : List Sh} {x0 : Nat} {x1 : Int32} {h : Hp}  {RET : Int32 → Hp → Prop} (X : Cx w E cX6_sizeOf 2 RX6) (Tt : Rt w E (some .int) sh.length 0 0 (fun q sh9 h9 => ∃ v : Int32, q = some (Value.int v) ∧ sh9 = sh ∧ RET v h9)) (hR : gR E = { frames := 0, cells := 0, slots := 0, locals := 0 }) (hV : V_X6_sizeOf_0 w sh x0 x1 h RET) : G w E 2 0 [(0, rv w.2.2.2 x0), (1, Value.int x1)] [] sh h 0 0 := by
  unfold V_X6_sizeOf_0 at hV
  refine g_iload_n (pc := 0) X 1 rfl rfl dX6_sizeOf_0 ?_
  refine g_if_lt (pc := 1) X 21 dX6_sizeOf_1 (by decide) (fun c1 => ?_) (fun c1 => ?_)
  · have hV := hV.1 c1
    refine g_iconst (pc := 21) (v := (0 : Int32)) X dX6_sizeOf_21 (by decide) ?_
    exact g_iret (pc := 22) X Tt ⟨_, rfl, rfl, hV⟩ dX6_sizeOf_22
  · have hV := hV.2 c1
    refine g_iload_n (pc := 4) X 1 rfl rfl dX6_sizeOf_4 ?_
    refine g_aload_n (pc := 5) X 0 rfl rfl dX6_sizeOf_5 ?_
    obtain ⟨q2, hV⟩ := hV
    refine g_getI (pc := 6) X fl_X6_21 q2 dX6_sizeOf_6 ?_
    refine g_icmp_ge (pc := 9) X 21 dX6_sizeOf_9 (by decide) (fun c3 => ?_) (fun c3 => ?_)
    · have hV := hV.1 c3
      refine g_iconst (pc := 21) (v := (0 : Int32)) X dX6_sizeOf_21 (by decide) ?_
      exact g_iret (pc := 22) X Tt ⟨_, rfl, rfl, hV⟩ dX6_sizeOf_22
    · have hV := hV.2 c3
      refine g_aload_n (pc := 12) X 0 rfl rfl dX6_sizeOf_12 ?_
      refine g_getR (pc := 13) X fl_X6_15 q2 dX6_sizeOf_13 ?_
      refine g_iload_n (pc := 16) X 1 rfl rfl dX6_sizeOf_16 ?_
      obtain ⟨n5, q4, hV⟩ := hV
      obtain ⟨q6, hV⟩ := hV
      refine g_iald (pc := 17) X q4 q6 dX6_sizeOf_17 ?_
      refine g_goto (pc := 18) X 22 dX6_sizeOf_18 (by decide) ?_
      exact g_iret (pc := 22) X Tt ⟨_, rfl, rfl, hV⟩ dX6_sizeOf_22
def C_X6_sizeOf (w : Wd) (sh : List Sh) (x0 : Nat) (x1 : Int32) (h : Hp) (RET : Int32 → Hp → Prop) : Prop := CI w yX6_sizeOf (.code yX6_sizeOf cX6_sizeOf 2 (some .int)) 0 0 [rv w.2.2.2 x0, Value.int x1] sh h RET
theorem K_X6_sizeOf {w : Wd} {sh : List Sh} {x0 : Nat} {x1 : Int32} {h : Hp} {RET : Int32 → Hp → Prop} (hV : V_X6_sizeOf_0 w sh x0 x1 h RET) : C_X6_sizeOf w sh x0 x1 h RET :=
  Ct_of (by decide +kernel) (by simp [lg_sl, rv_cat, cat_int, cat_long]) (fun E X Tt hR _ => by
    rw [show lv_args 0 [rv w.2.2.2 x0, Value.int x1] = [(0, rv w.2.2.2 x0), (1, Value.int x1)] from by simp [lv_args, rv_cat, cat_int, cat_long]]
    refine g_lv [0, 1] rfl ?_
    exact W_X6_sizeOf_0 X Tt hR hV)
def V_X1_head_0 (w : Wd) (sh : List Sh) (x0 : Nat) (x1 : Int32) (h : Hp)  (RET : Int32 → Hp → Prop) : Prop :=
  ∃ P1 : Int32 → Hp → Prop, C_X11_isByte w sh x1 h P1 ∧ (∀ (v5 : Int32) (h4 : Hp), P1 v5 h4 → (((v5 = 0) → (RET (-1 : Int32) h4)) ∧ ((¬ v5 = 0) → (shAt sh x0 = some (.inr 1) ∧ (∃ n9 : Nat, shAt sh (h4.2.1 x0 0) = some (.inl (1, n9)) ∧ (vp_in x1 n9 ∧ (RET (h4.1 (h4.2.1 x0 0) x1.toNatClampNeg) h4)))))))
set_option maxRecDepth 20000 in
set_option maxHeartbeats 4000000 in
theorem W_X1_head_0 {w : Wd} {E : GE} {sh : List Sh} {x0 : Nat} {x1 : Int32} {h : Hp}  {RET : Int32 → Hp → Prop} (X : Cx w E cX1_head 2 RX1) (Tt : Rt w E (some .int) sh.length 0 0 (fun q sh9 h9 => ∃ v : Int32, q = some (Value.int v) ∧ sh9 = sh ∧ RET v h9)) (hR : gR E = { frames := 1, cells := 0, slots := 0, locals := 20 }) (hV : V_X1_head_0 w sh x0 x1 h RET) : G w E 2 0 [(0, rv w.2.2.2 x0), (1, Value.int x1)] [] sh h 0 0 := by
  unfold V_X1_head_0 at hV
  refine g_iload_n (pc := 0) X 1 rfl rfl dX1_head_0 ?_
  obtain ⟨P1, t2, hV⟩ := hV
  refine g_cSI (pc := 1) X (As := [Value.int x1]) ml_X1_30 t2 (by rw [hR]; exact ⟨by decide, by decide, by decide, by decide⟩) rfl rfl (Nat.zero_le _) dX1_head_1 (fun v5 h4 p3 => ?_)
  have hV := hV v5 h4 p3
  refine g_if_eq (pc := 4) X 16 dX1_head_4 (by decide) (fun c6 => ?_) (fun c6 => ?_)
  · have hV := hV.1 c6
    refine g_iconst (pc := 16) (v := (-1 : Int32)) X dX1_head_16 (by decide) ?_
    exact g_iret (pc := 17) X Tt ⟨_, rfl, rfl, hV⟩ dX1_head_17
  · have hV := hV.2 c6
    refine g_aload_n (pc := 7) X 0 rfl rfl dX1_head_7 ?_
    obtain ⟨q7, hV⟩ := hV
    refine g_getR (pc := 8) X fl_X1_9 q7 dX1_head_8 ?_
    refine g_iload_n (pc := 11) X 1 rfl rfl dX1_head_11 ?_
    obtain ⟨n9, q8, hV⟩ := hV
    obtain ⟨q10, hV⟩ := hV
    refine g_iald (pc := 12) X q8 q10 dX1_head_12 ?_
    refine g_goto (pc := 13) X 17 dX1_head_13 (by decide) ?_
    exact g_iret (pc := 17) X Tt ⟨_, rfl, rfl, hV⟩ dX1_head_17
def C_X1_head (w : Wd) (sh : List Sh) (x0 : Nat) (x1 : Int32) (h : Hp) (RET : Int32 → Hp → Prop) : Prop := CI w yX1_head (.code yX1_head cX1_head 2 (some .int)) 1 20 [rv w.2.2.2 x0, Value.int x1] sh h RET
theorem K_X1_head {w : Wd} {sh : List Sh} {x0 : Nat} {x1 : Int32} {h : Hp} {RET : Int32 → Hp → Prop} (hV : V_X1_head_0 w sh x0 x1 h RET) : C_X1_head w sh x0 x1 h RET :=
  Ct_of (by decide +kernel) (by simp [lg_sl, rv_cat, cat_int, cat_long]) (fun E X Tt hR _ => by
    rw [show lv_args 0 [rv w.2.2.2 x0, Value.int x1] = [(0, rv w.2.2.2 x0), (1, Value.int x1)] from by simp [lv_args, rv_cat, cat_int, cat_long]]
    refine g_lv [0, 1] rfl ?_
    exact W_X1_head_0 X Tt hR hV)
def V_X6_isHalf_0 (w : Wd) (sh : List Sh) (x0 : Nat) (x1 : Int32) (x2 : Nat) (x3 : Int32) (x4 : Int32) (x5 : Int32) (h : Hp)  (RET : Int32 → Hp → Prop) : Prop :=
  ((x1 < 0) → (RET (0 : Int32) h)) ∧ ((¬ x1 < 0) → (shAt sh x0 = some (.inr 6) ∧ ((((h.1 x0 3) ≤ x1) → (RET (0 : Int32) h)) ∧ ((¬ (h.1 x0 3) ≤ x1) → (shAt sh x2 = some (.inr 10) ∧ (∃ P5 : Int32 → Hp → Prop, C_X10_get w sh x2 x3 (x4 + (0 : Int32)) h P5 ∧ (∀ (v9 : Int32) (h8 : Hp), P5 v9 h8 → (∃ n11 : Nat, shAt sh (h8.2.1 x0 0) = some (.inl (1, n11)) ∧ (vp_in x1 n11 ∧ (((¬ v9 = (h8.1 (h8.2.1 x0 0) x1.toNatClampNeg)) → (RET (0 : Int32) h8)) ∧ ((v9 = (h8.1 (h8.2.1 x0 0) x1.toNatClampNeg)) → (∃ P14 : Int32 → Hp → Prop, C_X10_get w sh x2 x3 (x4 + (1 : Int32)) h8 P14 ∧ (∀ (v18 : Int32) (h17 : Hp), P14 v18 h17 → (((¬ v18 = x5) → (RET (0 : Int32) h17)) ∧ ((v18 = x5) → (∃ P20 : Int32 → Hp → Prop, C_X10_get w sh x2 x3 (x4 + (2 : Int32)) h17 P20 ∧ (∀ (v24 : Int32) (h23 : Hp), P20 v24 h23 → (∃ n26 : Nat, shAt sh (h23.2.1 x0 2) = some (.inl (1, n26)) ∧ (vp_in x1 n26 ∧ (((¬ v24 = (h23.1 (h23.2.1 x0 2) x1.toNatClampNeg)) → (RET (0 : Int32) h23)) ∧ ((v24 = (h23.1 (h23.2.1 x0 2) x1.toNatClampNeg)) → (RET (1 : Int32) h23))))))))))))))))))))))
set_option maxRecDepth 20000 in
set_option maxHeartbeats 4000000 in
theorem W_X6_isHalf_0 {w : Wd} {E : GE} {sh : List Sh} {x0 : Nat} {x1 : Int32} {x2 : Nat} {x3 : Int32} {x4 : Int32} {x5 : Int32} {h : Hp}  {RET : Int32 → Hp → Prop} (X : Cx w E cX6_isHalf 6 RX6) (Tt : Rt w E (some .boolean) sh.length 0 0 (fun q sh9 h9 => ∃ v : Int32, q = some (Value.int v) ∧ sh9 = sh ∧ RET v h9)) (hR : gR E = { frames := 2, cells := 0, slots := 0, locals := 43 }) (hV : V_X6_isHalf_0 w sh x0 x1 x2 x3 x4 x5 h RET) : G w E 6 0 [(0, rv w.2.2.2 x0), (1, Value.int x1), (2, rv w.2.2.2 x2), (3, Value.int x3), (4, Value.int x4), (5, Value.int x5)] [] sh h 0 0 := by
  unfold V_X6_isHalf_0 at hV
  refine g_iload_n (pc := 0) X 1 rfl rfl dX6_isHalf_0 ?_
  refine g_if_lt (pc := 1) X 66 dX6_isHalf_1 (by decide) (fun c1 => ?_) (fun c1 => ?_)
  · have hV := hV.1 c1
    refine g_iconst (pc := 66) (v := (0 : Int32)) X dX6_isHalf_66 (by decide) ?_
    exact g_zret (pc := 67) X Tt (by decide) ⟨_, rfl, rfl, hV⟩ dX6_isHalf_67
  · have hV := hV.2 c1
    refine g_iload_n (pc := 4) X 1 rfl rfl dX6_isHalf_4 ?_
    refine g_aload_n (pc := 5) X 0 rfl rfl dX6_isHalf_5 ?_
    obtain ⟨q2, hV⟩ := hV
    refine g_getI (pc := 6) X fl_X6_21 q2 dX6_isHalf_6 ?_
    refine g_icmp_ge (pc := 9) X 66 dX6_isHalf_9 (by decide) (fun c3 => ?_) (fun c3 => ?_)
    · have hV := hV.1 c3
      refine g_iconst (pc := 66) (v := (0 : Int32)) X dX6_isHalf_66 (by decide) ?_
      exact g_zret (pc := 67) X Tt (by decide) ⟨_, rfl, rfl, hV⟩ dX6_isHalf_67
    · have hV := hV.2 c3
      refine g_aload_n (pc := 12) X 2 rfl rfl dX6_isHalf_12 ?_
      refine g_iload_n (pc := 13) X 3 rfl rfl dX6_isHalf_13 ?_
      refine g_iload (pc := 14) X 4 rfl dX6_isHalf_14 ?_
      refine g_iconst (pc := 16) (v := (0 : Int32)) X dX6_isHalf_16 (by decide) ?_
      refine g_iadd (pc := 17) X dX6_isHalf_17 ?_
      obtain ⟨q4, hV⟩ := hV
      obtain ⟨P5, t6, hV⟩ := hV
      refine g_cVI (pc := 18) X (As := [Value.int x3, Value.int (x4 + (0 : Int32))]) ml_X6_29 rfl q4 t6 (by rw [hR]; exact ⟨by decide, by decide, by decide, by decide⟩) rfl rfl (Nat.zero_le _) dX6_isHalf_18 (fun v9 h8 p7 => ?_)
      have hV := hV v9 h8 p7
      refine g_aload_n (pc := 21) X 0 rfl rfl dX6_isHalf_21 ?_
      refine g_getR (pc := 22) X fl_X6_9 q2 dX6_isHalf_22 ?_
      refine g_iload_n (pc := 25) X 1 rfl rfl dX6_isHalf_25 ?_
      obtain ⟨n11, q10, hV⟩ := hV
      obtain ⟨q12, hV⟩ := hV
      refine g_iald (pc := 26) X q10 q12 dX6_isHalf_26 ?_
      refine g_icmp_ne (pc := 27) X 66 dX6_isHalf_27 (by decide) (fun c13 => ?_) (fun c13 => ?_)
      · have hV := hV.1 c13
        refine g_iconst (pc := 66) (v := (0 : Int32)) X dX6_isHalf_66 (by decide) ?_
        exact g_zret (pc := 67) X Tt (by decide) ⟨_, rfl, rfl, hV⟩ dX6_isHalf_67
      · have hV := hV.2 c13
        refine g_aload_n (pc := 30) X 2 rfl rfl dX6_isHalf_30 ?_
        refine g_iload_n (pc := 31) X 3 rfl rfl dX6_isHalf_31 ?_
        refine g_iload (pc := 32) X 4 rfl dX6_isHalf_32 ?_
        refine g_iconst (pc := 34) (v := (1 : Int32)) X dX6_isHalf_34 (by decide) ?_
        refine g_iadd (pc := 35) X dX6_isHalf_35 ?_
        obtain ⟨P14, t15, hV⟩ := hV
        refine g_cVI (pc := 36) X (As := [Value.int x3, Value.int (x4 + (1 : Int32))]) ml_X6_29 rfl q4 t15 (by rw [hR]; exact ⟨by decide, by decide, by decide, by decide⟩) rfl rfl (Nat.zero_le _) dX6_isHalf_36 (fun v18 h17 p16 => ?_)
        have hV := hV v18 h17 p16
        refine g_iload (pc := 39) X 5 rfl dX6_isHalf_39 ?_
        refine g_icmp_ne (pc := 41) X 66 dX6_isHalf_41 (by decide) (fun c19 => ?_) (fun c19 => ?_)
        · have hV := hV.1 c19
          refine g_iconst (pc := 66) (v := (0 : Int32)) X dX6_isHalf_66 (by decide) ?_
          exact g_zret (pc := 67) X Tt (by decide) ⟨_, rfl, rfl, hV⟩ dX6_isHalf_67
        · have hV := hV.2 c19
          refine g_aload_n (pc := 44) X 2 rfl rfl dX6_isHalf_44 ?_
          refine g_iload_n (pc := 45) X 3 rfl rfl dX6_isHalf_45 ?_
          refine g_iload (pc := 46) X 4 rfl dX6_isHalf_46 ?_
          refine g_iconst (pc := 48) (v := (2 : Int32)) X dX6_isHalf_48 (by decide) ?_
          refine g_iadd (pc := 49) X dX6_isHalf_49 ?_
          obtain ⟨P20, t21, hV⟩ := hV
          refine g_cVI (pc := 50) X (As := [Value.int x3, Value.int (x4 + (2 : Int32))]) ml_X6_29 rfl q4 t21 (by rw [hR]; exact ⟨by decide, by decide, by decide, by decide⟩) rfl rfl (Nat.zero_le _) dX6_isHalf_50 (fun v24 h23 p22 => ?_)
          have hV := hV v24 h23 p22
          refine g_aload_n (pc := 53) X 0 rfl rfl dX6_isHalf_53 ?_
          refine g_getR (pc := 54) X fl_X6_18 q2 dX6_isHalf_54 ?_
          refine g_iload_n (pc := 57) X 1 rfl rfl dX6_isHalf_57 ?_
          obtain ⟨n26, q25, hV⟩ := hV
          obtain ⟨q27, hV⟩ := hV
          refine g_iald (pc := 58) X q25 q27 dX6_isHalf_58 ?_
          refine g_icmp_ne (pc := 59) X 66 dX6_isHalf_59 (by decide) (fun c28 => ?_) (fun c28 => ?_)
          · have hV := hV.1 c28
            refine g_iconst (pc := 66) (v := (0 : Int32)) X dX6_isHalf_66 (by decide) ?_
            exact g_zret (pc := 67) X Tt (by decide) ⟨_, rfl, rfl, hV⟩ dX6_isHalf_67
          · have hV := hV.2 c28
            refine g_iconst (pc := 62) (v := (1 : Int32)) X dX6_isHalf_62 (by decide) ?_
            refine g_goto (pc := 63) X 67 dX6_isHalf_63 (by decide) ?_
            exact g_zret (pc := 67) X Tt (by decide) ⟨_, rfl, rfl, hV⟩ dX6_isHalf_67
def C_X6_isHalf (w : Wd) (sh : List Sh) (x0 : Nat) (x1 : Int32) (x2 : Nat) (x3 : Int32) (x4 : Int32) (x5 : Int32) (h : Hp) (RET : Int32 → Hp → Prop) : Prop := CI w yX6_isHalf (.code yX6_isHalf cX6_isHalf 6 (some .boolean)) 2 43 [rv w.2.2.2 x0, Value.int x1, rv w.2.2.2 x2, Value.int x3, Value.int x4, Value.int x5] sh h RET
theorem K_X6_isHalf {w : Wd} {sh : List Sh} {x0 : Nat} {x1 : Int32} {x2 : Nat} {x3 : Int32} {x4 : Int32} {x5 : Int32} {h : Hp} {RET : Int32 → Hp → Prop} (hV : V_X6_isHalf_0 w sh x0 x1 x2 x3 x4 x5 h RET) : C_X6_isHalf w sh x0 x1 x2 x3 x4 x5 h RET :=
  Ct_of (by decide +kernel) (by simp [lg_sl, rv_cat, cat_int, cat_long]) (fun E X Tt hR _ => by
    rw [show lv_args 0 [rv w.2.2.2 x0, Value.int x1, rv w.2.2.2 x2, Value.int x3, Value.int x4, Value.int x5] = [(0, rv w.2.2.2 x0), (1, Value.int x1), (2, rv w.2.2.2 x2), (3, Value.int x3), (4, Value.int x4), (5, Value.int x5)] from by simp [lv_args, rv_cat, cat_int, cat_long]]
    refine g_lv [0, 1, 2, 3, 4, 5] rfl ?_
    exact W_X6_isHalf_0 X Tt hR hV)
def V_X1_pairCode_81 (w : Wd) (sh : List Sh) (x0 : Nat) (x1 : Nat) (x2 : Nat) (x3 : Int32) (x4 : Int32) (x5 : Int32) (x6 : Int32) (x7 : Int32) (h : Hp) (L27 : Nat → Nat → Nat → Int32 → Int32 → Int32 → Int32 → Int32 → Hp → Prop) (RET : Int32 → Hp → Prop) : Prop :=
  shAt sh x0 = some (.inr 1) ∧ (∃ n3 : Nat, shAt sh (h.2.1 x0 1) = some (.inl (1, n3)) ∧ (vp_in x6 n3 ∧ (∀ y5 : Int32, y5 = (h.1 (h.2.1 x0 1) x6.toNatClampNeg) → (∀ y7 : Int32, y7 = x7 + (1 : Int32) → (L27 x0 x1 x2 x3 x4 x5 y5 y7 h)))))
set_option maxRecDepth 20000 in
set_option maxHeartbeats 4000000 in
theorem W_X1_pairCode_81 {w : Wd} {E : GE} {sh : List Sh} {x0 : Nat} {x1 : Nat} {x2 : Nat} {x3 : Int32} {x4 : Int32} {x5 : Int32} {x6 : Int32} {x7 : Int32} {h : Hp} {L27 : Nat → Nat → Nat → Int32 → Int32 → Int32 → Int32 → Int32 → Hp → Prop} {RET : Int32 → Hp → Prop} (X : Cx w E cX1_pairCode 8 RX1) (Tt : Rt w E (some .int) sh.length 0 0 (fun q sh9 h9 => ∃ v : Int32, q = some (Value.int v) ∧ sh9 = sh ∧ RET v h9)) (hR : gR E = { frames := 3, cells := 0, slots := 0, locals := 68 }) (hL27 : ∀ (x0 : Nat) (x1 : Nat) (x2 : Nat) (x3 : Int32) (x4 : Int32) (x5 : Int32) (x6 : Int32) (x7 : Int32) (h : Hp), L27 x0 x1 x2 x3 x4 x5 x6 x7 h → G w E 8 27 [(0, rv w.2.2.2 x0), (1, rv w.2.2.2 x1), (2, rv w.2.2.2 x2), (3, Value.int x3), (4, Value.int x4), (5, Value.int x5), (6, Value.int x6), (7, Value.int x7)] [] sh h 0 0) (hV : V_X1_pairCode_81 w sh x0 x1 x2 x3 x4 x5 x6 x7 h L27 RET) : G w E 8 81 [(0, rv w.2.2.2 x0), (1, rv w.2.2.2 x1), (2, rv w.2.2.2 x2), (3, Value.int x3), (4, Value.int x4), (5, Value.int x5), (6, Value.int x6), (7, Value.int x7)] [] sh h 0 0 := by
  unfold V_X1_pairCode_81 at hV
  refine g_aload_n (pc := 81) X 0 rfl rfl dX1_pairCode_81 ?_
  obtain ⟨q1, hV⟩ := hV
  refine g_getR (pc := 82) X fl_X1_15 q1 dX1_pairCode_82 ?_
  refine g_iload (pc := 85) X 6 rfl dX1_pairCode_85 ?_
  obtain ⟨n3, q2, hV⟩ := hV
  obtain ⟨q4, hV⟩ := hV
  refine g_iald (pc := 87) X q2 q4 dX1_pairCode_87 ?_
  refine g_istore (pc := 88) X (i := 6) (rest := [(0, rv w.2.2.2 x0), (1, rv w.2.2.2 x1), (2, rv w.2.2.2 x2), (3, Value.int x3), (4, Value.int x4), (5, Value.int x5), (7, Value.int x7)]) (by decide) rfl dX1_pairCode_88 (fun y5 e6 => ?_)
  have hV := hV y5 e6
  refine g_iinc (pc := 90) X 7 (v := (1 : Int32)) (rest := [(6, Value.int y5), (0, rv w.2.2.2 x0), (1, rv w.2.2.2 x1), (2, rv w.2.2.2 x2), (3, Value.int x3), (4, Value.int x4), (5, Value.int x5)]) rfl (by decide) rfl (by decide) dX1_pairCode_90 (fun y7 e8 => ?_)
  have hV := hV y7 e8
  refine g_goto (pc := 93) X 27 dX1_pairCode_93 (by decide) ?_
  refine g_lv [2, 3, 4, 5, 6, 7, 1, 0] rfl ?_
  exact hL27 x0 x1 x2 x3 x4 x5 y5 y7 h hV
def V_X1_pairCode_27 (w : Wd) (sh : List Sh) (x0 : Nat) (x1 : Nat) (x2 : Nat) (x3 : Int32) (x4 : Int32) (x5 : Int32) (x6 : Int32) (x7 : Int32) (h : Hp) (L27 : Nat → Nat → Nat → Int32 → Int32 → Int32 → Int32 → Int32 → Hp → Prop) (RET : Int32 → Hp → Prop) : Prop :=
  (((256 : Int32) ≤ x7) → (RET (-1 : Int32) h)) ∧ ((¬ (256 : Int32) ≤ x7) → (((x6 < 0) → (RET (-1 : Int32) h)) ∧ ((¬ x6 < 0) → ((((256 : Int32) ≤ x6) → (RET (-1 : Int32) h)) ∧ ((¬ (256 : Int32) ≤ x6) → (shAt sh x2 = some (.inr 6) ∧ (∃ P5 : Int32 → Hp → Prop, C_X6_isHalf w sh x2 x3 x1 x6 (0 : Int32) x4 h P5 ∧ (∀ (v9 : Int32) (h8 : Hp), P5 v9 h8 → (((v9 = 0) → (V_X1_pairCode_81 w sh x0 x1 x2 x3 x4 x5 x6 x7 h8 L27 RET)) ∧ ((¬ v9 = 0) → (∃ P11 : Int32 → Hp → Prop, C_X6_isHalf w sh x2 (x3 + (1 : Int32)) x1 x6 (3 : Int32) x5 h8 P11 ∧ (∀ (v15 : Int32) (h14 : Hp), P11 v15 h14 → (((v15 = 0) → (V_X1_pairCode_81 w sh x0 x1 x2 x3 x4 x5 x6 x7 h14 L27 RET)) ∧ ((¬ v15 = 0) → (RET x6 h14)))))))))))))))
set_option maxRecDepth 20000 in
set_option maxHeartbeats 4000000 in
theorem W_X1_pairCode_27 {w : Wd} {E : GE} {sh : List Sh} {x0 : Nat} {x1 : Nat} {x2 : Nat} {x3 : Int32} {x4 : Int32} {x5 : Int32} {x6 : Int32} {x7 : Int32} {h : Hp} {L27 : Nat → Nat → Nat → Int32 → Int32 → Int32 → Int32 → Int32 → Hp → Prop} {RET : Int32 → Hp → Prop} (X : Cx w E cX1_pairCode 8 RX1) (Tt : Rt w E (some .int) sh.length 0 0 (fun q sh9 h9 => ∃ v : Int32, q = some (Value.int v) ∧ sh9 = sh ∧ RET v h9)) (hR : gR E = { frames := 3, cells := 0, slots := 0, locals := 68 }) (hL27 : ∀ (x0 : Nat) (x1 : Nat) (x2 : Nat) (x3 : Int32) (x4 : Int32) (x5 : Int32) (x6 : Int32) (x7 : Int32) (h : Hp), L27 x0 x1 x2 x3 x4 x5 x6 x7 h → G w E 8 27 [(0, rv w.2.2.2 x0), (1, rv w.2.2.2 x1), (2, rv w.2.2.2 x2), (3, Value.int x3), (4, Value.int x4), (5, Value.int x5), (6, Value.int x6), (7, Value.int x7)] [] sh h 0 0) (hV : V_X1_pairCode_27 w sh x0 x1 x2 x3 x4 x5 x6 x7 h L27 RET) : G w E 8 27 [(0, rv w.2.2.2 x0), (1, rv w.2.2.2 x1), (2, rv w.2.2.2 x2), (3, Value.int x3), (4, Value.int x4), (5, Value.int x5), (6, Value.int x6), (7, Value.int x7)] [] sh h 0 0 := by
  unfold V_X1_pairCode_27 at hV
  refine g_iload (pc := 27) X 7 rfl dX1_pairCode_27 ?_
  refine g_sipush (pc := 29) (v := (256 : Int32)) X dX1_pairCode_29 (by decide) ?_
  refine g_icmp_ge (pc := 32) X 96 dX1_pairCode_32 (by decide) (fun c1 => ?_) (fun c1 => ?_)
  · have hV := hV.1 c1
    refine g_iconst (pc := 96) (v := (-1 : Int32)) X dX1_pairCode_96 (by decide) ?_
    exact g_iret (pc := 97) X Tt ⟨_, rfl, rfl, hV⟩ dX1_pairCode_97
  · have hV := hV.2 c1
    refine g_iload (pc := 35) X 6 rfl dX1_pairCode_35 ?_
    refine g_if_lt (pc := 37) X 96 dX1_pairCode_37 (by decide) (fun c2 => ?_) (fun c2 => ?_)
    · have hV := hV.1 c2
      refine g_iconst (pc := 96) (v := (-1 : Int32)) X dX1_pairCode_96 (by decide) ?_
      exact g_iret (pc := 97) X Tt ⟨_, rfl, rfl, hV⟩ dX1_pairCode_97
    · have hV := hV.2 c2
      refine g_iload (pc := 40) X 6 rfl dX1_pairCode_40 ?_
      refine g_sipush (pc := 42) (v := (256 : Int32)) X dX1_pairCode_42 (by decide) ?_
      refine g_icmp_ge (pc := 45) X 96 dX1_pairCode_45 (by decide) (fun c3 => ?_) (fun c3 => ?_)
      · have hV := hV.1 c3
        refine g_iconst (pc := 96) (v := (-1 : Int32)) X dX1_pairCode_96 (by decide) ?_
        exact g_iret (pc := 97) X Tt ⟨_, rfl, rfl, hV⟩ dX1_pairCode_97
      · have hV := hV.2 c3
        refine g_aload_n (pc := 48) X 2 rfl rfl dX1_pairCode_48 ?_
        refine g_iload_n (pc := 49) X 3 rfl rfl dX1_pairCode_49 ?_
        refine g_aload_n (pc := 50) X 1 rfl rfl dX1_pairCode_50 ?_
        refine g_iload (pc := 51) X 6 rfl dX1_pairCode_51 ?_
        refine g_iconst (pc := 53) (v := (0 : Int32)) X dX1_pairCode_53 (by decide) ?_
        refine g_iload (pc := 54) X 4 rfl dX1_pairCode_54 ?_
        obtain ⟨q4, hV⟩ := hV
        obtain ⟨P5, t6, hV⟩ := hV
        refine g_cVI (pc := 56) X (As := [Value.int x3, rv w.2.2.2 x1, Value.int x6, Value.int (0 : Int32), Value.int x4]) ml_X1_43 rfl q4 t6 (by rw [hR]; exact ⟨by decide, by decide, by decide, by decide⟩) rfl rfl (Nat.zero_le _) dX1_pairCode_56 (fun v9 h8 p7 => ?_)
        have hV := hV v9 h8 p7
        refine g_if_eq (pc := 59) X 81 dX1_pairCode_59 (by decide) (fun c10 => ?_) (fun c10 => ?_)
        · have hV := hV.1 c10
          exact W_X1_pairCode_81 X Tt hR hL27 hV
        · have hV := hV.2 c10
          refine g_aload_n (pc := 62) X 2 rfl rfl dX1_pairCode_62 ?_
          refine g_iload_n (pc := 63) X 3 rfl rfl dX1_pairCode_63 ?_
          refine g_iconst (pc := 64) (v := (1 : Int32)) X dX1_pairCode_64 (by decide) ?_
          refine g_iadd (pc := 65) X dX1_pairCode_65 ?_
          refine g_aload_n (pc := 66) X 1 rfl rfl dX1_pairCode_66 ?_
          refine g_iload (pc := 67) X 6 rfl dX1_pairCode_67 ?_
          refine g_iconst (pc := 69) (v := (3 : Int32)) X dX1_pairCode_69 (by decide) ?_
          refine g_iload (pc := 70) X 5 rfl dX1_pairCode_70 ?_
          obtain ⟨P11, t12, hV⟩ := hV
          refine g_cVI (pc := 72) X (As := [Value.int (x3 + (1 : Int32)), rv w.2.2.2 x1, Value.int x6, Value.int (3 : Int32), Value.int x5]) ml_X1_43 rfl q4 t12 (by rw [hR]; exact ⟨by decide, by decide, by decide, by decide⟩) rfl rfl (Nat.zero_le _) dX1_pairCode_72 (fun v15 h14 p13 => ?_)
          have hV := hV v15 h14 p13
          refine g_if_eq (pc := 75) X 81 dX1_pairCode_75 (by decide) (fun c16 => ?_) (fun c16 => ?_)
          · have hV := hV.1 c16
            exact W_X1_pairCode_81 X Tt hR hL27 hV
          · have hV := hV.2 c16
            refine g_iload (pc := 78) X 6 rfl dX1_pairCode_78 ?_
            exact g_iret (pc := 80) X Tt ⟨_, rfl, rfl, hV⟩ dX1_pairCode_80
def V_X1_pairCode_0 (w : Wd) (sh : List Sh) (x0 : Nat) (x1 : Nat) (x2 : Nat) (x3 : Int32) (h : Hp) (L27 : Nat → Nat → Nat → Int32 → Int32 → Int32 → Int32 → Int32 → Hp → Prop) (RET : Int32 → Hp → Prop) : Prop :=
  shAt sh x2 = some (.inr 6) ∧ (∃ P2 : Int32 → Hp → Prop, C_X6_sizeOf w sh x2 x3 h P2 ∧ (∀ (v6 : Int32) (h5 : Hp), P2 v6 h5 → (∀ y7 : Int32, y7 = v6 → (∃ P9 : Int32 → Hp → Prop, C_X6_sizeOf w sh x2 (x3 + (1 : Int32)) h5 P9 ∧ (∀ (v13 : Int32) (h12 : Hp), P9 v13 h12 → (∀ y14 : Int32, y14 = v13 → (shAt sh x0 = some (.inr 1) ∧ (∃ P17 : Int32 → Hp → Prop, C_X1_head w sh x0 y7 h12 P17 ∧ (∀ (v21 : Int32) (h20 : Hp), P17 v21 h20 → (∀ y22 : Int32, y22 = v21 → (∀ y24 : Int32, y24 = (0 : Int32) → (L27 x0 x1 x2 x3 y7 y14 y22 y24 h20))))))))))))
set_option maxRecDepth 20000 in
set_option maxHeartbeats 4000000 in
theorem W_X1_pairCode_0 {w : Wd} {E : GE} {sh : List Sh} {x0 : Nat} {x1 : Nat} {x2 : Nat} {x3 : Int32} {h : Hp} {L27 : Nat → Nat → Nat → Int32 → Int32 → Int32 → Int32 → Int32 → Hp → Prop} {RET : Int32 → Hp → Prop} (X : Cx w E cX1_pairCode 8 RX1) (Tt : Rt w E (some .int) sh.length 0 0 (fun q sh9 h9 => ∃ v : Int32, q = some (Value.int v) ∧ sh9 = sh ∧ RET v h9)) (hR : gR E = { frames := 3, cells := 0, slots := 0, locals := 68 }) (hL27 : ∀ (x0 : Nat) (x1 : Nat) (x2 : Nat) (x3 : Int32) (x4 : Int32) (x5 : Int32) (x6 : Int32) (x7 : Int32) (h : Hp), L27 x0 x1 x2 x3 x4 x5 x6 x7 h → G w E 8 27 [(0, rv w.2.2.2 x0), (1, rv w.2.2.2 x1), (2, rv w.2.2.2 x2), (3, Value.int x3), (4, Value.int x4), (5, Value.int x5), (6, Value.int x6), (7, Value.int x7)] [] sh h 0 0) (hV : V_X1_pairCode_0 w sh x0 x1 x2 x3 h L27 RET) : G w E 8 0 [(0, rv w.2.2.2 x0), (1, rv w.2.2.2 x1), (2, rv w.2.2.2 x2), (3, Value.int x3)] [] sh h 0 0 := by
  unfold V_X1_pairCode_0 at hV
  refine g_aload_n (pc := 0) X 2 rfl rfl dX1_pairCode_0 ?_
  refine g_iload_n (pc := 1) X 3 rfl rfl dX1_pairCode_1 ?_
  obtain ⟨q1, hV⟩ := hV
  obtain ⟨P2, t3, hV⟩ := hV
  refine g_cVI (pc := 2) X (As := [Value.int x3]) ml_X1_34 rfl q1 t3 (by rw [hR]; exact ⟨by decide, by decide, by decide, by decide⟩) rfl rfl (Nat.zero_le _) dX1_pairCode_2 (fun v6 h5 p4 => ?_)
  have hV := hV v6 h5 p4
  refine g_istore (pc := 5) X (i := 4) (rest := [(0, rv w.2.2.2 x0), (1, rv w.2.2.2 x1), (2, rv w.2.2.2 x2), (3, Value.int x3)]) (by decide) rfl dX1_pairCode_5 (fun y7 e8 => ?_)
  have hV := hV y7 e8
  refine g_aload_n (pc := 7) X 3 rfl rfl dX1_pairCode_7 ?_
  refine g_iload_n (pc := 8) X 4 rfl rfl dX1_pairCode_8 ?_
  refine g_iconst (pc := 9) (v := (1 : Int32)) X dX1_pairCode_9 (by decide) ?_
  refine g_iadd (pc := 10) X dX1_pairCode_10 ?_
  obtain ⟨P9, t10, hV⟩ := hV
  refine g_cVI (pc := 11) X (As := [Value.int (x3 + (1 : Int32))]) ml_X1_34 rfl q1 t10 (by rw [hR]; exact ⟨by decide, by decide, by decide, by decide⟩) rfl rfl (Nat.zero_le _) dX1_pairCode_11 (fun v13 h12 p11 => ?_)
  have hV := hV v13 h12 p11
  refine g_istore (pc := 14) X (i := 5) (rest := [(4, Value.int y7), (0, rv w.2.2.2 x0), (1, rv w.2.2.2 x1), (2, rv w.2.2.2 x2), (3, Value.int x3)]) (by decide) rfl dX1_pairCode_14 (fun y14 e15 => ?_)
  have hV := hV y14 e15
  refine g_aload_n (pc := 16) X 2 rfl rfl dX1_pairCode_16 ?_
  refine g_iload (pc := 17) X 1 rfl dX1_pairCode_17 ?_
  obtain ⟨q16, hV⟩ := hV
  obtain ⟨P17, t18, hV⟩ := hV
  refine g_cVI (pc := 19) X (As := [Value.int y7]) ml_X1_40 rfl q16 t18 (by rw [hR]; exact ⟨by decide, by decide, by decide, by decide⟩) rfl rfl (Nat.zero_le _) dX1_pairCode_19 (fun v21 h20 p19 => ?_)
  have hV := hV v21 h20 p19
  refine g_istore (pc := 22) X (i := 6) (rest := [(5, Value.int y14), (4, Value.int y7), (0, rv w.2.2.2 x0), (1, rv w.2.2.2 x1), (2, rv w.2.2.2 x2), (3, Value.int x3)]) (by decide) rfl dX1_pairCode_22 (fun y22 e23 => ?_)
  have hV := hV y22 e23
  refine g_iconst (pc := 24) (v := (0 : Int32)) X dX1_pairCode_24 (by decide) ?_
  refine g_istore (pc := 25) X (i := 7) (rest := [(6, Value.int y22), (5, Value.int y14), (4, Value.int y7), (0, rv w.2.2.2 x0), (1, rv w.2.2.2 x1), (2, rv w.2.2.2 x2), (3, Value.int x3)]) (by decide) rfl dX1_pairCode_25 (fun y24 e25 => ?_)
  have hV := hV y24 e25
  refine g_lv [4, 5, 6, 7, 3, 2, 1, 0] rfl ?_
  exact hL27 x0 x1 x2 x3 y7 y14 y22 y24 h20 hV
def C_X1_pairCode (w : Wd) (sh : List Sh) (x0 : Nat) (x1 : Nat) (x2 : Nat) (x3 : Int32) (h : Hp) (RET : Int32 → Hp → Prop) : Prop := CI w yX1_pairCode (.code yX1_pairCode cX1_pairCode 8 (some .int)) 3 68 [rv w.2.2.2 x0, rv w.2.2.2 x1, rv w.2.2.2 x2, Value.int x3] sh h RET
set_option maxRecDepth 20000 in
theorem K_X1_pairCode {w : Wd} {sh : List Sh} {x0 : Nat} {x1 : Nat} {x2 : Nat} {x3 : Int32} {h : Hp} {RET : Int32 → Hp → Prop} {α : Type} {r : α → α → Prop} (wf : WellFounded r) (I27 : α → Nat → Nat → Nat → Int32 → Int32 → Int32 → Int32 → Int32 → Hp → Prop) (hE : V_X1_pairCode_0 w sh x0 x1 x2 x3 h (fun x0 x1 x2 x3 x4 x5 x6 x7 h => ∃ a, I27 a x0 x1 x2 x3 x4 x5 x6 x7 h) RET) (h27 : ∀ (b : α) (x0 : Nat) (x1 : Nat) (x2 : Nat) (x3 : Int32) (x4 : Int32) (x5 : Int32) (x6 : Int32) (x7 : Int32) (h : Hp), I27 b x0 x1 x2 x3 x4 x5 x6 x7 h → V_X1_pairCode_27 w sh x0 x1 x2 x3 x4 x5 x6 x7 h (fun x0 x1 x2 x3 x4 x5 x6 x7 h => ∃ a, r a b ∧ I27 a x0 x1 x2 x3 x4 x5 x6 x7 h) RET) : C_X1_pairCode w sh x0 x1 x2 x3 h RET :=
  Ct_of (by decide +kernel) (by simp [lg_sl, rv_cat, cat_int, cat_long]) (fun E X Tt hR _ => by
    have key : ∀ a : α, (∀ (x0 : Nat) (x1 : Nat) (x2 : Nat) (x3 : Int32) (x4 : Int32) (x5 : Int32) (x6 : Int32) (x7 : Int32) (h : Hp), I27 a x0 x1 x2 x3 x4 x5 x6 x7 h → G w E 8 27 [(0, rv w.2.2.2 x0), (1, rv w.2.2.2 x1), (2, rv w.2.2.2 x2), (3, Value.int x3), (4, Value.int x4), (5, Value.int x5), (6, Value.int x6), (7, Value.int x7)] [] sh h 0 0) := by
      intro a
      induction a using wf.induction with
      | _ a ih =>
        exact (fun x0 x1 x2 x3 x4 x5 x6 x7 h hi => W_X1_pairCode_27 X Tt hR (fun x0 x1 x2 x3 x4 x5 x6 x7 h hx => by obtain ⟨a2, ha, hi⟩ := hx; exact (ih a2 ha) x0 x1 x2 x3 x4 x5 x6 x7 h hi) (h27 a x0 x1 x2 x3 x4 x5 x6 x7 h hi))
    rw [show lv_args 0 [rv w.2.2.2 x0, rv w.2.2.2 x1, rv w.2.2.2 x2, Value.int x3] = [(0, rv w.2.2.2 x0), (1, rv w.2.2.2 x1), (2, rv w.2.2.2 x2), (3, Value.int x3)] from by simp [lv_args, rv_cat, cat_int, cat_long]]
    refine g_lv [0, 1, 2, 3] rfl ?_
    exact W_X1_pairCode_0 X Tt hR (fun x0 x1 x2 x3 x4 x5 x6 x7 h hx => by obtain ⟨a2, hi⟩ := hx; exact (key a2) x0 x1 x2 x3 x4 x5 x6 x7 h hi) hE)
def V_X1_singleCode_59 (w : Wd) (sh : List Sh) (x0 : Nat) (x1 : Nat) (x2 : Nat) (x3 : Int32) (x4 : Int32) (x5 : Int32) (x6 : Int32) (h : Hp) (L11 : Nat → Nat → Nat → Int32 → Int32 → Int32 → Int32 → Hp → Prop) (RET : Int32 → Hp → Prop) : Prop :=
  shAt sh x0 = some (.inr 1) ∧ (∃ n3 : Nat, shAt sh (h.2.1 x0 1) = some (.inl (1, n3)) ∧ (vp_in x5 n3 ∧ (∀ y5 : Int32, y5 = (h.1 (h.2.1 x0 1) x5.toNatClampNeg) → (∀ y7 : Int32, y7 = x6 + (1 : Int32) → (L11 x0 x1 x2 x3 x4 y5 y7 h)))))
set_option maxRecDepth 20000 in
set_option maxHeartbeats 4000000 in
theorem W_X1_singleCode_59 {w : Wd} {E : GE} {sh : List Sh} {x0 : Nat} {x1 : Nat} {x2 : Nat} {x3 : Int32} {x4 : Int32} {x5 : Int32} {x6 : Int32} {h : Hp} {L11 : Nat → Nat → Nat → Int32 → Int32 → Int32 → Int32 → Hp → Prop} {RET : Int32 → Hp → Prop} (X : Cx w E cX1_singleCode 7 RX1) (Tt : Rt w E (some .int) sh.length 0 0 (fun q sh9 h9 => ∃ v : Int32, q = some (Value.int v) ∧ sh9 = sh ∧ RET v h9)) (hR : gR E = { frames := 3, cells := 0, slots := 0, locals := 68 }) (hL11 : ∀ (x0 : Nat) (x1 : Nat) (x2 : Nat) (x3 : Int32) (x4 : Int32) (x5 : Int32) (x6 : Int32) (h : Hp), L11 x0 x1 x2 x3 x4 x5 x6 h → G w E 7 11 [(0, rv w.2.2.2 x0), (1, rv w.2.2.2 x1), (2, rv w.2.2.2 x2), (3, Value.int x3), (4, Value.int x4), (5, Value.int x5), (6, Value.int x6)] [] sh h 0 0) (hV : V_X1_singleCode_59 w sh x0 x1 x2 x3 x4 x5 x6 h L11 RET) : G w E 7 59 [(0, rv w.2.2.2 x0), (1, rv w.2.2.2 x1), (2, rv w.2.2.2 x2), (3, Value.int x3), (4, Value.int x4), (5, Value.int x5), (6, Value.int x6)] [] sh h 0 0 := by
  unfold V_X1_singleCode_59 at hV
  refine g_aload_n (pc := 59) X 0 rfl rfl dX1_singleCode_59 ?_
  obtain ⟨q1, hV⟩ := hV
  refine g_getR (pc := 60) X fl_X1_15 q1 dX1_singleCode_60 ?_
  refine g_iload (pc := 63) X 5 rfl dX1_singleCode_63 ?_
  obtain ⟨n3, q2, hV⟩ := hV
  obtain ⟨q4, hV⟩ := hV
  refine g_iald (pc := 65) X q2 q4 dX1_singleCode_65 ?_
  refine g_istore (pc := 66) X (i := 5) (rest := [(0, rv w.2.2.2 x0), (1, rv w.2.2.2 x1), (2, rv w.2.2.2 x2), (3, Value.int x3), (4, Value.int x4), (6, Value.int x6)]) (by decide) rfl dX1_singleCode_66 (fun y5 e6 => ?_)
  have hV := hV y5 e6
  refine g_iinc (pc := 68) X 6 (v := (1 : Int32)) (rest := [(5, Value.int y5), (0, rv w.2.2.2 x0), (1, rv w.2.2.2 x1), (2, rv w.2.2.2 x2), (3, Value.int x3), (4, Value.int x4)]) rfl (by decide) rfl (by decide) dX1_singleCode_68 (fun y7 e8 => ?_)
  have hV := hV y7 e8
  refine g_goto (pc := 71) X 11 dX1_singleCode_71 (by decide) ?_
  refine g_lv [2, 3, 4, 5, 6, 1, 0] rfl ?_
  exact hL11 x0 x1 x2 x3 x4 y5 y7 h hV
def V_X1_singleCode_11 (w : Wd) (sh : List Sh) (x0 : Nat) (x1 : Nat) (x2 : Nat) (x3 : Int32) (x4 : Int32) (x5 : Int32) (x6 : Int32) (h : Hp) (L11 : Nat → Nat → Nat → Int32 → Int32 → Int32 → Int32 → Hp → Prop) (RET : Int32 → Hp → Prop) : Prop :=
  (((256 : Int32) ≤ x6) → (RET (-1 : Int32) h)) ∧ ((¬ (256 : Int32) ≤ x6) → (((x5 < 0) → (RET (-1 : Int32) h)) ∧ ((¬ x5 < 0) → ((((256 : Int32) ≤ x5) → (RET (-1 : Int32) h)) ∧ ((¬ (256 : Int32) ≤ x5) → (shAt sh x1 = some (.inr 10) ∧ (∃ P5 : Int32 → Hp → Prop, C_X10_get w sh x1 x5 (3 : Int32) h P5 ∧ (∀ (v9 : Int32) (h8 : Hp), P5 v9 h8 → (((¬ v9 = 0) → (V_X1_singleCode_59 w sh x0 x1 x2 x3 x4 x5 x6 h8 L11 RET)) ∧ ((v9 = 0) → (shAt sh x2 = some (.inr 6) ∧ (∃ P12 : Int32 → Hp → Prop, C_X6_isHalf w sh x2 x3 x1 x5 (0 : Int32) x4 h8 P12 ∧ (∀ (v16 : Int32) (h15 : Hp), P12 v16 h15 → (((v16 = 0) → (V_X1_singleCode_59 w sh x0 x1 x2 x3 x4 x5 x6 h15 L11 RET)) ∧ ((¬ v16 = 0) → (RET x5 h15))))))))))))))))
set_option maxRecDepth 20000 in
set_option maxHeartbeats 4000000 in
theorem W_X1_singleCode_11 {w : Wd} {E : GE} {sh : List Sh} {x0 : Nat} {x1 : Nat} {x2 : Nat} {x3 : Int32} {x4 : Int32} {x5 : Int32} {x6 : Int32} {h : Hp} {L11 : Nat → Nat → Nat → Int32 → Int32 → Int32 → Int32 → Hp → Prop} {RET : Int32 → Hp → Prop} (X : Cx w E cX1_singleCode 7 RX1) (Tt : Rt w E (some .int) sh.length 0 0 (fun q sh9 h9 => ∃ v : Int32, q = some (Value.int v) ∧ sh9 = sh ∧ RET v h9)) (hR : gR E = { frames := 3, cells := 0, slots := 0, locals := 68 }) (hL11 : ∀ (x0 : Nat) (x1 : Nat) (x2 : Nat) (x3 : Int32) (x4 : Int32) (x5 : Int32) (x6 : Int32) (h : Hp), L11 x0 x1 x2 x3 x4 x5 x6 h → G w E 7 11 [(0, rv w.2.2.2 x0), (1, rv w.2.2.2 x1), (2, rv w.2.2.2 x2), (3, Value.int x3), (4, Value.int x4), (5, Value.int x5), (6, Value.int x6)] [] sh h 0 0) (hV : V_X1_singleCode_11 w sh x0 x1 x2 x3 x4 x5 x6 h L11 RET) : G w E 7 11 [(0, rv w.2.2.2 x0), (1, rv w.2.2.2 x1), (2, rv w.2.2.2 x2), (3, Value.int x3), (4, Value.int x4), (5, Value.int x5), (6, Value.int x6)] [] sh h 0 0 := by
  unfold V_X1_singleCode_11 at hV
  refine g_iload (pc := 11) X 6 rfl dX1_singleCode_11 ?_
  refine g_sipush (pc := 13) (v := (256 : Int32)) X dX1_singleCode_13 (by decide) ?_
  refine g_icmp_ge (pc := 16) X 74 dX1_singleCode_16 (by decide) (fun c1 => ?_) (fun c1 => ?_)
  · have hV := hV.1 c1
    refine g_iconst (pc := 74) (v := (-1 : Int32)) X dX1_singleCode_74 (by decide) ?_
    exact g_iret (pc := 75) X Tt ⟨_, rfl, rfl, hV⟩ dX1_singleCode_75
  · have hV := hV.2 c1
    refine g_iload (pc := 19) X 5 rfl dX1_singleCode_19 ?_
    refine g_if_lt (pc := 21) X 74 dX1_singleCode_21 (by decide) (fun c2 => ?_) (fun c2 => ?_)
    · have hV := hV.1 c2
      refine g_iconst (pc := 74) (v := (-1 : Int32)) X dX1_singleCode_74 (by decide) ?_
      exact g_iret (pc := 75) X Tt ⟨_, rfl, rfl, hV⟩ dX1_singleCode_75
    · have hV := hV.2 c2
      refine g_iload (pc := 24) X 5 rfl dX1_singleCode_24 ?_
      refine g_sipush (pc := 26) (v := (256 : Int32)) X dX1_singleCode_26 (by decide) ?_
      refine g_icmp_ge (pc := 29) X 74 dX1_singleCode_29 (by decide) (fun c3 => ?_) (fun c3 => ?_)
      · have hV := hV.1 c3
        refine g_iconst (pc := 74) (v := (-1 : Int32)) X dX1_singleCode_74 (by decide) ?_
        exact g_iret (pc := 75) X Tt ⟨_, rfl, rfl, hV⟩ dX1_singleCode_75
      · have hV := hV.2 c3
        refine g_aload_n (pc := 32) X 1 rfl rfl dX1_singleCode_32 ?_
        refine g_iload (pc := 33) X 5 rfl dX1_singleCode_33 ?_
        refine g_iconst (pc := 35) (v := (3 : Int32)) X dX1_singleCode_35 (by decide) ?_
        obtain ⟨q4, hV⟩ := hV
        obtain ⟨P5, t6, hV⟩ := hV
        refine g_cVI (pc := 36) X (As := [Value.int x5, Value.int (3 : Int32)]) ml_X1_24 rfl q4 t6 (by rw [hR]; exact ⟨by decide, by decide, by decide, by decide⟩) rfl rfl (Nat.zero_le _) dX1_singleCode_36 (fun v9 h8 p7 => ?_)
        have hV := hV v9 h8 p7
        refine g_if_ne (pc := 39) X 59 dX1_singleCode_39 (by decide) (fun c10 => ?_) (fun c10 => ?_)
        · have hV := hV.1 c10
          exact W_X1_singleCode_59 X Tt hR hL11 hV
        · have hV := hV.2 c10
          refine g_aload_n (pc := 42) X 2 rfl rfl dX1_singleCode_42 ?_
          refine g_iload_n (pc := 43) X 3 rfl rfl dX1_singleCode_43 ?_
          refine g_aload_n (pc := 44) X 1 rfl rfl dX1_singleCode_44 ?_
          refine g_iload (pc := 45) X 5 rfl dX1_singleCode_45 ?_
          refine g_iconst (pc := 47) (v := (0 : Int32)) X dX1_singleCode_47 (by decide) ?_
          refine g_iload (pc := 48) X 4 rfl dX1_singleCode_48 ?_
          obtain ⟨q11, hV⟩ := hV
          obtain ⟨P12, t13, hV⟩ := hV
          refine g_cVI (pc := 50) X (As := [Value.int x3, rv w.2.2.2 x1, Value.int x5, Value.int (0 : Int32), Value.int x4]) ml_X1_43 rfl q11 t13 (by rw [hR]; exact ⟨by decide, by decide, by decide, by decide⟩) rfl rfl (Nat.zero_le _) dX1_singleCode_50 (fun v16 h15 p14 => ?_)
          have hV := hV v16 h15 p14
          refine g_if_eq (pc := 53) X 59 dX1_singleCode_53 (by decide) (fun c17 => ?_) (fun c17 => ?_)
          · have hV := hV.1 c17
            exact W_X1_singleCode_59 X Tt hR hL11 hV
          · have hV := hV.2 c17
            refine g_iload (pc := 56) X 5 rfl dX1_singleCode_56 ?_
            exact g_iret (pc := 58) X Tt ⟨_, rfl, rfl, hV⟩ dX1_singleCode_58
def V_X1_singleCode_0 (w : Wd) (sh : List Sh) (x0 : Nat) (x1 : Nat) (x2 : Nat) (x3 : Int32) (x4 : Int32) (h : Hp) (L11 : Nat → Nat → Nat → Int32 → Int32 → Int32 → Int32 → Hp → Prop) (RET : Int32 → Hp → Prop) : Prop :=
  shAt sh x0 = some (.inr 1) ∧ (∃ P2 : Int32 → Hp → Prop, C_X1_head w sh x0 x4 h P2 ∧ (∀ (v6 : Int32) (h5 : Hp), P2 v6 h5 → (∀ y7 : Int32, y7 = v6 → (∀ y9 : Int32, y9 = (0 : Int32) → (L11 x0 x1 x2 x3 x4 y7 y9 h5)))))
set_option maxRecDepth 20000 in
set_option maxHeartbeats 4000000 in
theorem W_X1_singleCode_0 {w : Wd} {E : GE} {sh : List Sh} {x0 : Nat} {x1 : Nat} {x2 : Nat} {x3 : Int32} {x4 : Int32} {h : Hp} {L11 : Nat → Nat → Nat → Int32 → Int32 → Int32 → Int32 → Hp → Prop} {RET : Int32 → Hp → Prop} (X : Cx w E cX1_singleCode 7 RX1) (Tt : Rt w E (some .int) sh.length 0 0 (fun q sh9 h9 => ∃ v : Int32, q = some (Value.int v) ∧ sh9 = sh ∧ RET v h9)) (hR : gR E = { frames := 3, cells := 0, slots := 0, locals := 68 }) (hL11 : ∀ (x0 : Nat) (x1 : Nat) (x2 : Nat) (x3 : Int32) (x4 : Int32) (x5 : Int32) (x6 : Int32) (h : Hp), L11 x0 x1 x2 x3 x4 x5 x6 h → G w E 7 11 [(0, rv w.2.2.2 x0), (1, rv w.2.2.2 x1), (2, rv w.2.2.2 x2), (3, Value.int x3), (4, Value.int x4), (5, Value.int x5), (6, Value.int x6)] [] sh h 0 0) (hV : V_X1_singleCode_0 w sh x0 x1 x2 x3 x4 h L11 RET) : G w E 7 0 [(0, rv w.2.2.2 x0), (1, rv w.2.2.2 x1), (2, rv w.2.2.2 x2), (3, Value.int x3), (4, Value.int x4)] [] sh h 0 0 := by
  unfold V_X1_singleCode_0 at hV
  refine g_aload_n (pc := 0) X 0 rfl rfl dX1_singleCode_0 ?_
  refine g_iload (pc := 1) X 4 rfl dX1_singleCode_1 ?_
  obtain ⟨q1, hV⟩ := hV
  obtain ⟨P2, t3, hV⟩ := hV
  refine g_cVI (pc := 3) X (As := [Value.int x4]) ml_X1_40 rfl q1 t3 (by rw [hR]; exact ⟨by decide, by decide, by decide, by decide⟩) rfl rfl (Nat.zero_le _) dX1_singleCode_3 (fun v6 h5 p4 => ?_)
  have hV := hV v6 h5 p4
  refine g_istore (pc := 6) X (i := 5) (rest := [(0, rv w.2.2.2 x0), (1, rv w.2.2.2 x1), (2, rv w.2.2.2 x2), (3, Value.int x3), (4, Value.int x4)]) (by decide) rfl dX1_singleCode_6 (fun y7 e8 => ?_)
  have hV := hV y7 e8
  refine g_iconst (pc := 8) (v := (0 : Int32)) X dX1_singleCode_8 (by decide) ?_
  refine g_istore (pc := 9) X (i := 6) (rest := [(5, Value.int y7), (0, rv w.2.2.2 x0), (1, rv w.2.2.2 x1), (2, rv w.2.2.2 x2), (3, Value.int x3), (4, Value.int x4)]) (by decide) rfl dX1_singleCode_9 (fun y9 e10 => ?_)
  have hV := hV y9 e10
  refine g_lv [2, 3, 4, 5, 6, 1, 0] rfl ?_
  exact hL11 x0 x1 x2 x3 x4 y7 y9 h5 hV
def C_X1_singleCode (w : Wd) (sh : List Sh) (x0 : Nat) (x1 : Nat) (x2 : Nat) (x3 : Int32) (x4 : Int32) (h : Hp) (RET : Int32 → Hp → Prop) : Prop := CI w yX1_singleCode (.code yX1_singleCode cX1_singleCode 7 (some .int)) 3 68 [rv w.2.2.2 x0, rv w.2.2.2 x1, rv w.2.2.2 x2, Value.int x3, Value.int x4] sh h RET
set_option maxRecDepth 20000 in
theorem K_X1_singleCode {w : Wd} {sh : List Sh} {x0 : Nat} {x1 : Nat} {x2 : Nat} {x3 : Int32} {x4 : Int32} {h : Hp} {RET : Int32 → Hp → Prop} {α : Type} {r : α → α → Prop} (wf : WellFounded r) (I11 : α → Nat → Nat → Nat → Int32 → Int32 → Int32 → Int32 → Hp → Prop) (hE : V_X1_singleCode_0 w sh x0 x1 x2 x3 x4 h (fun x0 x1 x2 x3 x4 x5 x6 h => ∃ a, I11 a x0 x1 x2 x3 x4 x5 x6 h) RET) (h11 : ∀ (b : α) (x0 : Nat) (x1 : Nat) (x2 : Nat) (x3 : Int32) (x4 : Int32) (x5 : Int32) (x6 : Int32) (h : Hp), I11 b x0 x1 x2 x3 x4 x5 x6 h → V_X1_singleCode_11 w sh x0 x1 x2 x3 x4 x5 x6 h (fun x0 x1 x2 x3 x4 x5 x6 h => ∃ a, r a b ∧ I11 a x0 x1 x2 x3 x4 x5 x6 h) RET) : C_X1_singleCode w sh x0 x1 x2 x3 x4 h RET :=
  Ct_of (by decide +kernel) (by simp [lg_sl, rv_cat, cat_int, cat_long]) (fun E X Tt hR _ => by
    have key : ∀ a : α, (∀ (x0 : Nat) (x1 : Nat) (x2 : Nat) (x3 : Int32) (x4 : Int32) (x5 : Int32) (x6 : Int32) (h : Hp), I11 a x0 x1 x2 x3 x4 x5 x6 h → G w E 7 11 [(0, rv w.2.2.2 x0), (1, rv w.2.2.2 x1), (2, rv w.2.2.2 x2), (3, Value.int x3), (4, Value.int x4), (5, Value.int x5), (6, Value.int x6)] [] sh h 0 0) := by
      intro a
      induction a using wf.induction with
      | _ a ih =>
        exact (fun x0 x1 x2 x3 x4 x5 x6 h hi => W_X1_singleCode_11 X Tt hR (fun x0 x1 x2 x3 x4 x5 x6 h hx => by obtain ⟨a2, ha, hi⟩ := hx; exact (ih a2 ha) x0 x1 x2 x3 x4 x5 x6 h hi) (h11 a x0 x1 x2 x3 x4 x5 x6 h hi))
    rw [show lv_args 0 [rv w.2.2.2 x0, rv w.2.2.2 x1, rv w.2.2.2 x2, Value.int x3, Value.int x4] = [(0, rv w.2.2.2 x0), (1, rv w.2.2.2 x1), (2, rv w.2.2.2 x2), (3, Value.int x3), (4, Value.int x4)] from by simp [lv_args, rv_cat, cat_int, cat_long]]
    refine g_lv [0, 1, 2, 3, 4] rfl ?_
    exact W_X1_singleCode_0 X Tt hR (fun x0 x1 x2 x3 x4 x5 x6 h hx => by obtain ⟨a2, hi⟩ := hx; exact (key a2) x0 x1 x2 x3 x4 x5 x6 h hi) hE)
def V_X2_lay_0 (w : Wd) (sh : List Sh) (x0 : Nat) (x1 : Nat) (x2 : Int32) (x3 : Int32) (h : Hp)  (RET : Hp → Prop) : Prop :=
  shAt sh x0 = some (.inr 2) ∧ (∀ h2 : Hp, h2 = wR h x0 0 x1 → (∀ h4 : Hp, h4 = wI h2 x0 1 x2 → (∀ h6 : Hp, h6 = wI h4 x0 2 x3 → (RET h6))))
set_option maxRecDepth 20000 in
set_option maxHeartbeats 4000000 in
theorem W_X2_lay_0 {w : Wd} {E : GE} {sh : List Sh} {x0 : Nat} {x1 : Nat} {x2 : Int32} {x3 : Int32} {h : Hp}  {RET : Hp → Prop} (X : Cx w E cX2_lay 4 RX2) (Tt : Rt w E none sh.length 0 0 (fun q sh9 h9 => q = none ∧ sh9 = sh ∧ RET h9)) (hR : gR E = { frames := 0, cells := 0, slots := 0, locals := 0 }) (hV : V_X2_lay_0 w sh x0 x1 x2 x3 h RET) : G w E 4 0 [(0, rv w.2.2.2 x0), (1, rv w.2.2.2 x1), (2, Value.int x2), (3, Value.int x3)] [] sh h 0 0 := by
  unfold V_X2_lay_0 at hV
  refine g_aload_n (pc := 0) X 0 rfl rfl dX2_lay_0 ?_
  refine g_aload_n (pc := 1) X 1 rfl rfl dX2_lay_1 ?_
  obtain ⟨q1, hV⟩ := hV
  refine g_putR (pc := 2) X fl_X2_14 q1 rfl dX2_lay_2 (fun h2 e3 => ?_)
  have hV := hV h2 e3
  refine g_aload_n (pc := 5) X 0 rfl rfl dX2_lay_5 ?_
  refine g_iload_n (pc := 6) X 2 rfl rfl dX2_lay_6 ?_
  refine g_putI (pc := 7) X fl_X2_20 q1 rfl rfl dX2_lay_7 (fun h4 e5 => ?_)
  have hV := hV h4 e5
  refine g_aload_n (pc := 10) X 0 rfl rfl dX2_lay_10 ?_
  refine g_iload_n (pc := 11) X 3 rfl rfl dX2_lay_11 ?_
  refine g_putI (pc := 12) X fl_X2_24 q1 rfl rfl dX2_lay_12 (fun h6 e7 => ?_)
  have hV := hV h6 e7
  exact g_vret (pc := 15) X Tt ⟨rfl, rfl, hV⟩ dX2_lay_15
def C_X2_lay (w : Wd) (sh : List Sh) (x0 : Nat) (x1 : Nat) (x2 : Int32) (x3 : Int32) (h : Hp) (RET : Hp → Prop) : Prop := CV w yX2_lay (.code yX2_lay cX2_lay 4 none) 0 0 [rv w.2.2.2 x0, rv w.2.2.2 x1, Value.int x2, Value.int x3] sh h RET
theorem K_X2_lay {w : Wd} {sh : List Sh} {x0 : Nat} {x1 : Nat} {x2 : Int32} {x3 : Int32} {h : Hp} {RET : Hp → Prop} (hV : V_X2_lay_0 w sh x0 x1 x2 x3 h RET) : C_X2_lay w sh x0 x1 x2 x3 h RET :=
  Ct_of (by decide +kernel) (by simp [lg_sl, rv_cat, cat_int, cat_long]) (fun E X Tt hR _ => by
    rw [show lv_args 0 [rv w.2.2.2 x0, rv w.2.2.2 x1, Value.int x2, Value.int x3] = [(0, rv w.2.2.2 x0), (1, rv w.2.2.2 x1), (2, Value.int x2), (3, Value.int x3)] from by simp [lv_args, rv_cat, cat_int, cat_long]]
    refine g_lv [0, 1, 2, 3] rfl ?_
    exact W_X2_lay_0 X Tt hR hV)
def V_X4_clear_0 (w : Wd) (sh : List Sh) (x0 : Nat) (h : Hp)  (RET : Hp → Prop) : Prop :=
  shAt sh x0 = some (.inr 4) ∧ (∃ P2 : Hp → Prop, C_J7_fill_53178 w sh (h.2.1 x0 0) (0 : Int32) h P2 ∧ (∀ h5 : Hp, P2 h5 → (∀ h6 : Hp, h6 = wI h5 x0 2 (0 : Int32) → (RET h6))))
set_option maxRecDepth 20000 in
set_option maxHeartbeats 4000000 in
theorem W_X4_clear_0 {w : Wd} {E : GE} {sh : List Sh} {x0 : Nat} {h : Hp}  {RET : Hp → Prop} (X : Cx w E cX4_clear 1 RX4) (Tt : Rt w E none sh.length 0 0 (fun q sh9 h9 => q = none ∧ sh9 = sh ∧ RET h9)) (hR : gR E = { frames := 1, cells := 0, slots := 0, locals := 23 }) (hV : V_X4_clear_0 w sh x0 h RET) : G w E 1 0 [(0, rv w.2.2.2 x0)] [] sh h 0 0 := by
  unfold V_X4_clear_0 at hV
  refine g_aload_n (pc := 0) X 0 rfl rfl dX4_clear_0 ?_
  obtain ⟨q1, hV⟩ := hV
  refine g_getR (pc := 1) X fl_X4_9 q1 dX4_clear_1 ?_
  refine g_iconst (pc := 4) (v := (0 : Int32)) X dX4_clear_4 (by decide) ?_
  obtain ⟨P2, t3, hV⟩ := hV
  refine g_cSV (pc := 5) X (As := [rv w.2.2.2 (h.2.1 x0 0), Value.int (0 : Int32)]) ml_X4_24 t3 (by rw [hR]; exact ⟨by decide, by decide, by decide, by decide⟩) rfl rfl (Nat.zero_le _) dX4_clear_5 (fun h5 p4 => ?_)
  have hV := hV h5 p4
  refine g_aload_n (pc := 8) X 0 rfl rfl dX4_clear_8 ?_
  refine g_iconst (pc := 9) (v := (0 : Int32)) X dX4_clear_9 (by decide) ?_
  refine g_putI (pc := 10) X fl_X4_30 q1 rfl rfl dX4_clear_10 (fun h6 e7 => ?_)
  have hV := hV h6 e7
  exact g_vret (pc := 13) X Tt ⟨rfl, rfl, hV⟩ dX4_clear_13
def C_X4_clear (w : Wd) (sh : List Sh) (x0 : Nat) (h : Hp) (RET : Hp → Prop) : Prop := CV w yX4_clear (.code yX4_clear cX4_clear 1 none) 1 23 [rv w.2.2.2 x0] sh h RET
theorem K_X4_clear {w : Wd} {sh : List Sh} {x0 : Nat} {h : Hp} {RET : Hp → Prop} (hV : V_X4_clear_0 w sh x0 h RET) : C_X4_clear w sh x0 h RET :=
  Ct_of (by decide +kernel) (by simp [lg_sl, rv_cat, cat_int, cat_long]) (fun E X Tt hR _ => by
    rw [show lv_args 0 [rv w.2.2.2 x0] = [(0, rv w.2.2.2 x0)] from by simp [lv_args, rv_cat, cat_int, cat_long]]
    refine g_lv [0] rfl ?_
    exact W_X4_clear_0 X Tt hR hV)
def V_X2_left_0 (w : Wd) (sh : List Sh) (x0 : Nat) (h : Hp)  (RET : Int32 → Hp → Prop) : Prop :=
  shAt sh x0 = some (.inr 2) ∧ (RET ((h.1 x0 2) - (h.1 x0 1)) h)
set_option maxRecDepth 20000 in
set_option maxHeartbeats 4000000 in
theorem W_X2_left_0 {w : Wd} {E : GE} {sh : List Sh} {x0 : Nat} {h : Hp}  {RET : Int32 → Hp → Prop} (X : Cx w E cX2_left 1 RX2) (Tt : Rt w E (some .int) sh.length 0 0 (fun q sh9 h9 => ∃ v : Int32, q = some (Value.int v) ∧ sh9 = sh ∧ RET v h9)) (hR : gR E = { frames := 0, cells := 0, slots := 0, locals := 0 }) (hV : V_X2_left_0 w sh x0 h RET) : G w E 1 0 [(0, rv w.2.2.2 x0)] [] sh h 0 0 := by
  unfold V_X2_left_0 at hV
  refine g_aload_n (pc := 0) X 0 rfl rfl dX2_left_0 ?_
  obtain ⟨q1, hV⟩ := hV
  refine g_getI (pc := 1) X fl_X2_24 q1 dX2_left_1 ?_
  refine g_aload_n (pc := 4) X 0 rfl rfl dX2_left_4 ?_
  refine g_getI (pc := 5) X fl_X2_20 q1 dX2_left_5 ?_
  refine g_isub (pc := 8) X dX2_left_8 ?_
  exact g_iret (pc := 9) X Tt ⟨_, rfl, rfl, hV⟩ dX2_left_9
def C_X2_left (w : Wd) (sh : List Sh) (x0 : Nat) (h : Hp) (RET : Int32 → Hp → Prop) : Prop := CI w yX2_left (.code yX2_left cX2_left 1 (some .int)) 0 0 [rv w.2.2.2 x0] sh h RET
theorem K_X2_left {w : Wd} {sh : List Sh} {x0 : Nat} {h : Hp} {RET : Int32 → Hp → Prop} (hV : V_X2_left_0 w sh x0 h RET) : C_X2_left w sh x0 h RET :=
  Ct_of (by decide +kernel) (by simp [lg_sl, rv_cat, cat_int, cat_long]) (fun E X Tt hR _ => by
    rw [show lv_args 0 [rv w.2.2.2 x0] = [(0, rv w.2.2.2 x0)] from by simp [lv_args, rv_cat, cat_int, cat_long]]
    refine g_lv [0] rfl ?_
    exact W_X2_left_0 X Tt hR hV)
def V_X2_next_0 (w : Wd) (sh : List Sh) (x0 : Nat) (h : Hp)  (RET : Int32 → Hp → Prop) : Prop :=
  shAt sh x0 = some (.inr 2) ∧ ((((h.1 x0 1) < (h.1 x0 2)) → (shAt sh (h.2.1 x0 0) = some (.inr 8) ∧ (∃ P4 : Int32 → Hp → Prop, C_X8_at w sh (h.2.1 x0 0) (h.1 x0 1) h P4 ∧ (∀ (v8 : Int32) (h7 : Hp), P4 v8 h7 → (∀ y9 : Int32, y9 = v8 → (∀ h11 : Hp, h11 = wI h7 x0 1 ((h7.1 x0 1) + (1 : Int32)) → (RET y9 h11))))))) ∧ ((¬ (h.1 x0 1) < (h.1 x0 2)) → (RET (-1 : Int32) h)))
set_option maxRecDepth 20000 in
set_option maxHeartbeats 4000000 in
theorem W_X2_next_0 {w : Wd} {E : GE} {sh : List Sh} {x0 : Nat} {h : Hp}  {RET : Int32 → Hp → Prop} (X : Cx w E cX2_next 2 RX2) (Tt : Rt w E (some .int) sh.length 0 0 (fun q sh9 h9 => ∃ v : Int32, q = some (Value.int v) ∧ sh9 = sh ∧ RET v h9)) (hR : gR E = { frames := 1, cells := 0, slots := 0, locals := 21 }) (hV : V_X2_next_0 w sh x0 h RET) : G w E 2 0 [(0, rv w.2.2.2 x0)] [] sh h 0 0 := by
  unfold V_X2_next_0 at hV
  refine g_aload_n (pc := 0) X 0 rfl rfl dX2_next_0 ?_
  obtain ⟨q1, hV⟩ := hV
  refine g_getI (pc := 1) X fl_X2_20 q1 dX2_next_1 ?_
  refine g_aload_n (pc := 4) X 0 rfl rfl dX2_next_4 ?_
  refine g_getI (pc := 5) X fl_X2_24 q1 dX2_next_5 ?_
  refine g_icmp_lt (pc := 8) X 13 dX2_next_8 (by decide) (fun c2 => ?_) (fun c2 => ?_)
  · have hV := hV.1 c2
    refine g_aload_n (pc := 13) X 0 rfl rfl dX2_next_13 ?_
    refine g_getR (pc := 14) X fl_X2_14 q1 dX2_next_14 ?_
    refine g_aload_n (pc := 17) X 0 rfl rfl dX2_next_17 ?_
    refine g_getI (pc := 18) X fl_X2_20 q1 dX2_next_18 ?_
    obtain ⟨q3, hV⟩ := hV
    obtain ⟨P4, t5, hV⟩ := hV
    refine g_cVI (pc := 21) X (As := [Value.int (h.1 x0 1)]) ml_X2_27 rfl q3 t5 (by rw [hR]; exact ⟨by decide, by decide, by decide, by decide⟩) rfl rfl (Nat.zero_le _) dX2_next_21 (fun v8 h7 p6 => ?_)
    have hV := hV v8 h7 p6
    refine g_istore_n (pc := 24) X (i := 1) (rest := [(0, rv w.2.2.2 x0)]) rfl (by decide) (by simp [flt1, flt2, rv_cat, cat_int, cat_long]) dX2_next_24 (fun y9 e10 => ?_)
    have hV := hV y9 e10
    refine g_aload_n (pc := 25) X 1 rfl rfl dX2_next_25 ?_
    refine g_dup (pc := 26) X dX2_next_26 (rv_cat _ _) ?_
    refine g_getI (pc := 27) X fl_X2_20 q1 dX2_next_27 ?_
    refine g_iconst (pc := 30) (v := (1 : Int32)) X dX2_next_30 (by decide) ?_
    refine g_iadd (pc := 31) X dX2_next_31 ?_
    refine g_putI (pc := 32) X fl_X2_20 q1 rfl rfl dX2_next_32 (fun h11 e12 => ?_)
    have hV := hV h11 e12
    refine g_iload_n (pc := 35) X 0 rfl rfl dX2_next_35 ?_
    exact g_iret (pc := 36) X Tt ⟨_, rfl, rfl, hV⟩ dX2_next_36
  · have hV := hV.2 c2
    refine g_iconst (pc := 11) (v := (-1 : Int32)) X dX2_next_11 (by decide) ?_
    exact g_iret (pc := 12) X Tt ⟨_, rfl, rfl, hV⟩ dX2_next_12
def C_X2_next (w : Wd) (sh : List Sh) (x0 : Nat) (h : Hp) (RET : Int32 → Hp → Prop) : Prop := CI w yX2_next (.code yX2_next cX2_next 2 (some .int)) 1 21 [rv w.2.2.2 x0] sh h RET
theorem K_X2_next {w : Wd} {sh : List Sh} {x0 : Nat} {h : Hp} {RET : Int32 → Hp → Prop} (hV : V_X2_next_0 w sh x0 h RET) : C_X2_next w sh x0 h RET :=
  Ct_of (by decide +kernel) (by simp [lg_sl, rv_cat, cat_int, cat_long]) (fun E X Tt hR _ => by
    rw [show lv_args 0 [rv w.2.2.2 x0] = [(0, rv w.2.2.2 x0)] from by simp [lv_args, rv_cat, cat_int, cat_long]]
    refine g_lv [0] rfl ?_
    exact W_X2_next_0 X Tt hR hV)
def V_X2_nextBig_4 (w : Wd) (sh : List Sh) (x0 : Nat) (x1 : Int64) (x3 : Int32) (h : Hp) (L4 : Nat → Int64 → Int32 → Hp → Prop) (RET : Int64 → Hp → Prop) : Prop :=
  (((5 : Int32) ≤ x3) → (RET (-1 : Int64) h)) ∧ ((¬ (5 : Int32) ≤ x3) → (shAt sh x0 = some (.inr 2) ∧ ((((h.1 x0 1) < (h.1 x0 2)) → (shAt sh (h.2.1 x0 0) = some (.inr 8) ∧ (∃ P5 : Int32 → Hp → Prop, C_X8_at w sh (h.2.1 x0 0) (h.1 x0 1) h P5 ∧ (∀ (v9 : Int32) (h8 : Hp), P5 v9 h8 → (∀ y10 : Int32, y10 = v9 → (∀ h12 : Hp, h12 = wI h8 x0 1 ((h8.1 x0 1) + (1 : Int32)) → (∀ y14 : Int64, y14 = ((x1 * (128 : Int64)) + ((y10 &&& (127 : Int32)).toInt64)) → ((((128 : Int32) ≤ y10) → (∀ y17 : Int32, y17 = x3 + (1 : Int32) → (L4 x0 y14 y17 h12))) ∧ ((¬ (128 : Int32) ≤ y10) → ((((lg_cmp y14 (4294967295 : Int64)) ≤ 0) → (RET y14 h12)) ∧ ((¬ (lg_cmp y14 (4294967295 : Int64)) ≤ 0) → (RET (-1 : Int64) h12)))))))))))) ∧ ((¬ (h.1 x0 1) < (h.1 x0 2)) → (RET (-2 : Int64) h)))))
set_option maxRecDepth 20000 in
set_option maxHeartbeats 4000000 in
theorem W_X2_nextBig_4 {w : Wd} {E : GE} {sh : List Sh} {x0 : Nat} {x1 : Int64} {x3 : Int32} {h : Hp} {L4 : Nat → Int64 → Int32 → Hp → Prop} {RET : Int64 → Hp → Prop} (X : Cx w E cX2_nextBig 5 RX2) (Tt : Rt w E (some .long) sh.length 0 0 (fun q sh9 h9 => ∃ v : Int64, q = some (Value.long v) ∧ sh9 = sh ∧ RET v h9)) (hR : gR E = { frames := 1, cells := 0, slots := 0, locals := 21 }) (hL4 : ∀ (x0 : Nat) (x1 : Int64) (x3 : Int32) (h : Hp), L4 x0 x1 x3 h → G w E 5 4 [(0, rv w.2.2.2 x0), (1, Value.long x1), (3, Value.int x3)] [] sh h 0 0) (hV : V_X2_nextBig_4 w sh x0 x1 x3 h L4 RET) : G w E 5 4 [(0, rv w.2.2.2 x0), (1, Value.long x1), (3, Value.int x3)] [] sh h 0 0 := by
  unfold V_X2_nextBig_4 at hV
  refine g_iload_n (pc := 4) X 2 rfl rfl dX2_nextBig_4 ?_
  refine g_iconst (pc := 5) (v := (5 : Int32)) X dX2_nextBig_5 (by decide) ?_
  refine g_icmp_ge (pc := 6) X 90 dX2_nextBig_6 (by decide) (fun c1 => ?_) (fun c1 => ?_)
  · have hV := hV.1 c1
    refine g_ldc2 (pc := 90) X kc_X2_36 dX2_nextBig_90 ?_
    exact g_lret (pc := 93) X Tt ⟨_, rfl, rfl, hV⟩ dX2_nextBig_93
  · have hV := hV.2 c1
    refine g_aload_n (pc := 9) X 0 rfl rfl dX2_nextBig_9 ?_
    obtain ⟨q2, hV⟩ := hV
    refine g_getI (pc := 10) X fl_X2_20 q2 dX2_nextBig_10 ?_
    refine g_aload_n (pc := 13) X 0 rfl rfl dX2_nextBig_13 ?_
    refine g_getI (pc := 14) X fl_X2_24 q2 dX2_nextBig_14 ?_
    refine g_icmp_lt (pc := 17) X 24 dX2_nextBig_17 (by decide) (fun c3 => ?_) (fun c3 => ?_)
    · have hV := hV.1 c3
      refine g_aload_n (pc := 24) X 0 rfl rfl dX2_nextBig_24 ?_
      refine g_getR (pc := 25) X fl_X2_14 q2 dX2_nextBig_25 ?_
      refine g_aload_n (pc := 28) X 0 rfl rfl dX2_nextBig_28 ?_
      refine g_getI (pc := 29) X fl_X2_20 q2 dX2_nextBig_29 ?_
      obtain ⟨q4, hV⟩ := hV
      obtain ⟨P5, t6, hV⟩ := hV
      refine g_cVI (pc := 32) X (As := [Value.int (h.1 x0 1)]) ml_X2_27 rfl q4 t6 (by rw [hR]; exact ⟨by decide, by decide, by decide, by decide⟩) rfl rfl (Nat.zero_le _) dX2_nextBig_32 (fun v9 h8 p7 => ?_)
      have hV := hV v9 h8 p7
      refine g_istore (pc := 35) X (i := 4) (rest := [(0, rv w.2.2.2 x0), (1, Value.long x1), (3, Value.int x3)]) (by decide) rfl dX2_nextBig_35 (fun y10 e11 => ?_)
      have hV := hV y10 e11
      refine g_aload_n (pc := 37) X 1 rfl rfl dX2_nextBig_37 ?_
      refine g_dup (pc := 38) X dX2_nextBig_38 (rv_cat _ _) ?_
      refine g_getI (pc := 39) X fl_X2_20 q2 dX2_nextBig_39 ?_
      refine g_iconst (pc := 42) (v := (1 : Int32)) X dX2_nextBig_42 (by decide) ?_
      refine g_iadd (pc := 43) X dX2_nextBig_43 ?_
      refine g_putI (pc := 44) X fl_X2_20 q2 rfl rfl dX2_nextBig_44 (fun h12 e13 => ?_)
      have hV := hV h12 e13
      refine g_lload_n (pc := 47) X 2 rfl rfl dX2_nextBig_47 ?_
      refine g_ldc2 (pc := 48) X kc_X2_32 dX2_nextBig_48 ?_
      refine g_lmul (pc := 51) X dX2_nextBig_51 ?_
      refine g_iload (pc := 52) X 0 rfl dX2_nextBig_52 ?_
      refine g_bipush (pc := 54) (v := (127 : Int32)) X dX2_nextBig_54 (by decide) ?_
      refine g_iand (pc := 56) X dX2_nextBig_56 ?_
      refine g_i2l (pc := 57) X dX2_nextBig_57 ?_
      refine g_ladd (pc := 58) X dX2_nextBig_58 ?_
      refine g_lstore_n (pc := 59) X (i := 1) (rest := [(4, Value.int y10), (0, rv w.2.2.2 x0), (3, Value.int x3)]) rfl (by decide) (by simp [flt1, flt2, rv_cat, cat_int, cat_long]) dX2_nextBig_59 (fun y14 e15 => ?_)
      have hV := hV y14 e15
      refine g_iload (pc := 60) X 1 rfl dX2_nextBig_60 ?_
      refine g_sipush (pc := 62) (v := (128 : Int32)) X dX2_nextBig_62 (by decide) ?_
      refine g_icmp_ge (pc := 65) X 84 dX2_nextBig_65 (by decide) (fun c16 => ?_) (fun c16 => ?_)
      · have hV := hV.1 c16
        refine g_iinc (pc := 84) X 3 (v := (1 : Int32)) (rest := [(1, Value.long y14), (4, Value.int y10), (0, rv w.2.2.2 x0)]) rfl (by decide) rfl (by decide) dX2_nextBig_84 (fun y17 e18 => ?_)
        have hV := hV y17 e18
        refine g_goto (pc := 87) X 4 dX2_nextBig_87 (by decide) ?_
        refine g_lv [3, 1, 0] rfl ?_
        exact hL4 x0 y14 y17 h12 hV
      · have hV := hV.2 c16
        refine g_lload_n (pc := 68) X 0 rfl rfl dX2_nextBig_68 ?_
        refine g_ldc2 (pc := 69) X kc_X2_34 dX2_nextBig_69 ?_
        refine g_lcmp (pc := 72) X dX2_nextBig_72 ?_
        refine g_if_le (pc := 73) X 82 dX2_nextBig_73 (by decide) (fun c19 => ?_) (fun c19 => ?_)
        · have hV := hV.1 c19
          refine g_lload_n (pc := 82) X 0 rfl rfl dX2_nextBig_82 ?_
          exact g_lret (pc := 83) X Tt ⟨_, rfl, rfl, hV⟩ dX2_nextBig_83
        · have hV := hV.2 c19
          refine g_ldc2 (pc := 76) X kc_X2_36 dX2_nextBig_76 ?_
          refine g_goto (pc := 79) X 83 dX2_nextBig_79 (by decide) ?_
          exact g_lret (pc := 83) X Tt ⟨_, rfl, rfl, hV⟩ dX2_nextBig_83
    · have hV := hV.2 c3
      refine g_ldc2 (pc := 20) X kc_X2_30 dX2_nextBig_20 ?_
      exact g_lret (pc := 23) X Tt ⟨_, rfl, rfl, hV⟩ dX2_nextBig_23
def V_X2_nextBig_0 (w : Wd) (sh : List Sh) (x0 : Nat) (h : Hp) (L4 : Nat → Int64 → Int32 → Hp → Prop) (RET : Int64 → Hp → Prop) : Prop :=
  ∀ y1 : Int64, y1 = (0 : Int64) → (∀ y3 : Int32, y3 = (0 : Int32) → (L4 x0 y1 y3 h))
set_option maxRecDepth 20000 in
set_option maxHeartbeats 4000000 in
theorem W_X2_nextBig_0 {w : Wd} {E : GE} {sh : List Sh} {x0 : Nat} {h : Hp} {L4 : Nat → Int64 → Int32 → Hp → Prop} {RET : Int64 → Hp → Prop} (X : Cx w E cX2_nextBig 5 RX2) (Tt : Rt w E (some .long) sh.length 0 0 (fun q sh9 h9 => ∃ v : Int64, q = some (Value.long v) ∧ sh9 = sh ∧ RET v h9)) (hR : gR E = { frames := 1, cells := 0, slots := 0, locals := 21 }) (hL4 : ∀ (x0 : Nat) (x1 : Int64) (x3 : Int32) (h : Hp), L4 x0 x1 x3 h → G w E 5 4 [(0, rv w.2.2.2 x0), (1, Value.long x1), (3, Value.int x3)] [] sh h 0 0) (hV : V_X2_nextBig_0 w sh x0 h L4 RET) : G w E 5 0 [(0, rv w.2.2.2 x0)] [] sh h 0 0 := by
  unfold V_X2_nextBig_0 at hV
  refine g_lconst (pc := 0) (v := (0 : Int64)) X dX2_nextBig_0 (by decide) ?_
  refine g_lstore_n (pc := 1) X (i := 1) (rest := [(0, rv w.2.2.2 x0)]) rfl (by decide) (by simp [flt1, flt2, rv_cat, cat_int, cat_long]) dX2_nextBig_1 (fun y1 e2 => ?_)
  have hV := hV y1 e2
  refine g_iconst (pc := 2) (v := (0 : Int32)) X dX2_nextBig_2 (by decide) ?_
  refine g_istore_n (pc := 3) X (i := 3) (rest := [(1, Value.long y1), (0, rv w.2.2.2 x0)]) rfl (by decide) rfl dX2_nextBig_3 (fun y3 e4 => ?_)
  have hV := hV y3 e4
  refine g_lv [2, 1, 0] rfl ?_
  exact hL4 x0 y1 y3 h hV
def C_X2_nextBig (w : Wd) (sh : List Sh) (x0 : Nat) (h : Hp) (RET : Int64 → Hp → Prop) : Prop := CJ w yX2_nextBig (.code yX2_nextBig cX2_nextBig 5 (some .long)) 1 21 [rv w.2.2.2 x0] sh h RET
set_option maxRecDepth 20000 in
theorem K_X2_nextBig {w : Wd} {sh : List Sh} {x0 : Nat} {h : Hp} {RET : Int64 → Hp → Prop} {α : Type} {r : α → α → Prop} (wf : WellFounded r) (I4 : α → Nat → Int64 → Int32 → Hp → Prop) (hE : V_X2_nextBig_0 w sh x0 h (fun x0 x1 x3 h => ∃ a, I4 a x0 x1 x3 h) RET) (h4 : ∀ (b : α) (x0 : Nat) (x1 : Int64) (x3 : Int32) (h : Hp), I4 b x0 x1 x3 h → V_X2_nextBig_4 w sh x0 x1 x3 h (fun x0 x1 x3 h => ∃ a, r a b ∧ I4 a x0 x1 x3 h) RET) : C_X2_nextBig w sh x0 h RET :=
  Ct_of (by decide +kernel) (by simp [lg_sl, rv_cat, cat_int, cat_long]) (fun E X Tt hR _ => by
    have key : ∀ a : α, (∀ (x0 : Nat) (x1 : Int64) (x3 : Int32) (h : Hp), I4 a x0 x1 x3 h → G w E 5 4 [(0, rv w.2.2.2 x0), (1, Value.long x1), (3, Value.int x3)] [] sh h 0 0) := by
      intro a
      induction a using wf.induction with
      | _ a ih =>
        exact (fun x0 x1 x3 h hi => W_X2_nextBig_4 X Tt hR (fun x0 x1 x3 h hx => by obtain ⟨a2, ha, hi⟩ := hx; exact (ih a2 ha) x0 x1 x3 h hi) (h4 a x0 x1 x3 h hi))
    rw [show lv_args 0 [rv w.2.2.2 x0] = [(0, rv w.2.2.2 x0)] from by simp [lv_args, rv_cat, cat_int, cat_long]]
    refine g_lv [0] rfl ?_
    exact W_X2_nextBig_0 X Tt hR (fun x0 x1 x3 h hx => by obtain ⟨a2, hi⟩ := hx; exact (key a2) x0 x1 x3 h hi) hE)
def V_X4_count_0 (w : Wd) (sh : List Sh) (x0 : Nat) (x1 : Int32) (x2 : Int32) (h : Hp)  (RET : Hp → Prop) : Prop :=
  ((x1 < 0) → (RET h)) ∧ ((¬ x1 < 0) → ((((8 : Int32) ≤ x1) → (RET h)) ∧ ((¬ (8 : Int32) ≤ x1) → (shAt sh x0 = some (.inr 4) ∧ (∃ n5 : Nat, shAt sh (h.2.1 x0 0) = some (.inl (1, n5)) ∧ (vp_in x1 n5 ∧ (vp_in x1 n5 ∧ (∀ h8 : Hp, h8 = wI h (h.2.1 x0 0) x1.toNatClampNeg ((h.1 (h.2.1 x0 0) x1.toNatClampNeg) + x2) → (RET h8)))))))))
set_option maxRecDepth 20000 in
set_option maxHeartbeats 4000000 in
theorem W_X4_count_0 {w : Wd} {E : GE} {sh : List Sh} {x0 : Nat} {x1 : Int32} {x2 : Int32} {h : Hp}  {RET : Hp → Prop} (X : Cx w E cX4_count 3 RX4) (Tt : Rt w E none sh.length 0 0 (fun q sh9 h9 => q = none ∧ sh9 = sh ∧ RET h9)) (hR : gR E = { frames := 0, cells := 0, slots := 0, locals := 0 }) (hV : V_X4_count_0 w sh x0 x1 x2 h RET) : G w E 3 0 [(0, rv w.2.2.2 x0), (1, Value.int x1), (2, Value.int x2)] [] sh h 0 0 := by
  unfold V_X4_count_0 at hV
  refine g_iload_n (pc := 0) X 1 rfl rfl dX4_count_0 ?_
  refine g_if_lt (pc := 1) X 20 dX4_count_1 (by decide) (fun c1 => ?_) (fun c1 => ?_)
  · have hV := hV.1 c1
    exact g_vret (pc := 20) X Tt ⟨rfl, rfl, hV⟩ dX4_count_20
  · have hV := hV.2 c1
    refine g_iload_n (pc := 4) X 1 rfl rfl dX4_count_4 ?_
    refine g_bipush (pc := 5) (v := (8 : Int32)) X dX4_count_5 (by decide) ?_
    refine g_icmp_ge (pc := 7) X 20 dX4_count_7 (by decide) (fun c2 => ?_) (fun c2 => ?_)
    · have hV := hV.1 c2
      exact g_vret (pc := 20) X Tt ⟨rfl, rfl, hV⟩ dX4_count_20
    · have hV := hV.2 c2
      refine g_aload_n (pc := 10) X 0 rfl rfl dX4_count_10 ?_
      obtain ⟨q3, hV⟩ := hV
      refine g_getR (pc := 11) X fl_X4_9 q3 dX4_count_11 ?_
      refine g_iload_n (pc := 14) X 1 rfl rfl dX4_count_14 ?_
      refine g_dup2_11 (pc := 15) X dX4_count_15 (rfl) (rv_cat _ _) ?_
      obtain ⟨n5, q4, hV⟩ := hV
      obtain ⟨q6, hV⟩ := hV
      refine g_iald (pc := 16) X q4 q6 dX4_count_16 ?_
      refine g_iload_n (pc := 17) X 2 rfl rfl dX4_count_17 ?_
      refine g_iadd (pc := 18) X dX4_count_18 ?_
      obtain ⟨q7, hV⟩ := hV
      refine g_iast (pc := 19) X q4 q7 dX4_count_19 (fun h8 e9 => ?_)
      have hV := hV h8 e9
      exact g_vret (pc := 20) X Tt ⟨rfl, rfl, hV⟩ dX4_count_20
def C_X4_count (w : Wd) (sh : List Sh) (x0 : Nat) (x1 : Int32) (x2 : Int32) (h : Hp) (RET : Hp → Prop) : Prop := CV w yX4_count (.code yX4_count cX4_count 3 none) 0 0 [rv w.2.2.2 x0, Value.int x1, Value.int x2] sh h RET
theorem K_X4_count {w : Wd} {sh : List Sh} {x0 : Nat} {x1 : Int32} {x2 : Int32} {h : Hp} {RET : Hp → Prop} (hV : V_X4_count_0 w sh x0 x1 x2 h RET) : C_X4_count w sh x0 x1 x2 h RET :=
  Ct_of (by decide +kernel) (by simp [lg_sl, rv_cat, cat_int, cat_long]) (fun E X Tt hR _ => by
    rw [show lv_args 0 [rv w.2.2.2 x0, Value.int x1, Value.int x2] = [(0, rv w.2.2.2 x0), (1, Value.int x1), (2, Value.int x2)] from by simp [lv_args, rv_cat, cat_int, cat_long]]
    refine g_lv [0, 1, 2] rfl ?_
    exact W_X4_count_0 X Tt hR hV)
def V_X2_pass_0 (w : Wd) (sh : List Sh) (x0 : Nat) (x1 : Int32) (h : Hp)  (RET : Hp → Prop) : Prop :=
  shAt sh x0 = some (.inr 2) ∧ (∀ h2 : Hp, h2 = wI h x0 1 ((h.1 x0 1) + x1) → (RET h2))
set_option maxRecDepth 20000 in
set_option maxHeartbeats 4000000 in
theorem W_X2_pass_0 {w : Wd} {E : GE} {sh : List Sh} {x0 : Nat} {x1 : Int32} {h : Hp}  {RET : Hp → Prop} (X : Cx w E cX2_pass 2 RX2) (Tt : Rt w E none sh.length 0 0 (fun q sh9 h9 => q = none ∧ sh9 = sh ∧ RET h9)) (hR : gR E = { frames := 0, cells := 0, slots := 0, locals := 0 }) (hV : V_X2_pass_0 w sh x0 x1 h RET) : G w E 2 0 [(0, rv w.2.2.2 x0), (1, Value.int x1)] [] sh h 0 0 := by
  unfold V_X2_pass_0 at hV
  refine g_aload_n (pc := 0) X 0 rfl rfl dX2_pass_0 ?_
  refine g_dup (pc := 1) X dX2_pass_1 (rv_cat _ _) ?_
  obtain ⟨q1, hV⟩ := hV
  refine g_getI (pc := 2) X fl_X2_20 q1 dX2_pass_2 ?_
  refine g_iload_n (pc := 5) X 1 rfl rfl dX2_pass_5 ?_
  refine g_iadd (pc := 6) X dX2_pass_6 ?_
  refine g_putI (pc := 7) X fl_X2_20 q1 rfl rfl dX2_pass_7 (fun h2 e3 => ?_)
  have hV := hV h2 e3
  exact g_vret (pc := 10) X Tt ⟨rfl, rfl, hV⟩ dX2_pass_10
def C_X2_pass (w : Wd) (sh : List Sh) (x0 : Nat) (x1 : Int32) (h : Hp) (RET : Hp → Prop) : Prop := CV w yX2_pass (.code yX2_pass cX2_pass 2 none) 0 0 [rv w.2.2.2 x0, Value.int x1] sh h RET
theorem K_X2_pass {w : Wd} {sh : List Sh} {x0 : Nat} {x1 : Int32} {h : Hp} {RET : Hp → Prop} (hV : V_X2_pass_0 w sh x0 x1 h RET) : C_X2_pass w sh x0 x1 h RET :=
  Ct_of (by decide +kernel) (by simp [lg_sl, rv_cat, cat_int, cat_long]) (fun E X Tt hR _ => by
    rw [show lv_args 0 [rv w.2.2.2 x0, Value.int x1] = [(0, rv w.2.2.2 x0), (1, Value.int x1)] from by simp [lv_args, rv_cat, cat_int, cat_long]]
    refine g_lv [0, 1] rfl ?_
    exact W_X2_pass_0 X Tt hR hV)
def V_X9_lay_0 (w : Wd) (sh : List Sh) (x0 : Nat) (x1 : Nat) (x2 : Int32) (x3 : Int32) (x4 : Nat) (h : Hp)  (RET : Hp → Prop) : Prop :=
  shAt sh x0 = some (.inr 9) ∧ (∀ h2 : Hp, h2 = wR h x0 0 x1 → (∀ h4 : Hp, h4 = wI h2 x0 1 x2 → (∀ h6 : Hp, h6 = wI h4 x0 2 x3 → (∀ h8 : Hp, h8 = wR h6 x0 3 x4 → (shAt sh x4 = some (.inr 8) ∧ (∃ P11 : Int32 → Hp → Prop, C_X8_length w sh x4 h8 P11 ∧ (∀ (v15 : Int32) (h14 : Hp), P11 v15 h14 → (∀ h16 : Hp, h16 = wI h14 x0 4 v15 → (RET h16)))))))))
set_option maxRecDepth 20000 in
set_option maxHeartbeats 4000000 in
theorem W_X9_lay_0 {w : Wd} {E : GE} {sh : List Sh} {x0 : Nat} {x1 : Nat} {x2 : Int32} {x3 : Int32} {x4 : Nat} {h : Hp}  {RET : Hp → Prop} (X : Cx w E cX9_lay 5 RX9) (Tt : Rt w E none sh.length 0 0 (fun q sh9 h9 => q = none ∧ sh9 = sh ∧ RET h9)) (hR : gR E = { frames := 1, cells := 0, slots := 0, locals := 20 }) (hV : V_X9_lay_0 w sh x0 x1 x2 x3 x4 h RET) : G w E 5 0 [(0, rv w.2.2.2 x0), (1, rv w.2.2.2 x1), (2, Value.int x2), (3, Value.int x3), (4, rv w.2.2.2 x4)] [] sh h 0 0 := by
  unfold V_X9_lay_0 at hV
  refine g_aload_n (pc := 0) X 0 rfl rfl dX9_lay_0 ?_
  refine g_aload_n (pc := 1) X 1 rfl rfl dX9_lay_1 ?_
  obtain ⟨q1, hV⟩ := hV
  refine g_putR (pc := 2) X fl_X9_12 q1 rfl dX9_lay_2 (fun h2 e3 => ?_)
  have hV := hV h2 e3
  refine g_aload_n (pc := 5) X 0 rfl rfl dX9_lay_5 ?_
  refine g_iload_n (pc := 6) X 2 rfl rfl dX9_lay_6 ?_
  refine g_putI (pc := 7) X fl_X9_21 q1 rfl rfl dX9_lay_7 (fun h4 e5 => ?_)
  have hV := hV h4 e5
  refine g_aload_n (pc := 10) X 0 rfl rfl dX9_lay_10 ?_
  refine g_iload_n (pc := 11) X 3 rfl rfl dX9_lay_11 ?_
  refine g_putI (pc := 12) X fl_X9_25 q1 rfl rfl dX9_lay_12 (fun h6 e7 => ?_)
  have hV := hV h6 e7
  refine g_aload_n (pc := 15) X 0 rfl rfl dX9_lay_15 ?_
  refine g_aload (pc := 16) X 4 rfl dX9_lay_16 ?_
  refine g_putR (pc := 18) X fl_X9_18 q1 rfl dX9_lay_18 (fun h8 e9 => ?_)
  have hV := hV h8 e9
  refine g_aload_n (pc := 21) X 0 rfl rfl dX9_lay_21 ?_
  refine g_aload (pc := 22) X 4 rfl dX9_lay_22 ?_
  obtain ⟨q10, hV⟩ := hV
  obtain ⟨P11, t12, hV⟩ := hV
  refine g_cVI (pc := 24) X (As := []) ml_X9_28 rfl q10 t12 (by rw [hR]; exact ⟨by decide, by decide, by decide, by decide⟩) rfl rfl (by simp [rv_cat, cat_int, cat_long]) dX9_lay_24 (fun v15 h14 p13 => ?_)
  have hV := hV v15 h14 p13
  refine g_putI (pc := 27) X fl_X9_32 q1 rfl rfl dX9_lay_27 (fun h16 e17 => ?_)
  have hV := hV h16 e17
  exact g_vret (pc := 30) X Tt ⟨rfl, rfl, hV⟩ dX9_lay_30
def C_X9_lay (w : Wd) (sh : List Sh) (x0 : Nat) (x1 : Nat) (x2 : Int32) (x3 : Int32) (x4 : Nat) (h : Hp) (RET : Hp → Prop) : Prop := CV w yX9_lay (.code yX9_lay cX9_lay 5 none) 1 20 [rv w.2.2.2 x0, rv w.2.2.2 x1, Value.int x2, Value.int x3, rv w.2.2.2 x4] sh h RET
theorem K_X9_lay {w : Wd} {sh : List Sh} {x0 : Nat} {x1 : Nat} {x2 : Int32} {x3 : Int32} {x4 : Nat} {h : Hp} {RET : Hp → Prop} (hV : V_X9_lay_0 w sh x0 x1 x2 x3 x4 h RET) : C_X9_lay w sh x0 x1 x2 x3 x4 h RET :=
  Ct_of (by decide +kernel) (by simp [lg_sl, rv_cat, cat_int, cat_long]) (fun E X Tt hR _ => by
    rw [show lv_args 0 [rv w.2.2.2 x0, rv w.2.2.2 x1, Value.int x2, Value.int x3, rv w.2.2.2 x4] = [(0, rv w.2.2.2 x0), (1, rv w.2.2.2 x1), (2, Value.int x2), (3, Value.int x3), (4, rv w.2.2.2 x4)] from by simp [lv_args, rv_cat, cat_int, cat_long]]
    refine g_lv [0, 1, 2, 3, 4] rfl ?_
    exact W_X9_lay_0 X Tt hR hV)
def V_X9_targetLength_0 (w : Wd) (sh : List Sh) (x0 : Nat) (h : Hp)  (RET : Int32 → Hp → Prop) : Prop :=
  shAt sh x0 = some (.inr 9) ∧ (shAt sh (h.2.1 x0 3) = some (.inr 8) ∧ (∃ P3 : Int32 → Hp → Prop, C_X8_length w sh (h.2.1 x0 3) h P3 ∧ (∀ (v7 : Int32) (h6 : Hp), P3 v7 h6 → (RET (v7 - (h6.1 x0 4)) h6))))
set_option maxRecDepth 20000 in
set_option maxHeartbeats 4000000 in
theorem W_X9_targetLength_0 {w : Wd} {E : GE} {sh : List Sh} {x0 : Nat} {h : Hp}  {RET : Int32 → Hp → Prop} (X : Cx w E cX9_targetLength 1 RX9) (Tt : Rt w E (some .int) sh.length 0 0 (fun q sh9 h9 => ∃ v : Int32, q = some (Value.int v) ∧ sh9 = sh ∧ RET v h9)) (hR : gR E = { frames := 1, cells := 0, slots := 0, locals := 20 }) (hV : V_X9_targetLength_0 w sh x0 h RET) : G w E 1 0 [(0, rv w.2.2.2 x0)] [] sh h 0 0 := by
  unfold V_X9_targetLength_0 at hV
  refine g_aload_n (pc := 0) X 0 rfl rfl dX9_targetLength_0 ?_
  obtain ⟨q1, hV⟩ := hV
  refine g_getR (pc := 1) X fl_X9_18 q1 dX9_targetLength_1 ?_
  obtain ⟨q2, hV⟩ := hV
  obtain ⟨P3, t4, hV⟩ := hV
  refine g_cVI (pc := 4) X (As := []) ml_X9_28 rfl q2 t4 (by rw [hR]; exact ⟨by decide, by decide, by decide, by decide⟩) rfl rfl (Nat.zero_le _) dX9_targetLength_4 (fun v7 h6 p5 => ?_)
  have hV := hV v7 h6 p5
  refine g_aload_n (pc := 7) X 0 rfl rfl dX9_targetLength_7 ?_
  refine g_getI (pc := 8) X fl_X9_32 q1 dX9_targetLength_8 ?_
  refine g_isub (pc := 11) X dX9_targetLength_11 ?_
  exact g_iret (pc := 12) X Tt ⟨_, rfl, rfl, hV⟩ dX9_targetLength_12
def C_X9_targetLength (w : Wd) (sh : List Sh) (x0 : Nat) (h : Hp) (RET : Int32 → Hp → Prop) : Prop := CI w yX9_targetLength (.code yX9_targetLength cX9_targetLength 1 (some .int)) 1 20 [rv w.2.2.2 x0] sh h RET
theorem K_X9_targetLength {w : Wd} {sh : List Sh} {x0 : Nat} {h : Hp} {RET : Int32 → Hp → Prop} (hV : V_X9_targetLength_0 w sh x0 h RET) : C_X9_targetLength w sh x0 h RET :=
  Ct_of (by decide +kernel) (by simp [lg_sl, rv_cat, cat_int, cat_long]) (fun E X Tt hR _ => by
    rw [show lv_args 0 [rv w.2.2.2 x0] = [(0, rv w.2.2.2 x0)] from by simp [lv_args, rv_cat, cat_int, cat_long]]
    refine g_lv [0] rfl ?_
    exact W_X9_targetLength_0 X Tt hR hV)
def V_X9_here_0 (w : Wd) (sh : List Sh) (x0 : Nat) (h : Hp)  (RET : Int32 → Hp → Prop) : Prop :=
  shAt sh x0 = some (.inr 9) ∧ (∃ P2 : Int32 → Hp → Prop, C_X9_targetLength w sh x0 h P2 ∧ (∀ (v6 : Int32) (h5 : Hp), P2 v6 h5 → (RET ((h.1 x0 2) + v6) h5)))
set_option maxRecDepth 20000 in
set_option maxHeartbeats 4000000 in
theorem W_X9_here_0 {w : Wd} {E : GE} {sh : List Sh} {x0 : Nat} {h : Hp}  {RET : Int32 → Hp → Prop} (X : Cx w E cX9_here 1 RX9) (Tt : Rt w E (some .int) sh.length 0 0 (fun q sh9 h9 => ∃ v : Int32, q = some (Value.int v) ∧ sh9 = sh ∧ RET v h9)) (hR : gR E = { frames := 2, cells := 0, slots := 0, locals := 40 }) (hV : V_X9_here_0 w sh x0 h RET) : G w E 1 0 [(0, rv w.2.2.2 x0)] [] sh h 0 0 := by
  unfold V_X9_here_0 at hV
  refine g_aload_n (pc := 0) X 0 rfl rfl dX9_here_0 ?_
  obtain ⟨q1, hV⟩ := hV
  refine g_getI (pc := 1) X fl_X9_25 q1 dX9_here_1 ?_
  refine g_aload_n (pc := 4) X 0 rfl rfl dX9_here_4 ?_
  obtain ⟨P2, t3, hV⟩ := hV
  refine g_cVI (pc := 5) X (As := []) ml_X9_35 rfl q1 t3 (by rw [hR]; exact ⟨by decide, by decide, by decide, by decide⟩) rfl rfl (Nat.le_of_ble_eq_true rfl) dX9_here_5 (fun v6 h5 p4 => ?_)
  have hV := hV v6 h5 p4
  refine g_iadd (pc := 8) X dX9_here_8 ?_
  exact g_iret (pc := 9) X Tt ⟨_, rfl, rfl, hV⟩ dX9_here_9
def C_X9_here (w : Wd) (sh : List Sh) (x0 : Nat) (h : Hp) (RET : Int32 → Hp → Prop) : Prop := CI w yX9_here (.code yX9_here cX9_here 1 (some .int)) 2 40 [rv w.2.2.2 x0] sh h RET
theorem K_X9_here {w : Wd} {sh : List Sh} {x0 : Nat} {h : Hp} {RET : Int32 → Hp → Prop} (hV : V_X9_here_0 w sh x0 h RET) : C_X9_here w sh x0 h RET :=
  Ct_of (by decide +kernel) (by simp [lg_sl, rv_cat, cat_int, cat_long]) (fun E X Tt hR _ => by
    rw [show lv_args 0 [rv w.2.2.2 x0] = [(0, rv w.2.2.2 x0)] from by simp [lv_args, rv_cat, cat_int, cat_long]]
    refine g_lv [0] rfl ?_
    exact W_X9_here_0 X Tt hR hV)
def V_X9_at_0 (w : Wd) (sh : List Sh) (x0 : Nat) (x1 : Int32) (h : Hp)  (RET : Int32 → Hp → Prop) : Prop :=
  shAt sh x0 = some (.inr 9) ∧ ((((h.1 x0 2) ≤ x1) → (shAt sh (h.2.1 x0 3) = some (.inr 8) ∧ (∃ P4 : Int32 → Hp → Prop, C_X8_at w sh (h.2.1 x0 3) (((h.1 x0 4) + x1) - (h.1 x0 2)) h P4 ∧ (∀ (v8 : Int32) (h7 : Hp), P4 v8 h7 → (RET v8 h7))))) ∧ ((¬ (h.1 x0 2) ≤ x1) → (shAt sh (h.2.1 x0 0) = some (.inr 8) ∧ (∃ P10 : Int32 → Hp → Prop, C_X8_at w sh (h.2.1 x0 0) ((h.1 x0 1) + x1) h P10 ∧ (∀ (v14 : Int32) (h13 : Hp), P10 v14 h13 → (RET v14 h13))))))
set_option maxRecDepth 20000 in
set_option maxHeartbeats 4000000 in
theorem W_X9_at_0 {w : Wd} {E : GE} {sh : List Sh} {x0 : Nat} {x1 : Int32} {h : Hp}  {RET : Int32 → Hp → Prop} (X : Cx w E cX9_at 2 RX9) (Tt : Rt w E (some .int) sh.length 0 0 (fun q sh9 h9 => ∃ v : Int32, q = some (Value.int v) ∧ sh9 = sh ∧ RET v h9)) (hR : gR E = { frames := 1, cells := 0, slots := 0, locals := 21 }) (hV : V_X9_at_0 w sh x0 x1 h RET) : G w E 2 0 [(0, rv w.2.2.2 x0), (1, Value.int x1)] [] sh h 0 0 := by
  unfold V_X9_at_0 at hV
  refine g_iload_n (pc := 0) X 1 rfl rfl dX9_at_0 ?_
  refine g_aload_n (pc := 1) X 0 rfl rfl dX9_at_1 ?_
  obtain ⟨q1, hV⟩ := hV
  refine g_getI (pc := 2) X fl_X9_25 q1 dX9_at_2 ?_
  refine g_icmp_ge (pc := 5) X 24 dX9_at_5 (by decide) (fun c2 => ?_) (fun c2 => ?_)
  · have hV := hV.1 c2
    refine g_aload_n (pc := 24) X 0 rfl rfl dX9_at_24 ?_
    refine g_getR (pc := 25) X fl_X9_18 q1 dX9_at_25 ?_
    refine g_aload_n (pc := 28) X 0 rfl rfl dX9_at_28 ?_
    refine g_getI (pc := 29) X fl_X9_32 q1 dX9_at_29 ?_
    refine g_iload_n (pc := 32) X 1 rfl rfl dX9_at_32 ?_
    refine g_iadd (pc := 33) X dX9_at_33 ?_
    refine g_aload_n (pc := 34) X 0 rfl rfl dX9_at_34 ?_
    refine g_getI (pc := 35) X fl_X9_25 q1 dX9_at_35 ?_
    refine g_isub (pc := 38) X dX9_at_38 ?_
    obtain ⟨q3, hV⟩ := hV
    obtain ⟨P4, t5, hV⟩ := hV
    refine g_cVI (pc := 39) X (As := [Value.int (((h.1 x0 4) + x1) - (h.1 x0 2))]) ml_X9_38 rfl q3 t5 (by rw [hR]; exact ⟨by decide, by decide, by decide, by decide⟩) rfl rfl (Nat.zero_le _) dX9_at_39 (fun v8 h7 p6 => ?_)
    have hV := hV v8 h7 p6
    exact g_iret (pc := 42) X Tt ⟨_, rfl, rfl, hV⟩ dX9_at_42
  · have hV := hV.2 c2
    refine g_aload_n (pc := 8) X 0 rfl rfl dX9_at_8 ?_
    refine g_getR (pc := 9) X fl_X9_12 q1 dX9_at_9 ?_
    refine g_aload_n (pc := 12) X 0 rfl rfl dX9_at_12 ?_
    refine g_getI (pc := 13) X fl_X9_21 q1 dX9_at_13 ?_
    refine g_iload_n (pc := 16) X 1 rfl rfl dX9_at_16 ?_
    refine g_iadd (pc := 17) X dX9_at_17 ?_
    obtain ⟨q9, hV⟩ := hV
    obtain ⟨P10, t11, hV⟩ := hV
    refine g_cVI (pc := 18) X (As := [Value.int ((h.1 x0 1) + x1)]) ml_X9_38 rfl q9 t11 (by rw [hR]; exact ⟨by decide, by decide, by decide, by decide⟩) rfl rfl (Nat.zero_le _) dX9_at_18 (fun v14 h13 p12 => ?_)
    have hV := hV v14 h13 p12
    refine g_goto (pc := 21) X 42 dX9_at_21 (by decide) ?_
    exact g_iret (pc := 42) X Tt ⟨_, rfl, rfl, hV⟩ dX9_at_42
def C_X9_at (w : Wd) (sh : List Sh) (x0 : Nat) (x1 : Int32) (h : Hp) (RET : Int32 → Hp → Prop) : Prop := CI w yX9_at (.code yX9_at cX9_at 2 (some .int)) 1 21 [rv w.2.2.2 x0, Value.int x1] sh h RET
theorem K_X9_at {w : Wd} {sh : List Sh} {x0 : Nat} {x1 : Int32} {h : Hp} {RET : Int32 → Hp → Prop} (hV : V_X9_at_0 w sh x0 x1 h RET) : C_X9_at w sh x0 x1 h RET :=
  Ct_of (by decide +kernel) (by simp [lg_sl, rv_cat, cat_int, cat_long]) (fun E X Tt hR _ => by
    rw [show lv_args 0 [rv w.2.2.2 x0, Value.int x1] = [(0, rv w.2.2.2 x0), (1, Value.int x1)] from by simp [lv_args, rv_cat, cat_int, cat_long]]
    refine g_lv [0, 1] rfl ?_
    exact W_X9_at_0 X Tt hR hV)
def V_X4_through_0 (w : Wd) (sh : List Sh) (x0 : Nat) (x1 : Int32) (x2 : Int32) (x3 : Int32) (x4 : Int32) (h : Hp)  (RET : Hp → Prop) : Prop :=
  shAt sh x0 = some (.inr 4) ∧ (∃ P2 : Hp → Prop, C_X4_count w sh x0 x1 (1 : Int32) h P2 ∧ (∀ h5 : Hp, P2 h5 → (∃ P6 : Hp → Prop, C_X4_count w sh x0 (5 : Int32) x2 h5 P6 ∧ (∀ h9 : Hp, P6 h9 → (∀ y10 : Int32, y10 = ((h9.1 x0 2) * (4 : Int32)) → (∃ n13 : Nat, shAt sh (h9.2.1 x0 1) = some (.inl (1, n13)) ∧ ((((Int32.ofNat n13) < (y10 + (4 : Int32))) → (RET h9)) ∧ ((¬ (Int32.ofNat n13) < (y10 + (4 : Int32))) → (vp_in y10 n13 ∧ (∀ h16 : Hp, h16 = wI h9 (h9.2.1 x0 1) y10.toNatClampNeg x1 → (vp_in (y10 + (1 : Int32)) n13 ∧ (∀ h19 : Hp, h19 = wI h16 (h9.2.1 x0 1) (y10 + (1 : Int32)).toNatClampNeg x2 → (vp_in (y10 + (2 : Int32)) n13 ∧ (∀ h22 : Hp, h22 = wI h19 (h9.2.1 x0 1) (y10 + (2 : Int32)).toNatClampNeg x3 → (vp_in (y10 + (3 : Int32)) n13 ∧ (∀ h25 : Hp, h25 = wI h22 (h9.2.1 x0 1) (y10 + (3 : Int32)).toNatClampNeg x4 → (∀ h27 : Hp, h27 = wI h25 x0 2 ((h25.1 x0 2) + (1 : Int32)) → (RET h27))))))))))))))))))
set_option maxRecDepth 20000 in
set_option maxHeartbeats 4000000 in
theorem W_X4_through_0 {w : Wd} {E : GE} {sh : List Sh} {x0 : Nat} {x1 : Int32} {x2 : Int32} {x3 : Int32} {x4 : Int32} {h : Hp}  {RET : Hp → Prop} (X : Cx w E cX4_through 6 RX4) (Tt : Rt w E none sh.length 0 0 (fun q sh9 h9 => q = none ∧ sh9 = sh ∧ RET h9)) (hR : gR E = { frames := 1, cells := 0, slots := 0, locals := 22 }) (hV : V_X4_through_0 w sh x0 x1 x2 x3 x4 h RET) : G w E 6 0 [(0, rv w.2.2.2 x0), (1, Value.int x1), (2, Value.int x2), (3, Value.int x3), (4, Value.int x4)] [] sh h 0 0 := by
  unfold V_X4_through_0 at hV
  refine g_aload_n (pc := 0) X 0 rfl rfl dX4_through_0 ?_
  refine g_iload_n (pc := 1) X 1 rfl rfl dX4_through_1 ?_
  refine g_iconst (pc := 2) (v := (1 : Int32)) X dX4_through_2 (by decide) ?_
  obtain ⟨q1, hV⟩ := hV
  obtain ⟨P2, t3, hV⟩ := hV
  refine g_cVV (pc := 3) X (As := [Value.int x1, Value.int (1 : Int32)]) ml_X4_34 rfl q1 t3 (by rw [hR]; exact ⟨by decide, by decide, by decide, by decide⟩) rfl rfl (Nat.zero_le _) dX4_through_3 (fun h5 p4 => ?_)
  have hV := hV h5 p4
  refine g_aload_n (pc := 6) X 0 rfl rfl dX4_through_6 ?_
  refine g_iconst (pc := 7) (v := (5 : Int32)) X dX4_through_7 (by decide) ?_
  refine g_iload_n (pc := 8) X 2 rfl rfl dX4_through_8 ?_
  obtain ⟨P6, t7, hV⟩ := hV
  refine g_cVV (pc := 9) X (As := [Value.int (5 : Int32), Value.int x2]) ml_X4_34 rfl q1 t7 (by rw [hR]; exact ⟨by decide, by decide, by decide, by decide⟩) rfl rfl (Nat.zero_le _) dX4_through_9 (fun h9 p8 => ?_)
  have hV := hV h9 p8
  refine g_aload_n (pc := 12) X 0 rfl rfl dX4_through_12 ?_
  refine g_getI (pc := 13) X fl_X4_30 q1 dX4_through_13 ?_
  refine g_iconst (pc := 16) (v := (4 : Int32)) X dX4_through_16 (by decide) ?_
  refine g_imul (pc := 17) X dX4_through_17 ?_
  refine g_istore (pc := 18) X (i := 5) (rest := [(0, rv w.2.2.2 x0), (1, Value.int x1), (2, Value.int x2), (3, Value.int x3), (4, Value.int x4)]) (by decide) rfl dX4_through_18 (fun y10 e11 => ?_)
  have hV := hV y10 e11
  refine g_iload (pc := 20) X 0 rfl dX4_through_20 ?_
  refine g_iconst (pc := 22) (v := (4 : Int32)) X dX4_through_22 (by decide) ?_
  refine g_iadd (pc := 23) X dX4_through_23 ?_
  refine g_aload_n (pc := 24) X 1 rfl rfl dX4_through_24 ?_
  refine g_getR (pc := 25) X fl_X4_21 q1 dX4_through_25 ?_
  obtain ⟨n13, q12, hV⟩ := hV
  refine g_len (pc := 28) X (t := 1) (by decide) q12 dX4_through_28 ?_
  refine g_icmp_gt (pc := 29) X 81 dX4_through_29 (by decide) (fun c14 => ?_) (fun c14 => ?_)
  · have hV := hV.1 c14
    exact g_vret (pc := 81) X Tt ⟨rfl, rfl, hV⟩ dX4_through_81
  · have hV := hV.2 c14
    refine g_aload_n (pc := 32) X 1 rfl rfl dX4_through_32 ?_
    refine g_getR (pc := 33) X fl_X4_21 q1 dX4_through_33 ?_
    refine g_iload (pc := 36) X 0 rfl dX4_through_36 ?_
    refine g_iload_n (pc := 38) X 2 rfl rfl dX4_through_38 ?_
    obtain ⟨q15, hV⟩ := hV
    refine g_iast (pc := 39) X q12 q15 dX4_through_39 (fun h16 e17 => ?_)
    have hV := hV h16 e17
    refine g_aload_n (pc := 40) X 1 rfl rfl dX4_through_40 ?_
    refine g_getRe (pc := 41) X fl_X4_21 q1 (congrFun (congrFun (rfI e17) _) _) dX4_through_41 ?_
    refine g_iload (pc := 44) X 0 rfl dX4_through_44 ?_
    refine g_iconst (pc := 46) (v := (1 : Int32)) X dX4_through_46 (by decide) ?_
    refine g_iadd (pc := 47) X dX4_through_47 ?_
    refine g_iload_n (pc := 48) X 3 rfl rfl dX4_through_48 ?_
    obtain ⟨q18, hV⟩ := hV
    refine g_iast (pc := 49) X q12 q18 dX4_through_49 (fun h19 e20 => ?_)
    have hV := hV h19 e20
    refine g_aload_n (pc := 50) X 1 rfl rfl dX4_through_50 ?_
    refine g_getRe (pc := 51) X fl_X4_21 q1 (congrFun (congrFun ((rfI e20).trans (rfI e17)) _) _) dX4_through_51 ?_
    refine g_iload (pc := 54) X 0 rfl dX4_through_54 ?_
    refine g_iconst (pc := 56) (v := (2 : Int32)) X dX4_through_56 (by decide) ?_
    refine g_iadd (pc := 57) X dX4_through_57 ?_
    refine g_iload_n (pc := 58) X 4 rfl rfl dX4_through_58 ?_
    obtain ⟨q21, hV⟩ := hV
    refine g_iast (pc := 59) X q12 q21 dX4_through_59 (fun h22 e23 => ?_)
    have hV := hV h22 e23
    refine g_aload_n (pc := 60) X 1 rfl rfl dX4_through_60 ?_
    refine g_getRe (pc := 61) X fl_X4_21 q1 (congrFun (congrFun ((rfI e23).trans ((rfI e20).trans (rfI e17))) _) _) dX4_through_61 ?_
    refine g_iload (pc := 64) X 0 rfl dX4_through_64 ?_
    refine g_iconst (pc := 66) (v := (3 : Int32)) X dX4_through_66 (by decide) ?_
    refine g_iadd (pc := 67) X dX4_through_67 ?_
    refine g_iload (pc := 68) X 5 rfl dX4_through_68 ?_
    obtain ⟨q24, hV⟩ := hV
    refine g_iast (pc := 70) X q12 q24 dX4_through_70 (fun h25 e26 => ?_)
    have hV := hV h25 e26
    refine g_aload_n (pc := 71) X 1 rfl rfl dX4_through_71 ?_
    refine g_dup (pc := 72) X dX4_through_72 (rv_cat _ _) ?_
    refine g_getI (pc := 73) X fl_X4_30 q1 dX4_through_73 ?_
    refine g_iconst (pc := 76) (v := (1 : Int32)) X dX4_through_76 (by decide) ?_
    refine g_iadd (pc := 77) X dX4_through_77 ?_
    refine g_putI (pc := 78) X fl_X4_30 q1 rfl rfl dX4_through_78 (fun h27 e28 => ?_)
    have hV := hV h27 e28
    exact g_vret (pc := 81) X Tt ⟨rfl, rfl, hV⟩ dX4_through_81
def C_X4_through (w : Wd) (sh : List Sh) (x0 : Nat) (x1 : Int32) (x2 : Int32) (x3 : Int32) (x4 : Int32) (h : Hp) (RET : Hp → Prop) : Prop := CV w yX4_through (.code yX4_through cX4_through 6 none) 1 22 [rv w.2.2.2 x0, Value.int x1, Value.int x2, Value.int x3, Value.int x4] sh h RET
theorem K_X4_through {w : Wd} {sh : List Sh} {x0 : Nat} {x1 : Int32} {x2 : Int32} {x3 : Int32} {x4 : Int32} {h : Hp} {RET : Hp → Prop} (hV : V_X4_through_0 w sh x0 x1 x2 x3 x4 h RET) : C_X4_through w sh x0 x1 x2 x3 x4 h RET :=
  Ct_of (by decide +kernel) (by simp [lg_sl, rv_cat, cat_int, cat_long]) (fun E X Tt hR _ => by
    rw [show lv_args 0 [rv w.2.2.2 x0, Value.int x1, Value.int x2, Value.int x3, Value.int x4] = [(0, rv w.2.2.2 x0), (1, Value.int x1), (2, Value.int x2), (3, Value.int x3), (4, Value.int x4)] from by simp [lv_args, rv_cat, cat_int, cat_long]]
    refine g_lv [0, 1, 2, 3, 4] rfl ?_
    exact W_X4_through_0 X Tt hR hV)
def V_X9_sum_0 (w : Wd) (sh : List Sh) (x0 : Nat) (h : Hp)  (RET : Int64 → Hp → Prop) : Prop :=
  shAt sh x0 = some (.inr 9) ∧ (shAt sh (h.2.1 x0 3) = some (.inr 8) ∧ (∃ P3 : Int32 → Hp → Prop, C_X8_length w sh (h.2.1 x0 3) h P3 ∧ (∀ (v7 : Int32) (h6 : Hp), P3 v7 h6 → (∃ P8 : Int64 → Hp → Prop, C_X8_sum w sh (h.2.1 x0 3) (h.1 x0 4) v7 h6 P8 ∧ (∀ (v12 : Int64) (h11 : Hp), P8 v12 h11 → (RET v12 h11))))))
set_option maxRecDepth 20000 in
set_option maxHeartbeats 4000000 in
theorem W_X9_sum_0 {w : Wd} {E : GE} {sh : List Sh} {x0 : Nat} {h : Hp}  {RET : Int64 → Hp → Prop} (X : Cx w E cX9_sum 1 RX9) (Tt : Rt w E (some .long) sh.length 0 0 (fun q sh9 h9 => ∃ v : Int64, q = some (Value.long v) ∧ sh9 = sh ∧ RET v h9)) (hR : gR E = { frames := 2, cells := 0, slots := 0, locals := 46 }) (hV : V_X9_sum_0 w sh x0 h RET) : G w E 1 0 [(0, rv w.2.2.2 x0)] [] sh h 0 0 := by
  unfold V_X9_sum_0 at hV
  refine g_aload_n (pc := 0) X 0 rfl rfl dX9_sum_0 ?_
  obtain ⟨q1, hV⟩ := hV
  refine g_getR (pc := 1) X fl_X9_18 q1 dX9_sum_1 ?_
  refine g_aload_n (pc := 4) X 0 rfl rfl dX9_sum_4 ?_
  refine g_getI (pc := 5) X fl_X9_32 q1 dX9_sum_5 ?_
  refine g_aload_n (pc := 8) X 0 rfl rfl dX9_sum_8 ?_
  refine g_getR (pc := 9) X fl_X9_18 q1 dX9_sum_9 ?_
  obtain ⟨q2, hV⟩ := hV
  obtain ⟨P3, t4, hV⟩ := hV
  refine g_cVI (pc := 12) X (As := []) ml_X9_28 rfl q2 t4 (by rw [hR]; exact ⟨by decide, by decide, by decide, by decide⟩) rfl rfl (by simp [rv_cat, cat_int, cat_long]) dX9_sum_12 (fun v7 h6 p5 => ?_)
  have hV := hV v7 h6 p5
  obtain ⟨P8, t9, hV⟩ := hV
  refine g_cVJ (pc := 15) X (As := [Value.int (h.1 x0 4), Value.int v7]) ml_X9_42 rfl q2 t9 (by rw [hR]; exact ⟨by decide, by decide, by decide, by decide⟩) rfl rfl (Nat.zero_le _) dX9_sum_15 (fun v12 h11 p10 => ?_)
  have hV := hV v12 h11 p10
  exact g_lret (pc := 18) X Tt ⟨_, rfl, rfl, hV⟩ dX9_sum_18
def C_X9_sum (w : Wd) (sh : List Sh) (x0 : Nat) (h : Hp) (RET : Int64 → Hp → Prop) : Prop := CJ w yX9_sum (.code yX9_sum cX9_sum 1 (some .long)) 2 46 [rv w.2.2.2 x0] sh h RET
theorem K_X9_sum {w : Wd} {sh : List Sh} {x0 : Nat} {h : Hp} {RET : Int64 → Hp → Prop} (hV : V_X9_sum_0 w sh x0 h RET) : C_X9_sum w sh x0 h RET :=
  Ct_of (by decide +kernel) (by simp [lg_sl, rv_cat, cat_int, cat_long]) (fun E X Tt hR _ => by
    rw [show lv_args 0 [rv w.2.2.2 x0] = [(0, rv w.2.2.2 x0)] from by simp [lv_args, rv_cat, cat_int, cat_long]]
    refine g_lv [0] rfl ?_
    exact W_X9_sum_0 X Tt hR hV)
def V_X4_countOf_0 (w : Wd) (sh : List Sh) (x0 : Nat) (x1 : Int32) (h : Hp)  (RET : Int32 → Hp → Prop) : Prop :=
  ((x1 < 0) → (RET (0 : Int32) h)) ∧ ((¬ x1 < 0) → ((((8 : Int32) ≤ x1) → (RET (0 : Int32) h)) ∧ ((¬ (8 : Int32) ≤ x1) → (shAt sh x0 = some (.inr 4) ∧ (∃ n5 : Nat, shAt sh (h.2.1 x0 0) = some (.inl (1, n5)) ∧ (vp_in x1 n5 ∧ (RET (h.1 (h.2.1 x0 0) x1.toNatClampNeg) h)))))))
set_option maxRecDepth 20000 in
set_option maxHeartbeats 4000000 in
theorem W_X4_countOf_0 {w : Wd} {E : GE} {sh : List Sh} {x0 : Nat} {x1 : Int32} {h : Hp}  {RET : Int32 → Hp → Prop} (X : Cx w E cX4_countOf 2 RX4) (Tt : Rt w E (some .int) sh.length 0 0 (fun q sh9 h9 => ∃ v : Int32, q = some (Value.int v) ∧ sh9 = sh ∧ RET v h9)) (hR : gR E = { frames := 0, cells := 0, slots := 0, locals := 0 }) (hV : V_X4_countOf_0 w sh x0 x1 h RET) : G w E 2 0 [(0, rv w.2.2.2 x0), (1, Value.int x1)] [] sh h 0 0 := by
  unfold V_X4_countOf_0 at hV
  refine g_iload_n (pc := 0) X 1 rfl rfl dX4_countOf_0 ?_
  refine g_if_lt (pc := 1) X 19 dX4_countOf_1 (by decide) (fun c1 => ?_) (fun c1 => ?_)
  · have hV := hV.1 c1
    refine g_iconst (pc := 19) (v := (0 : Int32)) X dX4_countOf_19 (by decide) ?_
    exact g_iret (pc := 20) X Tt ⟨_, rfl, rfl, hV⟩ dX4_countOf_20
  · have hV := hV.2 c1
    refine g_iload_n (pc := 4) X 1 rfl rfl dX4_countOf_4 ?_
    refine g_bipush (pc := 5) (v := (8 : Int32)) X dX4_countOf_5 (by decide) ?_
    refine g_icmp_ge (pc := 7) X 19 dX4_countOf_7 (by decide) (fun c2 => ?_) (fun c2 => ?_)
    · have hV := hV.1 c2
      refine g_iconst (pc := 19) (v := (0 : Int32)) X dX4_countOf_19 (by decide) ?_
      exact g_iret (pc := 20) X Tt ⟨_, rfl, rfl, hV⟩ dX4_countOf_20
    · have hV := hV.2 c2
      refine g_aload_n (pc := 10) X 0 rfl rfl dX4_countOf_10 ?_
      obtain ⟨q3, hV⟩ := hV
      refine g_getR (pc := 11) X fl_X4_9 q3 dX4_countOf_11 ?_
      refine g_iload_n (pc := 14) X 1 rfl rfl dX4_countOf_14 ?_
      obtain ⟨n5, q4, hV⟩ := hV
      obtain ⟨q6, hV⟩ := hV
      refine g_iald (pc := 15) X q4 q6 dX4_countOf_15 ?_
      refine g_goto (pc := 16) X 20 dX4_countOf_16 (by decide) ?_
      exact g_iret (pc := 20) X Tt ⟨_, rfl, rfl, hV⟩ dX4_countOf_20
def C_X4_countOf (w : Wd) (sh : List Sh) (x0 : Nat) (x1 : Int32) (h : Hp) (RET : Int32 → Hp → Prop) : Prop := CI w yX4_countOf (.code yX4_countOf cX4_countOf 2 (some .int)) 0 0 [rv w.2.2.2 x0, Value.int x1] sh h RET
theorem K_X4_countOf {w : Wd} {sh : List Sh} {x0 : Nat} {x1 : Int32} {h : Hp} {RET : Int32 → Hp → Prop} (hV : V_X4_countOf_0 w sh x0 x1 h RET) : C_X4_countOf w sh x0 x1 h RET :=
  Ct_of (by decide +kernel) (by simp [lg_sl, rv_cat, cat_int, cat_long]) (fun E X Tt hR _ => by
    rw [show lv_args 0 [rv w.2.2.2 x0, Value.int x1] = [(0, rv w.2.2.2 x0), (1, Value.int x1)] from by simp [lv_args, rv_cat, cat_int, cat_long]]
    refine g_lv [0, 1] rfl ?_
    exact W_X4_countOf_0 X Tt hR hV)
def V_X4_length_0 (w : Wd) (sh : List Sh) (x0 : Nat) (h : Hp)  (RET : Int32 → Hp → Prop) : Prop :=
  shAt sh x0 = some (.inr 4) ∧ (RET (h.1 x0 2) h)
set_option maxRecDepth 20000 in
set_option maxHeartbeats 4000000 in
theorem W_X4_length_0 {w : Wd} {E : GE} {sh : List Sh} {x0 : Nat} {h : Hp}  {RET : Int32 → Hp → Prop} (X : Cx w E cX4_length 1 RX4) (Tt : Rt w E (some .int) sh.length 0 0 (fun q sh9 h9 => ∃ v : Int32, q = some (Value.int v) ∧ sh9 = sh ∧ RET v h9)) (hR : gR E = { frames := 0, cells := 0, slots := 0, locals := 0 }) (hV : V_X4_length_0 w sh x0 h RET) : G w E 1 0 [(0, rv w.2.2.2 x0)] [] sh h 0 0 := by
  unfold V_X4_length_0 at hV
  refine g_aload_n (pc := 0) X 0 rfl rfl dX4_length_0 ?_
  obtain ⟨q1, hV⟩ := hV
  refine g_getI (pc := 1) X fl_X4_30 q1 dX4_length_1 ?_
  exact g_iret (pc := 4) X Tt ⟨_, rfl, rfl, hV⟩ dX4_length_4
def C_X4_length (w : Wd) (sh : List Sh) (x0 : Nat) (h : Hp) (RET : Int32 → Hp → Prop) : Prop := CI w yX4_length (.code yX4_length cX4_length 1 (some .int)) 0 0 [rv w.2.2.2 x0] sh h RET
theorem K_X4_length {w : Wd} {sh : List Sh} {x0 : Nat} {h : Hp} {RET : Int32 → Hp → Prop} (hV : V_X4_length_0 w sh x0 h RET) : C_X4_length w sh x0 h RET :=
  Ct_of (by decide +kernel) (by simp [lg_sl, rv_cat, cat_int, cat_long]) (fun E X Tt hR _ => by
    rw [show lv_args 0 [rv w.2.2.2 x0] = [(0, rv w.2.2.2 x0)] from by simp [lv_args, rv_cat, cat_int, cat_long]]
    refine g_lv [0] rfl ?_
    exact W_X4_length_0 X Tt hR hV)
def V_X4_detail_0 (w : Wd) (sh : List Sh) (x0 : Nat) (x1 : Int32) (x2 : Int32) (h : Hp)  (RET : Int32 → Hp → Prop) : Prop :=
  ∀ y1 : Int32, y1 = ((x1 * (4 : Int32)) + x2) → (((y1 < 0) → (RET (0 : Int32) h)) ∧ ((¬ y1 < 0) → (shAt sh x0 = some (.inr 4) ∧ (∃ n6 : Nat, shAt sh (h.2.1 x0 1) = some (.inl (1, n6)) ∧ ((((Int32.ofNat n6) ≤ y1) → (RET (0 : Int32) h)) ∧ ((¬ (Int32.ofNat n6) ≤ y1) → (vp_in y1 n6 ∧ (RET (h.1 (h.2.1 x0 1) y1.toNatClampNeg) h))))))))
set_option maxRecDepth 20000 in
set_option maxHeartbeats 4000000 in
theorem W_X4_detail_0 {w : Wd} {E : GE} {sh : List Sh} {x0 : Nat} {x1 : Int32} {x2 : Int32} {h : Hp}  {RET : Int32 → Hp → Prop} (X : Cx w E cX4_detail 4 RX4) (Tt : Rt w E (some .int) sh.length 0 0 (fun q sh9 h9 => ∃ v : Int32, q = some (Value.int v) ∧ sh9 = sh ∧ RET v h9)) (hR : gR E = { frames := 0, cells := 0, slots := 0, locals := 0 }) (hV : V_X4_detail_0 w sh x0 x1 x2 h RET) : G w E 4 0 [(0, rv w.2.2.2 x0), (1, Value.int x1), (2, Value.int x2)] [] sh h 0 0 := by
  unfold V_X4_detail_0 at hV
  refine g_iload_n (pc := 0) X 1 rfl rfl dX4_detail_0 ?_
  refine g_iconst (pc := 1) (v := (4 : Int32)) X dX4_detail_1 (by decide) ?_
  refine g_imul (pc := 2) X dX4_detail_2 ?_
  refine g_iload_n (pc := 3) X 2 rfl rfl dX4_detail_3 ?_
  refine g_iadd (pc := 4) X dX4_detail_4 ?_
  refine g_istore_n (pc := 5) X (i := 3) (rest := [(0, rv w.2.2.2 x0), (1, Value.int x1), (2, Value.int x2)]) rfl (by decide) rfl dX4_detail_5 (fun y1 e2 => ?_)
  have hV := hV y1 e2
  refine g_iload_n (pc := 6) X 0 rfl rfl dX4_detail_6 ?_
  refine g_if_lt (pc := 7) X 28 dX4_detail_7 (by decide) (fun c3 => ?_) (fun c3 => ?_)
  · have hV := hV.1 c3
    refine g_iconst (pc := 28) (v := (0 : Int32)) X dX4_detail_28 (by decide) ?_
    exact g_iret (pc := 29) X Tt ⟨_, rfl, rfl, hV⟩ dX4_detail_29
  · have hV := hV.2 c3
    refine g_iload_n (pc := 10) X 0 rfl rfl dX4_detail_10 ?_
    refine g_aload_n (pc := 11) X 1 rfl rfl dX4_detail_11 ?_
    obtain ⟨q4, hV⟩ := hV
    refine g_getR (pc := 12) X fl_X4_21 q4 dX4_detail_12 ?_
    obtain ⟨n6, q5, hV⟩ := hV
    refine g_len (pc := 15) X (t := 1) (by decide) q5 dX4_detail_15 ?_
    refine g_icmp_ge (pc := 16) X 28 dX4_detail_16 (by decide) (fun c7 => ?_) (fun c7 => ?_)
    · have hV := hV.1 c7
      refine g_iconst (pc := 28) (v := (0 : Int32)) X dX4_detail_28 (by decide) ?_
      exact g_iret (pc := 29) X Tt ⟨_, rfl, rfl, hV⟩ dX4_detail_29
    · have hV := hV.2 c7
      refine g_aload_n (pc := 19) X 1 rfl rfl dX4_detail_19 ?_
      refine g_getR (pc := 20) X fl_X4_21 q4 dX4_detail_20 ?_
      refine g_iload_n (pc := 23) X 0 rfl rfl dX4_detail_23 ?_
      obtain ⟨q8, hV⟩ := hV
      refine g_iald (pc := 24) X q5 q8 dX4_detail_24 ?_
      refine g_goto (pc := 25) X 29 dX4_detail_25 (by decide) ?_
      exact g_iret (pc := 29) X Tt ⟨_, rfl, rfl, hV⟩ dX4_detail_29
def C_X4_detail (w : Wd) (sh : List Sh) (x0 : Nat) (x1 : Int32) (x2 : Int32) (h : Hp) (RET : Int32 → Hp → Prop) : Prop := CI w yX4_detail (.code yX4_detail cX4_detail 4 (some .int)) 0 0 [rv w.2.2.2 x0, Value.int x1, Value.int x2] sh h RET
theorem K_X4_detail {w : Wd} {sh : List Sh} {x0 : Nat} {x1 : Int32} {x2 : Int32} {h : Hp} {RET : Int32 → Hp → Prop} (hV : V_X4_detail_0 w sh x0 x1 x2 h RET) : C_X4_detail w sh x0 x1 x2 h RET :=
  Ct_of (by decide +kernel) (by simp [lg_sl, rv_cat, cat_int, cat_long]) (fun E X Tt hR _ => by
    rw [show lv_args 0 [rv w.2.2.2 x0, Value.int x1, Value.int x2] = [(0, rv w.2.2.2 x0), (1, Value.int x1), (2, Value.int x2)] from by simp [lv_args, rv_cat, cat_int, cat_long]]
    refine g_lv [0, 1, 2] rfl ?_
    exact W_X4_detail_0 X Tt hR hV)
