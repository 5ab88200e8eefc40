def V_X12_entry_0 (w : Wd) (sh : List Sh) (x0 : Nat) (x1 : Int32) (x2 : Int32) (x3 : Int32) (h : Hp)  (RET : Int32 → Hp → Prop) : Prop :=
  ((x1 < 0) → (RET (-2 : Int32) h)) ∧ ((¬ x1 < 0) → ((((255 : Int32) < x1) → (RET (-2 : Int32) h)) ∧ ((¬ (255 : Int32) < x1) → (((x2 < 0) → (RET (-2 : Int32) h)) ∧ ((¬ x2 < 0) → ((((5 : Int32) < x2) → (RET (-2 : Int32) h)) ∧ ((¬ (5 : Int32) < x2) → (((x3 < 0) → (RET (-2 : Int32) h)) ∧ ((¬ x3 < 0) → (((x3 ≤ (255 : Int32)) → (∀ y7 : Int32, y7 = (((3072 : Int32) + ((256 : Int32) * x2)) + x1) → (shAt sh x0 = some (.inr 12) ∧ (∃ n11 : Nat, shAt sh (h.2.1 x0 9) = some (.inl (1, n11)) ∧ (vp_in y7 n11 ∧ (∀ y13 : Int32, y13 = (h.1 (h.2.1 x0 9) y7.toNatClampNeg) → (vp_in y7 n11 ∧ (∀ h16 : Hp, h16 = wI h (h.2.1 x0 9) y7.toNatClampNeg x3 → (RET y13 h16))))))))) ∧ ((¬ x3 ≤ (255 : Int32)) → (RET (-2 : Int32) h))))))))))))
set_option maxRecDepth 20000 in
set_option maxHeartbeats 4000000 in
theorem W_X12_entry_0 {w : Wd} {E : GE} {sh : List Sh} {x0 : Nat} {x1 : Int32} {x2 : Int32} {x3 : Int32} {h : Hp}  {RET : Int32 → Hp → Prop} (X : Cx w E cX12_entry 6 RX12) (Tt : Rt w E (some .int) sh.length 0 0 (fun q sh9 h9 => ∃ v : Int32, q = some (Value.int v) ∧ sh9 = sh ∧ RET v h9)) (hR : gR E = { frames := 0, cells := 0, slots := 0, locals := 0 }) (hV : V_X12_entry_0 w sh x0 x1 x2 x3 h RET) : G w E 6 0 [(0, rv w.2.2.2 x0), (1, Value.int x1), (2, Value.int x2), (3, Value.int x3)] [] sh h 0 0 := by
  unfold V_X12_entry_0 at hV
  refine g_iload_n (pc := 0) X 1 rfl rfl dX12_entry_0 ?_
  refine g_if_lt (pc := 1) X 31 dX12_entry_1 (by decide) (fun c1 => ?_) (fun c1 => ?_)
  · have hV := hV.1 c1
    refine g_bipush (pc := 31) (v := (-2 : Int32)) X dX12_entry_31 (by decide) ?_
    exact g_iret (pc := 33) X Tt ⟨_, rfl, rfl, hV⟩ dX12_entry_33
  · have hV := hV.2 c1
    refine g_iload_n (pc := 4) X 1 rfl rfl dX12_entry_4 ?_
    refine g_sipush (pc := 5) (v := (255 : Int32)) X dX12_entry_5 (by decide) ?_
    refine g_icmp_gt (pc := 8) X 31 dX12_entry_8 (by decide) (fun c2 => ?_) (fun c2 => ?_)
    · have hV := hV.1 c2
      refine g_bipush (pc := 31) (v := (-2 : Int32)) X dX12_entry_31 (by decide) ?_
      exact g_iret (pc := 33) X Tt ⟨_, rfl, rfl, hV⟩ dX12_entry_33
    · have hV := hV.2 c2
      refine g_iload_n (pc := 11) X 2 rfl rfl dX12_entry_11 ?_
      refine g_if_lt (pc := 12) X 31 dX12_entry_12 (by decide) (fun c3 => ?_) (fun c3 => ?_)
      · have hV := hV.1 c3
        refine g_bipush (pc := 31) (v := (-2 : Int32)) X dX12_entry_31 (by decide) ?_
        exact g_iret (pc := 33) X Tt ⟨_, rfl, rfl, hV⟩ dX12_entry_33
      · have hV := hV.2 c3
        refine g_iload_n (pc := 15) X 2 rfl rfl dX12_entry_15 ?_
        refine g_iconst (pc := 16) (v := (5 : Int32)) X dX12_entry_16 (by decide) ?_
        refine g_icmp_gt (pc := 17) X 31 dX12_entry_17 (by decide) (fun c4 => ?_) (fun c4 => ?_)
        · have hV := hV.1 c4
          refine g_bipush (pc := 31) (v := (-2 : Int32)) X dX12_entry_31 (by decide) ?_
          exact g_iret (pc := 33) X Tt ⟨_, rfl, rfl, hV⟩ dX12_entry_33
        · have hV := hV.2 c4
          refine g_iload_n (pc := 20) X 3 rfl rfl dX12_entry_20 ?_
          refine g_if_lt (pc := 21) X 31 dX12_entry_21 (by decide) (fun c5 => ?_) (fun c5 => ?_)
          · have hV := hV.1 c5
            refine g_bipush (pc := 31) (v := (-2 : Int32)) X dX12_entry_31 (by decide) ?_
            exact g_iret (pc := 33) X Tt ⟨_, rfl, rfl, hV⟩ dX12_entry_33
          · have hV := hV.2 c5
            refine g_iload_n (pc := 24) X 3 rfl rfl dX12_entry_24 ?_
            refine g_sipush (pc := 25) (v := (255 : Int32)) X dX12_entry_25 (by decide) ?_
            refine g_icmp_le (pc := 28) X 34 dX12_entry_28 (by decide) (fun c6 => ?_) (fun c6 => ?_)
            · have hV := hV.1 c6
              refine g_sipush (pc := 34) (v := (3072 : Int32)) X dX12_entry_34 (by decide) ?_
              refine g_sipush (pc := 37) (v := (256 : Int32)) X dX12_entry_37 (by decide) ?_
              refine g_iload_n (pc := 40) X 2 rfl rfl dX12_entry_40 ?_
              refine g_imul (pc := 41) X dX12_entry_41 ?_
              refine g_iadd (pc := 42) X dX12_entry_42 ?_
              refine g_iload_n (pc := 43) X 1 rfl rfl dX12_entry_43 ?_
              refine g_iadd (pc := 44) X dX12_entry_44 ?_
              refine g_istore (pc := 45) X (i := 4) (rest := [(0, rv w.2.2.2 x0), (1, Value.int x1), (2, Value.int x2), (3, Value.int x3)]) (by decide) rfl dX12_entry_45 (fun y7 e8 => ?_)
              have hV := hV y7 e8
              refine g_aload_n (pc := 47) X 1 rfl rfl dX12_entry_47 ?_
              obtain ⟨q9, hV⟩ := hV
              refine g_getR (pc := 48) X fl_X12_23 q9 dX12_entry_48 ?_
              refine g_iload (pc := 51) X 0 rfl dX12_entry_51 ?_
              obtain ⟨n11, q10, hV⟩ := hV
              obtain ⟨q12, hV⟩ := hV
              refine g_iald (pc := 53) X q10 q12 dX12_entry_53 ?_
              refine g_istore (pc := 54) X (i := 5) (rest := [(4, Value.int y7), (0, rv w.2.2.2 x0), (1, Value.int x1), (2, Value.int x2), (3, Value.int x3)]) (by decide) rfl dX12_entry_54 (fun y13 e14 => ?_)
              have hV := hV y13 e14
              refine g_aload_n (pc := 56) X 2 rfl rfl dX12_entry_56 ?_
              refine g_getR (pc := 57) X fl_X12_23 q9 dX12_entry_57 ?_
              refine g_iload (pc := 60) X 1 rfl dX12_entry_60 ?_
              refine g_iload_n (pc := 62) X 5 rfl rfl dX12_entry_62 ?_
              obtain ⟨q15, hV⟩ := hV
              refine g_iast (pc := 63) X q10 q15 dX12_entry_63 (fun h16 e17 => ?_)
              have hV := hV h16 e17
              refine g_iload (pc := 64) X 0 rfl dX12_entry_64 ?_
              exact g_iret (pc := 66) X Tt ⟨_, rfl, rfl, hV⟩ dX12_entry_66
            · have hV := hV.2 c6
              refine g_bipush (pc := 31) (v := (-2 : Int32)) X dX12_entry_31 (by decide) ?_
              exact g_iret (pc := 33) X Tt ⟨_, rfl, rfl, hV⟩ dX12_entry_33
def C_X12_entry (w : Wd) (sh : List Sh) (x0 : Nat) (x1 : Int32) (x2 : Int32) (x3 : Int32) (h : Hp) (RET : Int32 → Hp → Prop) : Prop := CI w yX12_entry (.code yX12_entry cX12_entry 6 (some .int)) 0 0 [rv w.2.2.2 x0, Value.int x1, Value.int x2, Value.int x3] sh h RET
theorem K_X12_entry {w : Wd} {sh : List Sh} {x0 : Nat} {x1 : Int32} {x2 : Int32} {x3 : Int32} {h : Hp} {RET : Int32 → Hp → Prop} (hV : V_X12_entry_0 w sh x0 x1 x2 x3 h RET) : C_X12_entry w sh x0 x1 x2 x3 h RET :=
  Ct_of (by decide +kernel) (by simp [lg_sl, rv_cat, cat_int, cat_long]) (fun E X Tt hR _ => by
    rw [show lv_args 0 [rv w.2.2.2 x0, Value.int x1, Value.int x2, Value.int x3] = [(0, rv w.2.2.2 x0), (1, Value.int x1), (2, Value.int x2), (3, Value.int x3)] from by simp [lv_args, rv_cat, cat_int, cat_long]]
    refine g_lv [0, 1, 2, 3] rfl ?_
    exact W_X12_entry_0 X Tt hR hV)
def V_X12_fails_0 (w : Wd) (sh : List Sh) (x0 : Nat) (x1 : Int32) (x2 : Int32) (h : Hp)  (RET : Int32 → Hp → Prop) : Prop :=
  shAt sh x0 = some (.inr 12) ∧ (((¬ (h.1 x0 6) = 0) → (RET (0 : Int32) h)) ∧ (((h.1 x0 6) = 0) → (∀ h3 : Hp, h3 = wI h x0 6 x1 → (∀ h5 : Hp, h5 = wI h3 x0 7 x2 → (RET (0 : Int32) h5)))))
set_option maxRecDepth 20000 in
set_option maxHeartbeats 4000000 in
theorem W_X12_fails_0 {w : Wd} {E : GE} {sh : List Sh} {x0 : Nat} {x1 : Int32} {x2 : Int32} {h : Hp}  {RET : Int32 → Hp → Prop} (X : Cx w E cX12_fails 3 RX12) (Tt : Rt w E (some .boolean) sh.length 0 0 (fun q sh9 h9 => ∃ v : Int32, q = some (Value.int v) ∧ sh9 = sh ∧ RET v h9)) (hR : gR E = { frames := 0, cells := 0, slots := 0, locals := 0 }) (hV : V_X12_fails_0 w sh x0 x1 x2 h RET) : G w E 3 0 [(0, rv w.2.2.2 x0), (1, Value.int x1), (2, Value.int x2)] [] sh h 0 0 := by
  unfold V_X12_fails_0 at hV
  refine g_aload_n (pc := 0) X 0 rfl rfl dX12_fails_0 ?_
  obtain ⟨q1, hV⟩ := hV
  refine g_getI (pc := 1) X fl_X12_141 q1 dX12_fails_1 ?_
  refine g_if_ne (pc := 4) X 17 dX12_fails_4 (by decide) (fun c2 => ?_) (fun c2 => ?_)
  · have hV := hV.1 c2
    refine g_iconst (pc := 17) (v := (0 : Int32)) X dX12_fails_17 (by decide) ?_
    exact g_zret (pc := 18) X Tt (by decide) ⟨_, rfl, rfl, hV⟩ dX12_fails_18
  · have hV := hV.2 c2
    refine g_aload_n (pc := 7) X 0 rfl rfl dX12_fails_7 ?_
    refine g_iload_n (pc := 8) X 1 rfl rfl dX12_fails_8 ?_
    refine g_putI (pc := 9) X fl_X12_141 q1 rfl rfl dX12_fails_9 (fun h3 e4 => ?_)
    have hV := hV h3 e4
    refine g_aload_n (pc := 12) X 0 rfl rfl dX12_fails_12 ?_
    refine g_iload_n (pc := 13) X 2 rfl rfl dX12_fails_13 ?_
    refine g_putI (pc := 14) X fl_X12_144 q1 rfl rfl dX12_fails_14 (fun h5 e6 => ?_)
    have hV := hV h5 e6
    refine g_iconst (pc := 17) (v := (0 : Int32)) X dX12_fails_17 (by decide) ?_
    exact g_zret (pc := 18) X Tt (by decide) ⟨_, rfl, rfl, hV⟩ dX12_fails_18
def C_X12_fails (w : Wd) (sh : List Sh) (x0 : Nat) (x1 : Int32) (x2 : Int32) (h : Hp) (RET : Int32 → Hp → Prop) : Prop := CI w yX12_fails (.code yX12_fails cX12_fails 3 (some .boolean)) 0 0 [rv w.2.2.2 x0, Value.int x1, Value.int x2] sh h RET
theorem K_X12_fails {w : Wd} {sh : List Sh} {x0 : Nat} {x1 : Int32} {x2 : Int32} {h : Hp} {RET : Int32 → Hp → Prop} (hV : V_X12_fails_0 w sh x0 x1 x2 h RET) : C_X12_fails w sh x0 x1 x2 h RET :=
  Ct_of (by decide +kernel) (by simp [lg_sl, rv_cat, cat_int, cat_long]) (fun E X Tt hR _ => by
    rw [show lv_args 0 [rv w.2.2.2 x0, Value.int x1, Value.int x2] = [(0, rv w.2.2.2 x0), (1, Value.int x1), (2, Value.int x2)] from by simp [lv_args, rv_cat, cat_int, cat_long]]
    refine g_lv [0, 1, 2] rfl ?_
    exact W_X12_fails_0 X Tt hR hV)
def V_X12_wants_0 (w : Wd) (sh : List Sh) (x0 : Nat) (x1 : Int64) (h : Hp)  (RET : Int32 → Hp → Prop) : Prop :=
  shAt sh x0 = some (.inr 12) ∧ (((¬ (h.1 x0 6) = 0) → (RET (0 : Int32) h)) ∧ (((h.1 x0 6) = 0) → (((0 ≤ (lg_cmp (((h.1 x0 15) - (h.1 x0 14)).toInt64) x1)) → (RET (1 : Int32) h)) ∧ ((¬ 0 ≤ (lg_cmp (((h.1 x0 15) - (h.1 x0 14)).toInt64) x1)) → (∃ P4 : Int32 → Hp → Prop, C_X12_fails w sh x0 (1 : Int32) (h.1 x0 15) h P4 ∧ (∀ (v8 : Int32) (h7 : Hp), P4 v8 h7 → (((v8 = 0) → (RET (0 : Int32) h7)) ∧ ((¬ v8 = 0) → (RET (1 : Int32) h7)))))))))
set_option maxRecDepth 20000 in
set_option maxHeartbeats 4000000 in
theorem W_X12_wants_0 {w : Wd} {E : GE} {sh : List Sh} {x0 : Nat} {x1 : Int64} {h : Hp}  {RET : Int32 → Hp → Prop} (X : Cx w E cX12_wants 3 RX12) (Tt : Rt w E (some .boolean) sh.length 0 0 (fun q sh9 h9 => ∃ v : Int32, q = some (Value.int v) ∧ sh9 = sh ∧ RET v h9)) (hR : gR E = { frames := 1, cells := 0, slots := 0, locals := 22 }) (hV : V_X12_wants_0 w sh x0 x1 h RET) : G w E 3 0 [(0, rv w.2.2.2 x0), (1, Value.long x1)] [] sh h 0 0 := by
  unfold V_X12_wants_0 at hV
  refine g_aload_n (pc := 0) X 0 rfl rfl dX12_wants_0 ?_
  obtain ⟨q1, hV⟩ := hV
  refine g_getI (pc := 1) X fl_X12_141 q1 dX12_wants_1 ?_
  refine g_if_ne (pc := 4) X 38 dX12_wants_4 (by decide) (fun c2 => ?_) (fun c2 => ?_)
  · have hV := hV.1 c2
    refine g_iconst (pc := 38) (v := (0 : Int32)) X dX12_wants_38 (by decide) ?_
    exact g_zret (pc := 39) X Tt (by decide) ⟨_, rfl, rfl, hV⟩ dX12_wants_39
  · have hV := hV.2 c2
    refine g_aload_n (pc := 7) X 0 rfl rfl dX12_wants_7 ?_
    refine g_getI (pc := 8) X fl_X12_147 q1 dX12_wants_8 ?_
    refine g_aload_n (pc := 11) X 0 rfl rfl dX12_wants_11 ?_
    refine g_getI (pc := 12) X fl_X12_150 q1 dX12_wants_12 ?_
    refine g_isub (pc := 15) X dX12_wants_15 ?_
    refine g_i2l (pc := 16) X dX12_wants_16 ?_
    refine g_lload_n (pc := 17) X 1 rfl rfl dX12_wants_17 ?_
    refine g_lcmp (pc := 18) X dX12_wants_18 ?_
    refine g_if_ge (pc := 19) X 34 dX12_wants_19 (by decide) (fun c3 => ?_) (fun c3 => ?_)
    · have hV := hV.1 c3
      refine g_iconst (pc := 34) (v := (1 : Int32)) X dX12_wants_34 (by decide) ?_
      refine g_goto (pc := 35) X 39 dX12_wants_35 (by decide) ?_
      exact g_zret (pc := 39) X Tt (by decide) ⟨_, rfl, rfl, hV⟩ dX12_wants_39
    · have hV := hV.2 c3
      refine g_aload_n (pc := 22) X 0 rfl rfl dX12_wants_22 ?_
      refine g_iconst (pc := 23) (v := (1 : Int32)) X dX12_wants_23 (by decide) ?_
      refine g_aload_n (pc := 24) X 0 rfl rfl dX12_wants_24 ?_
      refine g_getI (pc := 25) X fl_X12_147 q1 dX12_wants_25 ?_
      obtain ⟨P4, t5, hV⟩ := hV
      refine g_cVI (pc := 28) X (As := [Value.int (1 : Int32), Value.int (h.1 x0 15)]) ml_X12_153 rfl q1 t5 (by rw [hR]; exact ⟨by decide, by decide, by decide, by decide⟩) rfl rfl (Nat.zero_le _) dX12_wants_28 (fun v8 h7 p6 => ?_)
      have hV := hV v8 h7 p6
      refine g_if_eq (pc := 31) X 38 dX12_wants_31 (by decide) (fun c9 => ?_) (fun c9 => ?_)
      · have hV := hV.1 c9
        refine g_iconst (pc := 38) (v := (0 : Int32)) X dX12_wants_38 (by decide) ?_
        exact g_zret (pc := 39) X Tt (by decide) ⟨_, rfl, rfl, hV⟩ dX12_wants_39
      · have hV := hV.2 c9
        refine g_iconst (pc := 34) (v := (1 : Int32)) X dX12_wants_34 (by decide) ?_
        refine g_goto (pc := 35) X 39 dX12_wants_35 (by decide) ?_
        exact g_zret (pc := 39) X Tt (by decide) ⟨_, rfl, rfl, hV⟩ dX12_wants_39
def C_X12_wants (w : Wd) (sh : List Sh) (x0 : Nat) (x1 : Int64) (h : Hp) (RET : Int32 → Hp → Prop) : Prop := CI w yX12_wants (.code yX12_wants cX12_wants 3 (some .boolean)) 1 22 [rv w.2.2.2 x0, Value.long x1] sh h RET
theorem K_X12_wants {w : Wd} {sh : List Sh} {x0 : Nat} {x1 : Int64} {h : Hp} {RET : Int32 → Hp → Prop} (hV : V_X12_wants_0 w sh x0 x1 h RET) : C_X12_wants w sh x0 x1 h RET :=
  Ct_of (by decide +kernel) (by simp [lg_sl, rv_cat, cat_int, cat_long]) (fun E X Tt hR _ => by
    rw [show lv_args 0 [rv w.2.2.2 x0, Value.long x1] = [(0, rv w.2.2.2 x0), (1, Value.long x1)] from by simp [lv_args, rv_cat, cat_int, cat_long]]
    refine g_lv [0, 1] rfl ?_
    exact W_X12_wants_0 X Tt hR hV)
def V_X12_big_15 (w : Wd) (sh : List Sh) (x0 : Nat) (x1 : Int32) (x2 : Int64) (x4 : Int32) (h : Hp) (L15 : Nat → Int32 → Int64 → Int32 → Hp → Prop) (RET : Int64 → Hp → Prop) : Prop :=
  (((5 : Int32) ≤ x4) → (shAt sh x0 = some (.inr 12) ∧ (∀ h3 : Hp, h3 = wI h x0 36 (1 : Int32) → (RET (0 : Int64) h3)))) ∧ ((¬ (5 : Int32) ≤ x4) → (shAt sh x0 = some (.inr 12) ∧ ((((h.1 x0 14) < x1) → (∃ n8 : Nat, shAt sh (h.2.1 x0 13) = some (.inl (0, n8)) ∧ (vp_in (h.1 x0 14) n8 ∧ (∀ y10 : Int32, y10 = ((b8 (h.1 (h.2.1 x0 13) (h.1 x0 14).toNatClampNeg)) &&& (255 : Int32)) → (∀ h12 : Hp, h12 = wI h x0 14 ((h.1 x0 14) + (1 : Int32)) → (∀ y14 : Int64, y14 = ((x2 <<< ((7 : Int32).toInt64 &&& 63)) ||| ((y10 &&& (127 : Int32)).toInt64)) → ((((128 : Int32) ≤ y10) → (∀ y17 : Int32, y17 = x4 + (1 : Int32) → (L15 x0 x1 y14 y17 h12))) ∧ ((¬ (128 : Int32) ≤ y10) → ((((lg_cmp y14 (4294967295 : Int64)) ≤ 0) → (∀ h20 : Hp, h20 = wI h12 x0 36 (0 : Int32) → (RET y14 h20))) ∧ ((¬ (lg_cmp y14 (4294967295 : Int64)) ≤ 0) → (∀ h22 : Hp, h22 = wI h12 x0 36 (1 : Int32) → (RET y14 h22)))))))))))) ∧ ((¬ (h.1 x0 14) < x1) → (∀ h24 : Hp, h24 = wI h x0 37 (1 : Int32) → (RET (0 : Int64) h24))))))
set_option maxRecDepth 20000 in
set_option maxHeartbeats 4000000 in
theorem W_X12_big_15 {w : Wd} {E : GE} {sh : List Sh} {x0 : Nat} {x1 : Int32} {x2 : Int64} {x4 : Int32} {h : Hp} {L15 : Nat → Int32 → Int64 → Int32 → Hp → Prop} {RET : Int64 → Hp → Prop} (X : Cx w E cX12_big 6 RX12) (Tt : Rt w E (some .long) sh.length 0 0 (fun q sh9 h9 => ∃ v : Int64, q = some (Value.long v) ∧ sh9 = sh ∧ RET v h9)) (hR : gR E = { frames := 0, cells := 0, slots := 0, locals := 0 }) (hL15 : ∀ (x0 : Nat) (x1 : Int32) (x2 : Int64) (x4 : Int32) (h : Hp), L15 x0 x1 x2 x4 h → G w E 6 15 [(0, rv w.2.2.2 x0), (1, Value.int x1), (2, Value.long x2), (4, Value.int x4)] [] sh h 0 0) (hV : V_X12_big_15 w sh x0 x1 x2 x4 h L15 RET) : G w E 6 15 [(0, rv w.2.2.2 x0), (1, Value.int x1), (2, Value.long x2), (4, Value.int x4)] [] sh h 0 0 := by
  unfold V_X12_big_15 at hV
  refine g_iload (pc := 15) X 3 rfl dX12_big_15 ?_
  refine g_iconst (pc := 17) (v := (5 : Int32)) X dX12_big_17 (by decide) ?_
  refine g_icmp_ge (pc := 18) X 106 dX12_big_18 (by decide) (fun c1 => ?_) (fun c1 => ?_)
  · have hV := hV.1 c1
    refine g_aload_n (pc := 106) X 0 rfl rfl dX12_big_106 ?_
    refine g_iconst (pc := 107) (v := (1 : Int32)) X dX12_big_107 (by decide) ?_
    obtain ⟨q2, hV⟩ := hV
    refine g_putI (pc := 108) X fl_X12_157 q2 rfl rfl dX12_big_108 (fun h3 e4 => ?_)
    have hV := hV h3 e4
    refine g_lconst (pc := 111) (v := (0 : Int64)) X dX12_big_111 (by decide) ?_
    exact g_lret (pc := 112) X Tt ⟨_, rfl, rfl, hV⟩ dX12_big_112
  · have hV := hV.2 c1
    refine g_aload_n (pc := 21) X 0 rfl rfl dX12_big_21 ?_
    obtain ⟨q5, hV⟩ := hV
    refine g_getI (pc := 22) X fl_X12_150 q5 dX12_big_22 ?_
    refine g_iload_n (pc := 25) X 1 rfl rfl dX12_big_25 ?_
    refine g_icmp_lt (pc := 26) X 36 dX12_big_26 (by decide) (fun c6 => ?_) (fun c6 => ?_)
    · have hV := hV.1 c6
      refine g_aload_n (pc := 36) X 0 rfl rfl dX12_big_36 ?_
      refine g_getR (pc := 37) X fl_X12_36 q5 dX12_big_37 ?_
      refine g_aload_n (pc := 40) X 0 rfl rfl dX12_big_40 ?_
      refine g_getI (pc := 41) X fl_X12_150 q5 dX12_big_41 ?_
      obtain ⟨n8, q7, hV⟩ := hV
      obtain ⟨q9, hV⟩ := hV
      refine g_bald (pc := 44) X q7 q9 dX12_big_44 ?_
      refine g_sipush (pc := 45) (v := (255 : Int32)) X dX12_big_45 (by decide) ?_
      refine g_iand (pc := 48) X dX12_big_48 ?_
      refine g_istore (pc := 49) X (i := 5) (rest := [(0, rv w.2.2.2 x0), (1, Value.int x1), (2, Value.long x2), (4, Value.int x4)]) (by decide) rfl dX12_big_49 (fun y10 e11 => ?_)
      have hV := hV y10 e11
      refine g_aload_n (pc := 51) X 1 rfl rfl dX12_big_51 ?_
      refine g_dup (pc := 52) X dX12_big_52 (rv_cat _ _) ?_
      refine g_getI (pc := 53) X fl_X12_150 q5 dX12_big_53 ?_
      refine g_iconst (pc := 56) (v := (1 : Int32)) X dX12_big_56 (by decide) ?_
      refine g_iadd (pc := 57) X dX12_big_57 ?_
      refine g_putI (pc := 58) X fl_X12_150 q5 rfl rfl dX12_big_58 (fun h12 e13 => ?_)
      have hV := hV h12 e13
      refine g_lload_n (pc := 61) X 3 rfl rfl dX12_big_61 ?_
      refine g_bipush (pc := 62) (v := (7 : Int32)) X dX12_big_62 (by decide) ?_
      refine g_lshl (pc := 64) X dX12_big_64 ?_
      refine g_iload (pc := 65) X 0 rfl dX12_big_65 ?_
      refine g_bipush (pc := 67) (v := (127 : Int32)) X dX12_big_67 (by decide) ?_
      refine g_iand (pc := 69) X dX12_big_69 ?_
      refine g_i2l (pc := 70) X dX12_big_70 ?_
      refine g_lor (pc := 71) X dX12_big_71 ?_
      refine g_lstore_n (pc := 72) X (i := 2) (rest := [(5, Value.int y10), (0, rv w.2.2.2 x0), (1, Value.int x1), (4, Value.int x4)]) rfl (by decide) rfl dX12_big_72 (fun y14 e15 => ?_)
      have hV := hV y14 e15
      refine g_iload (pc := 73) X 1 rfl dX12_big_73 ?_
      refine g_sipush (pc := 75) (v := (128 : Int32)) X dX12_big_75 (by decide) ?_
      refine g_icmp_ge (pc := 78) X 100 dX12_big_78 (by decide) (fun c16 => ?_) (fun c16 => ?_)
      · have hV := hV.1 c16
        refine g_iinc (pc := 100) X 4 (v := (1 : Int32)) (rest := [(2, Value.long y14), (5, Value.int y10), (0, rv w.2.2.2 x0), (1, Value.int x1)]) rfl (by decide) rfl (by decide) dX12_big_100 (fun y17 e18 => ?_)
        have hV := hV y17 e18
        refine g_goto (pc := 103) X 15 dX12_big_103 (by decide) ?_
        refine g_lv [3, 4, 1, 0] rfl ?_
        exact hL15 x0 x1 y14 y17 h12 hV
      · have hV := hV.2 c16
        refine g_aload_n (pc := 81) X 2 rfl rfl dX12_big_81 ?_
        refine g_lload_n (pc := 82) X 0 rfl rfl dX12_big_82 ?_
        refine g_ldc2 (pc := 83) X kc_X12_164 dX12_big_83 ?_
        refine g_lcmp (pc := 86) X dX12_big_86 ?_
        refine g_if_le (pc := 87) X 94 dX12_big_87 (by decide) (fun c19 => ?_) (fun c19 => ?_)
        · have hV := hV.1 c19
          refine g_iconst (pc := 94) (v := (0 : Int32)) X dX12_big_94 (by decide) ?_
          refine g_putI (pc := 95) X fl_X12_157 q5 rfl rfl dX12_big_95 (fun h20 e21 => ?_)
          have hV := hV h20 e21
          refine g_lload_n (pc := 98) X 0 rfl rfl dX12_big_98 ?_
          exact g_lret (pc := 99) X Tt ⟨_, rfl, rfl, hV⟩ dX12_big_99
        · have hV := hV.2 c19
          refine g_iconst (pc := 90) (v := (1 : Int32)) X dX12_big_90 (by decide) ?_
          refine g_goto (pc := 91) X 95 dX12_big_91 (by decide) ?_
          refine g_putI (pc := 95) X fl_X12_157 q5 rfl rfl dX12_big_95 (fun h22 e23 => ?_)
          have hV := hV h22 e23
          refine g_lload_n (pc := 98) X 0 rfl rfl dX12_big_98 ?_
          exact g_lret (pc := 99) X Tt ⟨_, rfl, rfl, hV⟩ dX12_big_99
    · have hV := hV.2 c6
      refine g_aload_n (pc := 29) X 0 rfl rfl dX12_big_29 ?_
      refine g_iconst (pc := 30) (v := (1 : Int32)) X dX12_big_30 (by decide) ?_
      refine g_putI (pc := 31) X fl_X12_161 q5 rfl rfl dX12_big_31 (fun h24 e25 => ?_)
      have hV := hV h24 e25
      refine g_lconst (pc := 34) (v := (0 : Int64)) X dX12_big_34 (by decide) ?_
      exact g_lret (pc := 35) X Tt ⟨_, rfl, rfl, hV⟩ dX12_big_35
def V_X12_big_0 (w : Wd) (sh : List Sh) (x0 : Nat) (x1 : Int32) (h : Hp) (L15 : Nat → Int32 → Int64 → Int32 → Hp → Prop) (RET : Int64 → Hp → Prop) : Prop :=
  shAt sh x0 = some (.inr 12) ∧ (∀ h2 : Hp, h2 = wI h x0 36 (0 : Int32) → (∀ h4 : Hp, h4 = wI h2 x0 37 (0 : Int32) → (∀ y6 : Int64, y6 = (0 : Int64) → (∀ y8 : Int32, y8 = (0 : Int32) → (L15 x0 x1 y6 y8 h4)))))
set_option maxRecDepth 20000 in
set_option maxHeartbeats 4000000 in
theorem W_X12_big_0 {w : Wd} {E : GE} {sh : List Sh} {x0 : Nat} {x1 : Int32} {h : Hp} {L15 : Nat → Int32 → Int64 → Int32 → Hp → Prop} {RET : Int64 → Hp → Prop} (X : Cx w E cX12_big 6 RX12) (Tt : Rt w E (some .long) sh.length 0 0 (fun q sh9 h9 => ∃ v : Int64, q = some (Value.long v) ∧ sh9 = sh ∧ RET v h9)) (hR : gR E = { frames := 0, cells := 0, slots := 0, locals := 0 }) (hL15 : ∀ (x0 : Nat) (x1 : Int32) (x2 : Int64) (x4 : Int32) (h : Hp), L15 x0 x1 x2 x4 h → G w E 6 15 [(0, rv w.2.2.2 x0), (1, Value.int x1), (2, Value.long x2), (4, Value.int x4)] [] sh h 0 0) (hV : V_X12_big_0 w sh x0 x1 h L15 RET) : G w E 6 0 [(0, rv w.2.2.2 x0), (1, Value.int x1)] [] sh h 0 0 := by
  unfold V_X12_big_0 at hV
  refine g_aload_n (pc := 0) X 0 rfl rfl dX12_big_0 ?_
  refine g_iconst (pc := 1) (v := (0 : Int32)) X dX12_big_1 (by decide) ?_
  obtain ⟨q1, hV⟩ := hV
  refine g_putI (pc := 2) X fl_X12_157 q1 rfl rfl dX12_big_2 (fun h2 e3 => ?_)
  have hV := hV h2 e3
  refine g_aload_n (pc := 5) X 0 rfl rfl dX12_big_5 ?_
  refine g_iconst (pc := 6) (v := (0 : Int32)) X dX12_big_6 (by decide) ?_
  refine g_putI (pc := 7) X fl_X12_161 q1 rfl rfl dX12_big_7 (fun h4 e5 => ?_)
  have hV := hV h4 e5
  refine g_lconst (pc := 10) (v := (0 : Int64)) X dX12_big_10 (by decide) ?_
  refine g_lstore_n (pc := 11) X (i := 2) (rest := [(0, rv w.2.2.2 x0), (1, Value.int x1)]) rfl (by decide) rfl dX12_big_11 (fun y6 e7 => ?_)
  have hV := hV y6 e7
  refine g_iconst (pc := 12) (v := (0 : Int32)) X dX12_big_12 (by decide) ?_
  refine g_istore (pc := 13) X (i := 4) (rest := [(2, Value.long y6), (0, rv w.2.2.2 x0), (1, Value.int x1)]) (by decide) rfl dX12_big_13 (fun y8 e9 => ?_)
  have hV := hV y8 e9
  refine g_lv [2, 3, 1, 0] rfl ?_
  exact hL15 x0 x1 y6 y8 h4 hV
def C_X12_big (w : Wd) (sh : List Sh) (x0 : Nat) (x1 : Int32) (h : Hp) (RET : Int64 → Hp → Prop) : Prop := CJ w yX12_big (.code yX12_big cX12_big 6 (some .long)) 0 0 [rv w.2.2.2 x0, Value.int x1] sh h RET
set_option maxRecDepth 20000 in
theorem K_X12_big {w : Wd} {sh : List Sh} {x0 : Nat} {x1 : Int32} {h : Hp} {RET : Int64 → Hp → Prop} {α : Type} {r : α → α → Prop} (wf : WellFounded r) (I15 : α → Nat → Int32 → Int64 → Int32 → Hp → Prop) (hE : V_X12_big_0 w sh x0 x1 h (fun x0 x1 x2 x4 h => ∃ a, I15 a x0 x1 x2 x4 h) RET) (h15 : ∀ (b : α) (x0 : Nat) (x1 : Int32) (x2 : Int64) (x4 : Int32) (h : Hp), I15 b x0 x1 x2 x4 h → V_X12_big_15 w sh x0 x1 x2 x4 h (fun x0 x1 x2 x4 h => ∃ a, r a b ∧ I15 a x0 x1 x2 x4 h) RET) : C_X12_big w sh x0 x1 h RET :=
  Ct_of (by decide +kernel) (by simp [lg_sl, rv_cat, cat_int, cat_long]) (fun E X Tt hR _ => by
    have key : ∀ a : α, (∀ (x0 : Nat) (x1 : Int32) (x2 : Int64) (x4 : Int32) (h : Hp), I15 a x0 x1 x2 x4 h → G w E 6 15 [(0, rv w.2.2.2 x0), (1, Value.int x1), (2, Value.long x2), (4, Value.int x4)] [] sh h 0 0) := by
      intro a
      induction a using wf.induction with
      | _ a ih =>
        exact (fun x0 x1 x2 x4 h hi => W_X12_big_15 X Tt hR (fun x0 x1 x2 x4 h hx => by obtain ⟨a2, ha, hi⟩ := hx; exact (ih a2 ha) x0 x1 x2 x4 h hi) (h15 a x0 x1 x2 x4 h hi))
    rw [show lv_args 0 [rv w.2.2.2 x0, Value.int x1] = [(0, rv w.2.2.2 x0), (1, Value.int x1)] from by simp [lv_args, rv_cat, cat_int, cat_long]]
    refine g_lv [0, 1] rfl ?_
    exact W_X12_big_0 X Tt hR (fun x0 x1 x2 x4 h hx => by obtain ⟨a2, hi⟩ := hx; exact (key a2) x0 x1 x2 x4 h hi) hE)
def V_X12_headBig_57 (w : Wd) (sh : List Sh) (x0 : Nat) (x2 : Int64) (h : Hp)  (RET : Int64 → Hp → Prop) : Prop :=
  shAt sh x0 = some (.inr 12) ∧ ((((h.1 x0 6) ≤ 0) → (RET x2 h)) ∧ ((¬ (h.1 x0 6) ≤ 0) → (RET (0 : Int64) h)))
set_option maxRecDepth 20000 in
set_option maxHeartbeats 4000000 in
theorem W_X12_headBig_57 {w : Wd} {E : GE} {sh : List Sh} {x0 : Nat} {x2 : Int64} {h : Hp}  {RET : Int64 → Hp → Prop} (X : Cx w E cX12_headBig 4 RX12) (Tt : Rt w E (some .long) sh.length 0 0 (fun q sh9 h9 => ∃ v : Int64, q = some (Value.long v) ∧ sh9 = sh ∧ RET v h9)) (hR : gR E = { frames := 1, cells := 0, slots := 0, locals := 25 }) (hV : V_X12_headBig_57 w sh x0 x2 h RET) : G w E 4 57 [(0, rv w.2.2.2 x0), (2, Value.long x2)] [] sh h 0 0 := by
  unfold V_X12_headBig_57 at hV
  refine g_aload_n (pc := 57) X 0 rfl rfl dX12_headBig_57 ?_
  obtain ⟨q1, hV⟩ := hV
  refine g_getI (pc := 58) X fl_X12_141 q1 dX12_headBig_58 ?_
  refine g_if_le (pc := 61) X 68 dX12_headBig_61 (by decide) (fun c2 => ?_) (fun c2 => ?_)
  · have hV := hV.1 c2
    refine g_lload_n (pc := 68) X 1 rfl rfl dX12_headBig_68 ?_
    exact g_lret (pc := 69) X Tt ⟨_, rfl, rfl, hV⟩ dX12_headBig_69
  · have hV := hV.2 c2
    refine g_lconst (pc := 64) (v := (0 : Int64)) X dX12_headBig_64 (by decide) ?_
    refine g_goto (pc := 65) X 69 dX12_headBig_65 (by decide) ?_
    exact g_lret (pc := 69) X Tt ⟨_, rfl, rfl, hV⟩ dX12_headBig_69
def V_X12_headBig_0 (w : Wd) (sh : List Sh) (x0 : Nat) (h : Hp)  (RET : Int64 → Hp → Prop) : Prop :=
  shAt sh x0 = some (.inr 12) ∧ ((((h.1 x0 6) ≤ 0) → (∀ y3 : Int32, y3 = (h.1 x0 14) → (∃ P5 : Int64 → Hp → Prop, C_X12_big w sh x0 (h.1 x0 15) h P5 ∧ (∀ (v9 : Int64) (h8 : Hp), P5 v9 h8 → (∀ y10 : Int64, y10 = v9 → ((((h8.1 x0 37) = 0) → ((((h8.1 x0 36) = 0) → (V_X12_headBig_57 w sh x0 y10 h8 RET)) ∧ ((¬ (h8.1 x0 36) = 0) → (∃ P14 : Int32 → Hp → Prop, C_X12_fails w sh x0 (3 : Int32) y3 h8 P14 ∧ (∀ (v18 : Int32) (h17 : Hp), P14 v18 h17 → (V_X12_headBig_57 w sh x0 y10 h17 RET)))))) ∧ ((¬ (h8.1 x0 37) = 0) → (∃ P19 : Int32 → Hp → Prop, C_X12_fails w sh x0 (1 : Int32) (h8.1 x0 15) h8 P19 ∧ (∀ (v23 : Int32) (h22 : Hp), P19 v23 h22 → (V_X12_headBig_57 w sh x0 y10 h22 RET)))))))))) ∧ ((¬ (h.1 x0 6) ≤ 0) → (RET (0 : Int64) h)))
set_option maxRecDepth 20000 in
set_option maxHeartbeats 4000000 in
theorem W_X12_headBig_0 {w : Wd} {E : GE} {sh : List Sh} {x0 : Nat} {h : Hp}  {RET : Int64 → Hp → Prop} (X : Cx w E cX12_headBig 4 RX12) (Tt : Rt w E (some .long) sh.length 0 0 (fun q sh9 h9 => ∃ v : Int64, q = some (Value.long v) ∧ sh9 = sh ∧ RET v h9)) (hR : gR E = { frames := 1, cells := 0, slots := 0, locals := 25 }) (hV : V_X12_headBig_0 w sh x0 h RET) : G w E 4 0 [(0, rv w.2.2.2 x0)] [] sh h 0 0 := by
  unfold V_X12_headBig_0 at hV
  refine g_aload_n (pc := 0) X 0 rfl rfl dX12_headBig_0 ?_
  obtain ⟨q1, hV⟩ := hV
  refine g_getI (pc := 1) X fl_X12_141 q1 dX12_headBig_1 ?_
  refine g_if_le (pc := 4) X 9 dX12_headBig_4 (by decide) (fun c2 => ?_) (fun c2 => ?_)
  · have hV := hV.1 c2
    refine g_aload_n (pc := 9) X 0 rfl rfl dX12_headBig_9 ?_
    refine g_getI (pc := 10) X fl_X12_150 q1 dX12_headBig_10 ?_
    refine g_istore_n (pc := 13) X (i := 1) (rest := [(0, rv w.2.2.2 x0)]) rfl (by decide) (by simp [flt1, flt2, rv_cat, cat_int, cat_long]) dX12_headBig_13 (fun y3 e4 => ?_)
    have hV := hV y3 e4
    refine g_aload_n (pc := 14) X 1 rfl rfl dX12_headBig_14 ?_
    refine g_aload_n (pc := 15) X 1 rfl rfl dX12_headBig_15 ?_
    refine g_getI (pc := 16) X fl_X12_147 q1 dX12_headBig_16 ?_
    obtain ⟨P5, t6, hV⟩ := hV
    refine g_cVJ (pc := 19) X (As := [Value.int (h.1 x0 15)]) ml_X12_166 rfl q1 t6 (by rw [hR]; exact ⟨by decide, by decide, by decide, by decide⟩) rfl rfl (Nat.zero_le _) dX12_headBig_19 (fun v9 h8 p7 => ?_)
    have hV := hV v9 h8 p7
    refine g_lstore_n (pc := 22) X (i := 2) (rest := [(1, Value.int y3), (0, rv w.2.2.2 x0)]) rfl (by decide) rfl dX12_headBig_22 (fun y10 e11 => ?_)
    have hV := hV y10 e11
    refine g_aload_n (pc := 23) X 2 rfl rfl dX12_headBig_23 ?_
    refine g_getI (pc := 24) X fl_X12_161 q1 dX12_headBig_24 ?_
    refine g_if_eq (pc := 27) X 43 dX12_headBig_27 (by decide) (fun c12 => ?_) (fun c12 => ?_)
    · have hV := hV.1 c12
      refine g_aload_n (pc := 43) X 2 rfl rfl dX12_headBig_43 ?_
      refine g_getI (pc := 44) X fl_X12_157 q1 dX12_headBig_44 ?_
      refine g_if_eq (pc := 47) X 57 dX12_headBig_47 (by decide) (fun c13 => ?_) (fun c13 => ?_)
      · have hV := hV.1 c13
        refine g_lv [2, 0] rfl ?_
        exact W_X12_headBig_57 X Tt hR hV
      · have hV := hV.2 c13
        refine g_aload_n (pc := 50) X 2 rfl rfl dX12_headBig_50 ?_
        refine g_iconst (pc := 51) (v := (3 : Int32)) X dX12_headBig_51 (by decide) ?_
        refine g_iload_n (pc := 52) X 1 rfl rfl dX12_headBig_52 ?_
        obtain ⟨P14, t15, hV⟩ := hV
        refine g_cVI (pc := 53) X (As := [Value.int (3 : Int32), Value.int y3]) ml_X12_153 rfl q1 t15 (by rw [hR]; exact ⟨by decide, by decide, by decide, by decide⟩) rfl rfl (Nat.zero_le _) dX12_headBig_53 (fun v18 h17 p16 => ?_)
        have hV := hV v18 h17 p16
        refine g_pop (pc := 56) X dX12_headBig_56 (rfl) ?_
        refine g_lv [2, 0] rfl ?_
        exact W_X12_headBig_57 X Tt hR hV
    · have hV := hV.2 c12
      refine g_aload_n (pc := 30) X 2 rfl rfl dX12_headBig_30 ?_
      refine g_iconst (pc := 31) (v := (1 : Int32)) X dX12_headBig_31 (by decide) ?_
      refine g_aload_n (pc := 32) X 2 rfl rfl dX12_headBig_32 ?_
      refine g_getI (pc := 33) X fl_X12_147 q1 dX12_headBig_33 ?_
      obtain ⟨P19, t20, hV⟩ := hV
      refine g_cVI (pc := 36) X (As := [Value.int (1 : Int32), Value.int (h8.1 x0 15)]) ml_X12_153 rfl q1 t20 (by rw [hR]; exact ⟨by decide, by decide, by decide, by decide⟩) rfl rfl (Nat.zero_le _) dX12_headBig_36 (fun v23 h22 p21 => ?_)
      have hV := hV v23 h22 p21
      refine g_pop (pc := 39) X dX12_headBig_39 (rfl) ?_
      refine g_goto (pc := 40) X 57 dX12_headBig_40 (by decide) ?_
      refine g_lv [2, 0] rfl ?_
      exact W_X12_headBig_57 X Tt hR hV
  · have hV := hV.2 c2
    refine g_lconst (pc := 7) (v := (0 : Int64)) X dX12_headBig_7 (by decide) ?_
    exact g_lret (pc := 8) X Tt ⟨_, rfl, rfl, hV⟩ dX12_headBig_8
def C_X12_headBig (w : Wd) (sh : List Sh) (x0 : Nat) (h : Hp) (RET : Int64 → Hp → Prop) : Prop := CJ w yX12_headBig (.code yX12_headBig cX12_headBig 4 (some .long)) 1 25 [rv w.2.2.2 x0] sh h RET
theorem K_X12_headBig {w : Wd} {sh : List Sh} {x0 : Nat} {h : Hp} {RET : Int64 → Hp → Prop} (hV : V_X12_headBig_0 w sh x0 h RET) : C_X12_headBig w sh x0 h RET :=
  Ct_of (by decide +kernel) (by simp [lg_sl, rv_cat, cat_int, cat_long]) (fun E X Tt hR _ => by
    rw [show lv_args 0 [rv w.2.2.2 x0] = [(0, rv w.2.2.2 x0)] from by simp [lv_args, rv_cat, cat_int, cat_long]]
    refine g_lv [0] rfl ?_
    exact W_X12_headBig_0 X Tt hR hV)
def V_X12_head_87 (w : Wd) (sh : List Sh) (x0 : Nat) (h : Hp)  (RET : Int32 → Hp → Prop) : Prop :=
  shAt sh x0 = some (.inr 12) ∧ (∃ P2 : Int32 → Hp → Prop, C_X12_fails w sh x0 (2 : Int32) (h.1 x0 14) h P2 ∧ (∀ (v6 : Int32) (h5 : Hp), P2 v6 h5 → (RET (0 : Int32) h5)))
set_option maxRecDepth 20000 in
set_option maxHeartbeats 4000000 in
theorem W_X12_head_87 {w : Wd} {E : GE} {sh : List Sh} {x0 : Nat} {h : Hp}  {RET : Int32 → Hp → Prop} (X : Cx w E cX12_head 3 RX12) (Tt : Rt w E (some .int) sh.length 0 0 (fun q sh9 h9 => ∃ v : Int32, q = some (Value.int v) ∧ sh9 = sh ∧ RET v h9)) (hR : gR E = { frames := 2, cells := 0, slots := 0, locals := 44 }) (hV : V_X12_head_87 w sh x0 h RET) : G w E 3 87 [(0, rv w.2.2.2 x0)] [] sh h 0 0 := by
  unfold V_X12_head_87 at hV
  refine g_aload_n (pc := 87) X 0 rfl rfl dX12_head_87 ?_
  refine g_iconst (pc := 88) (v := (2 : Int32)) X dX12_head_88 (by decide) ?_
  refine g_aload_n (pc := 89) X 0 rfl rfl dX12_head_89 ?_
  obtain ⟨q1, hV⟩ := hV
  refine g_getI (pc := 90) X fl_X12_150 q1 dX12_head_90 ?_
  obtain ⟨P2, t3, hV⟩ := hV
  refine g_cVI (pc := 93) X (As := [Value.int (2 : Int32), Value.int (h.1 x0 14)]) ml_X12_153 rfl q1 t3 (by rw [hR]; exact ⟨by decide, by decide, by decide, by decide⟩) rfl rfl (Nat.zero_le _) dX12_head_93 (fun v6 h5 p4 => ?_)
  have hV := hV v6 h5 p4
  refine g_pop (pc := 96) X dX12_head_96 (rfl) ?_
  refine g_iconst (pc := 97) (v := (0 : Int32)) X dX12_head_97 (by decide) ?_
  exact g_iret (pc := 98) X Tt ⟨_, rfl, rfl, hV⟩ dX12_head_98
def V_X12_head_0 (w : Wd) (sh : List Sh) (x0 : Nat) (x1 : Int32) (h : Hp)  (RET : Int32 → Hp → Prop) : Prop :=
  shAt sh x0 = some (.inr 12) ∧ (∃ P2 : Int32 → Hp → Prop, C_X12_wants w sh x0 (4 : Int64) h P2 ∧ (∀ (v6 : Int32) (h5 : Hp), P2 v6 h5 → (((¬ v6 = 0) → (∃ n9 : Nat, shAt sh (h5.2.1 x0 13) = some (.inl (0, n9)) ∧ (vp_in (h5.1 x0 14) n9 ∧ (((¬ ((b8 (h5.1 (h5.2.1 x0 13) (h5.1 x0 14).toNatClampNeg)) &&& (255 : Int32)) = (214 : Int32)) → (V_X12_head_87 w sh x0 h5 RET)) ∧ ((((b8 (h5.1 (h5.2.1 x0 13) (h5.1 x0 14).toNatClampNeg)) &&& (255 : Int32)) = (214 : Int32)) → (vp_in ((h5.1 x0 14) + (1 : Int32)) n9 ∧ (((¬ ((b8 (h5.1 (h5.2.1 x0 13) ((h5.1 x0 14) + (1 : Int32)).toNatClampNeg)) &&& (255 : Int32)) = (195 : Int32)) → (V_X12_head_87 w sh x0 h5 RET)) ∧ ((((b8 (h5.1 (h5.2.1 x0 13) ((h5.1 x0 14) + (1 : Int32)).toNatClampNeg)) &&& (255 : Int32)) = (195 : Int32)) → (vp_in ((h5.1 x0 14) + (2 : Int32)) n9 ∧ (((¬ ((b8 (h5.1 (h5.2.1 x0 13) ((h5.1 x0 14) + (2 : Int32)).toNatClampNeg)) &&& (255 : Int32)) = (196 : Int32)) → (V_X12_head_87 w sh x0 h5 RET)) ∧ ((((b8 (h5.1 (h5.2.1 x0 13) ((h5.1 x0 14) + (2 : Int32)).toNatClampNeg)) &&& (255 : Int32)) = (196 : Int32)) → (vp_in ((h5.1 x0 14) + (3 : Int32)) n9 ∧ ((((b8 (h5.1 (h5.2.1 x0 13) ((h5.1 x0 14) + (3 : Int32)).toNatClampNeg)) = 0) → (∀ h18 : Hp, h18 = wI h5 x0 14 ((h5.1 x0 14) + (4 : Int32)) → (∃ P20 : Int32 → Hp → Prop, C_X12_wants w sh x0 (1 : Int64) h18 P20 ∧ (∀ (v24 : Int32) (h23 : Hp), P20 v24 h23 → (((¬ v24 = 0) → (∃ n27 : Nat, shAt sh (h23.2.1 x0 13) = some (.inl (0, n27)) ∧ (vp_in (h23.1 x0 14) n27 ∧ (∀ y29 : Int32, y29 = ((b8 (h23.1 (h23.2.1 x0 13) (h23.1 x0 14).toNatClampNeg)) &&& (255 : Int32)) → ((((y29 &&& (x1 ^^^ (-1 : Int32))) = 0) → (∀ h32 : Hp, h32 = wI h23 x0 14 ((h23.1 x0 14) + (1 : Int32)) → (RET y29 h32))) ∧ ((¬ (y29 &&& (x1 ^^^ (-1 : Int32))) = 0) → (∃ P34 : Int32 → Hp → Prop, C_X12_fails w sh x0 (4 : Int32) (h23.1 x0 14) h23 P34 ∧ (∀ (v38 : Int32) (h37 : Hp), P34 v38 h37 → (RET (0 : Int32) h37))))))))) ∧ ((v24 = 0) → (RET (0 : Int32) h23))))))) ∧ ((¬ (b8 (h5.1 (h5.2.1 x0 13) ((h5.1 x0 14) + (3 : Int32)).toNatClampNeg)) = 0) → (V_X12_head_87 w sh x0 h5 RET))))))))))))))) ∧ ((v6 = 0) → (RET (0 : Int32) h5)))))
set_option maxRecDepth 20000 in
set_option maxHeartbeats 4000000 in
theorem W_X12_head_0 {w : Wd} {E : GE} {sh : List Sh} {x0 : Nat} {x1 : Int32} {h : Hp}  {RET : Int32 → Hp → Prop} (X : Cx w E cX12_head 3 RX12) (Tt : Rt w E (some .int) sh.length 0 0 (fun q sh9 h9 => ∃ v : Int32, q = some (Value.int v) ∧ sh9 = sh ∧ RET v h9)) (hR : gR E = { frames := 2, cells := 0, slots := 0, locals := 44 }) (hV : V_X12_head_0 w sh x0 x1 h RET) : G w E 3 0 [(0, rv w.2.2.2 x0), (1, Value.int x1)] [] sh h 0 0 := by
  unfold V_X12_head_0 at hV
  refine g_aload_n (pc := 0) X 0 rfl rfl dX12_head_0 ?_
  refine g_ldc2 (pc := 1) X kc_X12_170 dX12_head_1 ?_
  obtain ⟨q1, hV⟩ := hV
  obtain ⟨P2, t3, hV⟩ := hV
  refine g_cVI (pc := 4) X (As := [Value.long (4 : Int64)]) ml_X12_172 rfl q1 t3 (by rw [hR]; exact ⟨by decide, by decide, by decide, by decide⟩) rfl rfl (Nat.zero_le _) dX12_head_4 (fun v6 h5 p4 => ?_)
  have hV := hV v6 h5 p4
  refine g_if_ne (pc := 7) X 12 dX12_head_7 (by decide) (fun c7 => ?_) (fun c7 => ?_)
  · have hV := hV.1 c7
    refine g_aload_n (pc := 12) X 0 rfl rfl dX12_head_12 ?_
    refine g_getR (pc := 13) X fl_X12_36 q1 dX12_head_13 ?_
    refine g_aload_n (pc := 16) X 0 rfl rfl dX12_head_16 ?_
    refine g_getI (pc := 17) X fl_X12_150 q1 dX12_head_17 ?_
    obtain ⟨n9, q8, hV⟩ := hV
    obtain ⟨q10, hV⟩ := hV
    refine g_bald (pc := 20) X q8 q10 dX12_head_20 ?_
    refine g_sipush (pc := 21) (v := (255 : Int32)) X dX12_head_21 (by decide) ?_
    refine g_iand (pc := 24) X dX12_head_24 ?_
    refine g_sipush (pc := 25) (v := (214 : Int32)) X dX12_head_25 (by decide) ?_
    refine g_icmp_ne (pc := 28) X 87 dX12_head_28 (by decide) (fun c11 => ?_) (fun c11 => ?_)
    · have hV := hV.1 c11
      refine g_lv [0] rfl ?_
      exact W_X12_head_87 X Tt hR hV
    · have hV := hV.2 c11
      refine g_aload_n (pc := 31) X 0 rfl rfl dX12_head_31 ?_
      refine g_getR (pc := 32) X fl_X12_36 q1 dX12_head_32 ?_
      refine g_aload_n (pc := 35) X 0 rfl rfl dX12_head_35 ?_
      refine g_getI (pc := 36) X fl_X12_150 q1 dX12_head_36 ?_
      refine g_iconst (pc := 39) (v := (1 : Int32)) X dX12_head_39 (by decide) ?_
      refine g_iadd (pc := 40) X dX12_head_40 ?_
      obtain ⟨q12, hV⟩ := hV
      refine g_bald (pc := 41) X q8 q12 dX12_head_41 ?_
      refine g_sipush (pc := 42) (v := (255 : Int32)) X dX12_head_42 (by decide) ?_
      refine g_iand (pc := 45) X dX12_head_45 ?_
      refine g_sipush (pc := 46) (v := (195 : Int32)) X dX12_head_46 (by decide) ?_
      refine g_icmp_ne (pc := 49) X 87 dX12_head_49 (by decide) (fun c13 => ?_) (fun c13 => ?_)
      · have hV := hV.1 c13
        refine g_lv [0] rfl ?_
        exact W_X12_head_87 X Tt hR hV
      · have hV := hV.2 c13
        refine g_aload_n (pc := 52) X 0 rfl rfl dX12_head_52 ?_
        refine g_getR (pc := 53) X fl_X12_36 q1 dX12_head_53 ?_
        refine g_aload_n (pc := 56) X 0 rfl rfl dX12_head_56 ?_
        refine g_getI (pc := 57) X fl_X12_150 q1 dX12_head_57 ?_
        refine g_iconst (pc := 60) (v := (2 : Int32)) X dX12_head_60 (by decide) ?_
        refine g_iadd (pc := 61) X dX12_head_61 ?_
        obtain ⟨q14, hV⟩ := hV
        refine g_bald (pc := 62) X q8 q14 dX12_head_62 ?_
        refine g_sipush (pc := 63) (v := (255 : Int32)) X dX12_head_63 (by decide) ?_
        refine g_iand (pc := 66) X dX12_head_66 ?_
        refine g_sipush (pc := 67) (v := (196 : Int32)) X dX12_head_67 (by decide) ?_
        refine g_icmp_ne (pc := 70) X 87 dX12_head_70 (by decide) (fun c15 => ?_) (fun c15 => ?_)
        · have hV := hV.1 c15
          refine g_lv [0] rfl ?_
          exact W_X12_head_87 X Tt hR hV
        · have hV := hV.2 c15
          refine g_aload_n (pc := 73) X 0 rfl rfl dX12_head_73 ?_
          refine g_getR (pc := 74) X fl_X12_36 q1 dX12_head_74 ?_
          refine g_aload_n (pc := 77) X 0 rfl rfl dX12_head_77 ?_
          refine g_getI (pc := 78) X fl_X12_150 q1 dX12_head_78 ?_
          refine g_iconst (pc := 81) (v := (3 : Int32)) X dX12_head_81 (by decide) ?_
          refine g_iadd (pc := 82) X dX12_head_82 ?_
          obtain ⟨q16, hV⟩ := hV
          refine g_bald (pc := 83) X q8 q16 dX12_head_83 ?_
          refine g_if_eq (pc := 84) X 99 dX12_head_84 (by decide) (fun c17 => ?_) (fun c17 => ?_)
          · have hV := hV.1 c17
            refine g_aload_n (pc := 99) X 0 rfl rfl dX12_head_99 ?_
            refine g_dup (pc := 100) X dX12_head_100 (rv_cat _ _) ?_
            refine g_getI (pc := 101) X fl_X12_150 q1 dX12_head_101 ?_
            refine g_iconst (pc := 104) (v := (4 : Int32)) X dX12_head_104 (by decide) ?_
            refine g_iadd (pc := 105) X dX12_head_105 ?_
            refine g_putI (pc := 106) X fl_X12_150 q1 rfl rfl dX12_head_106 (fun h18 e19 => ?_)
            have hV := hV h18 e19
            refine g_aload_n (pc := 109) X 0 rfl rfl dX12_head_109 ?_
            refine g_lconst (pc := 110) (v := (1 : Int64)) X dX12_head_110 (by decide) ?_
            obtain ⟨P20, t21, hV⟩ := hV
            refine g_cVI (pc := 111) X (As := [Value.long (1 : Int64)]) ml_X12_172 rfl q1 t21 (by rw [hR]; exact ⟨by decide, by decide, by decide, by decide⟩) rfl rfl (Nat.zero_le _) dX12_head_111 (fun v24 h23 p22 => ?_)
            have hV := hV v24 h23 p22
            refine g_if_ne (pc := 114) X 119 dX12_head_114 (by decide) (fun c25 => ?_) (fun c25 => ?_)
            · have hV := hV.1 c25
              refine g_aload_n (pc := 119) X 0 rfl rfl dX12_head_119 ?_
              refine g_getR (pc := 120) X fl_X12_36 q1 dX12_head_120 ?_
              refine g_aload_n (pc := 123) X 0 rfl rfl dX12_head_123 ?_
              refine g_getI (pc := 124) X fl_X12_150 q1 dX12_head_124 ?_
              obtain ⟨n27, q26, hV⟩ := hV
              obtain ⟨q28, hV⟩ := hV
              refine g_bald (pc := 127) X q26 q28 dX12_head_127 ?_
              refine g_sipush (pc := 128) (v := (255 : Int32)) X dX12_head_128 (by decide) ?_
              refine g_iand (pc := 131) X dX12_head_131 ?_
              refine g_istore_n (pc := 132) X (i := 2) (rest := [(0, rv w.2.2.2 x0), (1, Value.int x1)]) rfl (by decide) rfl dX12_head_132 (fun y29 e30 => ?_)
              have hV := hV y29 e30
              refine g_iload_n (pc := 133) X 0 rfl rfl dX12_head_133 ?_
              refine g_iload_n (pc := 134) X 2 rfl rfl dX12_head_134 ?_
              refine g_iconst (pc := 135) (v := (-1 : Int32)) X dX12_head_135 (by decide) ?_
              refine g_ixor (pc := 136) X dX12_head_136 ?_
              refine g_iand (pc := 137) X dX12_head_137 ?_
              refine g_if_eq (pc := 138) X 153 dX12_head_138 (by decide) (fun c31 => ?_) (fun c31 => ?_)
              · have hV := hV.1 c31
                refine g_aload_n (pc := 153) X 1 rfl rfl dX12_head_153 ?_
                refine g_dup (pc := 154) X dX12_head_154 (rv_cat _ _) ?_
                refine g_getI (pc := 155) X fl_X12_150 q1 dX12_head_155 ?_
                refine g_iconst (pc := 158) (v := (1 : Int32)) X dX12_head_158 (by decide) ?_
                refine g_iadd (pc := 159) X dX12_head_159 ?_
                refine g_putI (pc := 160) X fl_X12_150 q1 rfl rfl dX12_head_160 (fun h32 e33 => ?_)
                have hV := hV h32 e33
                refine g_iload_n (pc := 163) X 0 rfl rfl dX12_head_163 ?_
                exact g_iret (pc := 164) X Tt ⟨_, rfl, rfl, hV⟩ dX12_head_164
              · have hV := hV.2 c31
                refine g_aload_n (pc := 141) X 1 rfl rfl dX12_head_141 ?_
                refine g_iconst (pc := 142) (v := (4 : Int32)) X dX12_head_142 (by decide) ?_
                refine g_aload_n (pc := 143) X 1 rfl rfl dX12_head_143 ?_
                refine g_getI (pc := 144) X fl_X12_150 q1 dX12_head_144 ?_
                obtain ⟨P34, t35, hV⟩ := hV
                refine g_cVI (pc := 147) X (As := [Value.int (4 : Int32), Value.int (h23.1 x0 14)]) ml_X12_153 rfl q1 t35 (by rw [hR]; exact ⟨by decide, by decide, by decide, by decide⟩) rfl rfl (Nat.zero_le _) dX12_head_147 (fun v38 h37 p36 => ?_)
                have hV := hV v38 h37 p36
                refine g_pop (pc := 150) X dX12_head_150 (rfl) ?_
                refine g_iconst (pc := 151) (v := (0 : Int32)) X dX12_head_151 (by decide) ?_
                exact g_iret (pc := 152) X Tt ⟨_, rfl, rfl, hV⟩ dX12_head_152
            · have hV := hV.2 c25
              refine g_iconst (pc := 117) (v := (0 : Int32)) X dX12_head_117 (by decide) ?_
              exact g_iret (pc := 118) X Tt ⟨_, rfl, rfl, hV⟩ dX12_head_118
          · have hV := hV.2 c17
            refine g_lv [0] rfl ?_
            exact W_X12_head_87 X Tt hR hV
  · have hV := hV.2 c7
    refine g_iconst (pc := 10) (v := (0 : Int32)) X dX12_head_10 (by decide) ?_
    exact g_iret (pc := 11) X Tt ⟨_, rfl, rfl, hV⟩ dX12_head_11
def C_X12_head (w : Wd) (sh : List Sh) (x0 : Nat) (x1 : Int32) (h : Hp) (RET : Int32 → Hp → Prop) : Prop := CI w yX12_head (.code yX12_head cX12_head 3 (some .int)) 2 44 [rv w.2.2.2 x0, Value.int x1] sh h RET
theorem K_X12_head {w : Wd} {sh : List Sh} {x0 : Nat} {x1 : Int32} {h : Hp} {RET : Int32 → Hp → Prop} (hV : V_X12_head_0 w sh x0 x1 h RET) : C_X12_head w sh x0 x1 h RET :=
  Ct_of (by decide +kernel) (by simp [lg_sl, rv_cat, cat_int, cat_long]) (fun E X Tt hR _ => by
    rw [show lv_args 0 [rv w.2.2.2 x0, Value.int x1] = [(0, rv w.2.2.2 x0), (1, Value.int x1)] from by simp [lv_args, rv_cat, cat_int, cat_long]]
    refine g_lv [0, 1] rfl ?_
    exact W_X12_head_0 X Tt hR hV)
def V_X12_appendix_0 (w : Wd) (sh : List Sh) (x0 : Nat) (h : Hp)  (RET : Hp → Prop) : Prop :=
  shAt sh x0 = some (.inr 12) ∧ (∃ P2 : Int64 → Hp → Prop, C_X12_headBig w sh x0 h P2 ∧ (∀ (v6 : Int64) (h5 : Hp), P2 v6 h5 → (∀ y7 : Int64, y7 = v6 → (∃ P9 : Int32 → Hp → Prop, C_X12_wants w sh x0 y7 h5 P9 ∧ (∀ (v13 : Int32) (h12 : Hp), P9 v13 h12 → (((v13 = 0) → (RET h12)) ∧ ((¬ v13 = 0) → (∀ h15 : Hp, h15 = wI h12 x0 14 ((h12.1 x0 14) + (y7.toInt32)) → ((((h15.1 x0 19) = 0) → (∃ n19 : Nat, shAt sh (h12.2.1 x0 30) = some (.inl (1, n19)) ∧ (vp_in (6 : Int32) n19 ∧ (vp_in (6 : Int32) n19 ∧ (∀ h22 : Hp, h22 = wI h15 (h12.2.1 x0 30) (6 : Int32).toNatClampNeg (h15.1 (h12.2.1 x0 30) (6 : Int32).toNatClampNeg) → (RET h22)))))) ∧ ((¬ (h15.1 x0 19) = 0) → (∃ n25 : Nat, shAt sh (h12.2.1 x0 30) = some (.inl (1, n25)) ∧ (vp_in (6 : Int32) n25 ∧ (∀ h27 : Hp, h27 = wI h15 (h12.2.1 x0 30) (6 : Int32).toNatClampNeg (y7.toInt32) → (RET h27))))))))))))))
set_option maxRecDepth 20000 in
set_option maxHeartbeats 4000000 in
theorem W_X12_appendix_0 {w : Wd} {E : GE} {sh : List Sh} {x0 : Nat} {h : Hp}  {RET : Hp → Prop} (X : Cx w E cX12_appendix 3 RX12) (Tt : Rt w E none sh.length 0 0 (fun q sh9 h9 => q = none ∧ sh9 = sh ∧ RET h9)) (hR : gR E = { frames := 2, cells := 0, slots := 0, locals := 48 }) (hV : V_X12_appendix_0 w sh x0 h RET) : G w E 3 0 [(0, rv w.2.2.2 x0)] [] sh h 0 0 := by
  unfold V_X12_appendix_0 at hV
  refine g_aload_n (pc := 0) X 0 rfl rfl dX12_appendix_0 ?_
  obtain ⟨q1, hV⟩ := hV
  obtain ⟨P2, t3, hV⟩ := hV
  refine g_cVJ (pc := 1) X (As := []) ml_X12_176 rfl q1 t3 (by rw [hR]; exact ⟨by decide, by decide, by decide, by decide⟩) rfl rfl (Nat.zero_le _) dX12_appendix_1 (fun v6 h5 p4 => ?_)
  have hV := hV v6 h5 p4
  refine g_lstore_n (pc := 4) X (i := 1) (rest := [(0, rv w.2.2.2 x0)]) rfl (by decide) (by simp [flt1, flt2, rv_cat, cat_int, cat_long]) dX12_appendix_4 (fun y7 e8 => ?_)
  have hV := hV y7 e8
  refine g_aload_n (pc := 5) X 1 rfl rfl dX12_appendix_5 ?_
  refine g_lload_n (pc := 6) X 0 rfl rfl dX12_appendix_6 ?_
  obtain ⟨P9, t10, hV⟩ := hV
  refine g_cVI (pc := 7) X (As := [Value.long y7]) ml_X12_172 rfl q1 t10 (by rw [hR]; exact ⟨by decide, by decide, by decide, by decide⟩) rfl rfl (Nat.zero_le _) dX12_appendix_7 (fun v13 h12 p11 => ?_)
  have hV := hV v13 h12 p11
  refine g_if_eq (pc := 10) X 50 dX12_appendix_10 (by decide) (fun c14 => ?_) (fun c14 => ?_)
  · have hV := hV.1 c14
    exact g_vret (pc := 50) X Tt ⟨rfl, rfl, hV⟩ dX12_appendix_50
  · have hV := hV.2 c14
    refine g_aload_n (pc := 13) X 1 rfl rfl dX12_appendix_13 ?_
    refine g_dup (pc := 14) X dX12_appendix_14 (rv_cat _ _) ?_
    refine g_getI (pc := 15) X fl_X12_150 q1 dX12_appendix_15 ?_
    refine g_lload_n (pc := 18) X 0 rfl rfl dX12_appendix_18 ?_
    refine g_l2i (pc := 19) X dX12_appendix_19 ?_
    refine g_iadd (pc := 20) X dX12_appendix_20 ?_
    refine g_putI (pc := 21) X fl_X12_150 q1 rfl rfl dX12_appendix_21 (fun h15 e16 => ?_)
    have hV := hV h15 e16
    refine g_aload_n (pc := 24) X 1 rfl rfl dX12_appendix_24 ?_
    refine g_getRe (pc := 25) X fl_X12_61 q1 (congrFun (congrFun (rfI e16) _) _) dX12_appendix_25 ?_
    refine g_bipush (pc := 28) (v := (6 : Int32)) X dX12_appendix_28 (by decide) ?_
    refine g_aload_n (pc := 30) X 1 rfl rfl dX12_appendix_30 ?_
    refine g_getI (pc := 31) X fl_X12_180 q1 dX12_appendix_31 ?_
    refine g_if_eq (pc := 34) X 42 dX12_appendix_34 (by decide) (fun c17 => ?_) (fun c17 => ?_)
    · have hV := hV.1 c17
      refine g_aload_n (pc := 42) X 1 rfl rfl dX12_appendix_42 ?_
      refine g_getRe (pc := 43) X fl_X12_61 q1 (congrFun (congrFun (rfI e16) _) _) dX12_appendix_43 ?_
      refine g_bipush (pc := 46) (v := (6 : Int32)) X dX12_appendix_46 (by decide) ?_
      obtain ⟨n19, q18, hV⟩ := hV
      obtain ⟨q20, hV⟩ := hV
      refine g_iald (pc := 48) X q18 q20 dX12_appendix_48 ?_
      obtain ⟨q21, hV⟩ := hV
      refine g_iast (pc := 49) X q18 q21 dX12_appendix_49 (fun h22 e23 => ?_)
      have hV := hV h22 e23
      exact g_vret (pc := 50) X Tt ⟨rfl, rfl, hV⟩ dX12_appendix_50
    · have hV := hV.2 c17
      refine g_lload_n (pc := 37) X 0 rfl rfl dX12_appendix_37 ?_
      refine g_l2i (pc := 38) X dX12_appendix_38 ?_
      refine g_goto (pc := 39) X 49 dX12_appendix_39 (by decide) ?_
      obtain ⟨n25, q24, hV⟩ := hV
      obtain ⟨q26, hV⟩ := hV
      refine g_iast (pc := 49) X q24 q26 dX12_appendix_49 (fun h27 e28 => ?_)
      have hV := hV h27 e28
      exact g_vret (pc := 50) X Tt ⟨rfl, rfl, hV⟩ dX12_appendix_50
def C_X12_appendix (w : Wd) (sh : List Sh) (x0 : Nat) (h : Hp) (RET : Hp → Prop) : Prop := CV w yX12_appendix (.code yX12_appendix cX12_appendix 3 none) 2 48 [rv w.2.2.2 x0] sh h RET
theorem K_X12_appendix {w : Wd} {sh : List Sh} {x0 : Nat} {h : Hp} {RET : Hp → Prop} (hV : V_X12_appendix_0 w sh x0 h RET) : C_X12_appendix w sh x0 h RET :=
  Ct_of (by decide +kernel) (by simp [lg_sl, rv_cat, cat_int, cat_long]) (fun E X Tt hR _ => by
    rw [show lv_args 0 [rv w.2.2.2 x0] = [(0, rv w.2.2.2 x0)] from by simp [lv_args, rv_cat, cat_int, cat_long]]
    refine g_lv [0] rfl ?_
    exact W_X12_appendix_0 X Tt hR hV)
def V_X12_noCaches_23 (w : Wd) (sh : List Sh) (x0 : Nat) (x1 : Int32) (h : Hp) (L2 : Nat → Int32 → Hp → Prop) (L23 : Nat → Int32 → Hp → Prop) (RET : Hp → Prop) : Prop :=
  (((4096 : Int32) ≤ x1) → (shAt sh x0 = some (.inr 12) ∧ (∀ h3 : Hp, h3 = wI h x0 29 (0 : Int32) → (RET h3)))) ∧ ((¬ (4096 : Int32) ≤ x1) → (shAt sh x0 = some (.inr 12) ∧ (∃ n7 : Nat, shAt sh (h.2.1 x0 28) = some (.inl (2, n7)) ∧ (vp_in x1 n7 ∧ (∀ h9 : Hp, h9 = wJ h (h.2.1 x0 28) x1.toNatClampNeg (0 : Int64) → (∀ y11 : Int32, y11 = x1 + (1 : Int32) → (L23 x0 y11 h9)))))))
set_option maxRecDepth 20000 in
set_option maxHeartbeats 4000000 in
theorem W_X12_noCaches_23 {w : Wd} {E : GE} {sh : List Sh} {x0 : Nat} {x1 : Int32} {h : Hp} {L2 : Nat → Int32 → Hp → Prop} {L23 : Nat → Int32 → Hp → Prop} {RET : Hp → Prop} (X : Cx w E cX12_noCaches 2 RX12) (Tt : Rt w E none sh.length 0 0 (fun q sh9 h9 => q = none ∧ sh9 = sh ∧ RET h9)) (hR : gR E = { frames := 0, cells := 0, slots := 0, locals := 0 }) (hL2 : ∀ (x0 : Nat) (x1 : Int32) (h : Hp), L2 x0 x1 h → G w E 2 2 [(0, rv w.2.2.2 x0), (1, Value.int x1)] [] sh h 0 0) (hL23 : ∀ (x0 : Nat) (x1 : Int32) (h : Hp), L23 x0 x1 h → G w E 2 23 [(0, rv w.2.2.2 x0), (1, Value.int x1)] [] sh h 0 0) (hV : V_X12_noCaches_23 w sh x0 x1 h L2 L23 RET) : G w E 2 23 [(0, rv w.2.2.2 x0), (1, Value.int x1)] [] sh h 0 0 := by
  unfold V_X12_noCaches_23 at hV
  refine g_iload_n (pc := 23) X 1 rfl rfl dX12_noCaches_23 ?_
  refine g_sipush (pc := 24) (v := (4096 : Int32)) X dX12_noCaches_24 (by decide) ?_
  refine g_icmp_ge (pc := 27) X 43 dX12_noCaches_27 (by decide) (fun c1 => ?_) (fun c1 => ?_)
  · have hV := hV.1 c1
    refine g_aload_n (pc := 43) X 0 rfl rfl dX12_noCaches_43 ?_
    refine g_iconst (pc := 44) (v := (0 : Int32)) X dX12_noCaches_44 (by decide) ?_
    obtain ⟨q2, hV⟩ := hV
    refine g_putI (pc := 45) X fl_X12_216 q2 rfl rfl dX12_noCaches_45 (fun h3 e4 => ?_)
    have hV := hV h3 e4
    exact g_vret (pc := 48) X Tt ⟨rfl, rfl, hV⟩ dX12_noCaches_48
  · have hV := hV.2 c1
    refine g_aload_n (pc := 30) X 0 rfl rfl dX12_noCaches_30 ?_
    obtain ⟨q5, hV⟩ := hV
    refine g_getR (pc := 31) X fl_X12_58 q5 dX12_noCaches_31 ?_
    refine g_iload_n (pc := 34) X 1 rfl rfl dX12_noCaches_34 ?_
    refine g_lconst (pc := 35) (v := (0 : Int64)) X dX12_noCaches_35 (by decide) ?_
    obtain ⟨n7, q6, hV⟩ := hV
    obtain ⟨q8, hV⟩ := hV
    refine g_last (pc := 36) X q6 q8 dX12_noCaches_36 (fun h9 e10 => ?_)
    have hV := hV h9 e10
    refine g_iinc (pc := 37) X 1 (v := (1 : Int32)) (rest := [(0, rv w.2.2.2 x0)]) rfl (by decide) (by simp [flt1, flt2, rv_cat, cat_int, cat_long]) (by decide) dX12_noCaches_37 (fun y11 e12 => ?_)
    have hV := hV y11 e12
    refine g_goto (pc := 40) X 23 dX12_noCaches_40 (by decide) ?_
    refine g_lv [1, 0] rfl ?_
    exact hL23 x0 y11 h9 hV
def V_X12_noCaches_2 (w : Wd) (sh : List Sh) (x0 : Nat) (x1 : Int32) (h : Hp) (L2 : Nat → Int32 → Hp → Prop) (L23 : Nat → Int32 → Hp → Prop) (RET : Hp → Prop) : Prop :=
  (((32 : Int32) ≤ x1) → (∀ y2 : Int32, y2 = (0 : Int32) → (L23 x0 y2 h))) ∧ ((¬ (32 : Int32) ≤ x1) → (shAt sh x0 = some (.inr 12) ∧ (∃ n6 : Nat, shAt sh (h.2.1 x0 27) = some (.inl (2, n6)) ∧ (vp_in x1 n6 ∧ (∀ h8 : Hp, h8 = wJ h (h.2.1 x0 27) x1.toNatClampNeg (0 : Int64) → (∀ y10 : Int32, y10 = x1 + (1 : Int32) → (L2 x0 y10 h8)))))))
set_option maxRecDepth 20000 in
set_option maxHeartbeats 4000000 in
theorem W_X12_noCaches_2 {w : Wd} {E : GE} {sh : List Sh} {x0 : Nat} {x1 : Int32} {h : Hp} {L2 : Nat → Int32 → Hp → Prop} {L23 : Nat → Int32 → Hp → Prop} {RET : Hp → Prop} (X : Cx w E cX12_noCaches 2 RX12) (Tt : Rt w E none sh.length 0 0 (fun q sh9 h9 => q = none ∧ sh9 = sh ∧ RET h9)) (hR : gR E = { frames := 0, cells := 0, slots := 0, locals := 0 }) (hL2 : ∀ (x0 : Nat) (x1 : Int32) (h : Hp), L2 x0 x1 h → G w E 2 2 [(0, rv w.2.2.2 x0), (1, Value.int x1)] [] sh h 0 0) (hL23 : ∀ (x0 : Nat) (x1 : Int32) (h : Hp), L23 x0 x1 h → G w E 2 23 [(0, rv w.2.2.2 x0), (1, Value.int x1)] [] sh h 0 0) (hV : V_X12_noCaches_2 w sh x0 x1 h L2 L23 RET) : G w E 2 2 [(0, rv w.2.2.2 x0), (1, Value.int x1)] [] sh h 0 0 := by
  unfold V_X12_noCaches_2 at hV
  refine g_iload_n (pc := 2) X 1 rfl rfl dX12_noCaches_2 ?_
  refine g_bipush (pc := 3) (v := (32 : Int32)) X dX12_noCaches_3 (by decide) ?_
  refine g_icmp_ge (pc := 5) X 21 dX12_noCaches_5 (by decide) (fun c1 => ?_) (fun c1 => ?_)
  · have hV := hV.1 c1
    refine g_iconst (pc := 21) (v := (0 : Int32)) X dX12_noCaches_21 (by decide) ?_
    refine g_istore_n (pc := 22) X (i := 1) (rest := [(0, rv w.2.2.2 x0)]) rfl (by decide) (by simp [flt1, flt2, rv_cat, cat_int, cat_long]) dX12_noCaches_22 (fun y2 e3 => ?_)
    have hV := hV y2 e3
    refine g_lv [1, 0] rfl ?_
    exact hL23 x0 y2 h hV
  · have hV := hV.2 c1
    refine g_aload_n (pc := 8) X 0 rfl rfl dX12_noCaches_8 ?_
    obtain ⟨q4, hV⟩ := hV
    refine g_getR (pc := 9) X fl_X12_54 q4 dX12_noCaches_9 ?_
    refine g_iload_n (pc := 12) X 1 rfl rfl dX12_noCaches_12 ?_
    refine g_lconst (pc := 13) (v := (0 : Int64)) X dX12_noCaches_13 (by decide) ?_
    obtain ⟨n6, q5, hV⟩ := hV
    obtain ⟨q7, hV⟩ := hV
    refine g_last (pc := 14) X q5 q7 dX12_noCaches_14 (fun h8 e9 => ?_)
    have hV := hV h8 e9
    refine g_iinc (pc := 15) X 1 (v := (1 : Int32)) (rest := [(0, rv w.2.2.2 x0)]) rfl (by decide) (by simp [flt1, flt2, rv_cat, cat_int, cat_long]) (by decide) dX12_noCaches_15 (fun y10 e11 => ?_)
    have hV := hV y10 e11
    refine g_goto (pc := 18) X 2 dX12_noCaches_18 (by decide) ?_
    refine g_lv [1, 0] rfl ?_
    exact hL2 x0 y10 h8 hV
def V_X12_noCaches_0 (w : Wd) (sh : List Sh) (x0 : Nat) (h : Hp) (L2 : Nat → Int32 → Hp → Prop) (L23 : Nat → Int32 → Hp → Prop) (RET : Hp → Prop) : Prop :=
  ∀ y1 : Int32, y1 = (0 : Int32) → (L2 x0 y1 h)
set_option maxRecDepth 20000 in
set_option maxHeartbeats 4000000 in
theorem W_X12_noCaches_0 {w : Wd} {E : GE} {sh : List Sh} {x0 : Nat} {h : Hp} {L2 : Nat → Int32 → Hp → Prop} {L23 : Nat → Int32 → Hp → Prop} {RET : Hp → Prop} (X : Cx w E cX12_noCaches 2 RX12) (Tt : Rt w E none sh.length 0 0 (fun q sh9 h9 => q = none ∧ sh9 = sh ∧ RET h9)) (hR : gR E = { frames := 0, cells := 0, slots := 0, locals := 0 }) (hL2 : ∀ (x0 : Nat) (x1 : Int32) (h : Hp), L2 x0 x1 h → G w E 2 2 [(0, rv w.2.2.2 x0), (1, Value.int x1)] [] sh h 0 0) (hL23 : ∀ (x0 : Nat) (x1 : Int32) (h : Hp), L23 x0 x1 h → G w E 2 23 [(0, rv w.2.2.2 x0), (1, Value.int x1)] [] sh h 0 0) (hV : V_X12_noCaches_0 w sh x0 h L2 L23 RET) : G w E 2 0 [(0, rv w.2.2.2 x0)] [] sh h 0 0 := by
  unfold V_X12_noCaches_0 at hV
  refine g_iconst (pc := 0) (v := (0 : Int32)) X dX12_noCaches_0 (by decide) ?_
  refine g_istore_n (pc := 1) X (i := 1) (rest := [(0, rv w.2.2.2 x0)]) rfl (by decide) (by simp [flt1, flt2, rv_cat, cat_int, cat_long]) dX12_noCaches_1 (fun y1 e2 => ?_)
  have hV := hV y1 e2
  refine g_lv [1, 0] rfl ?_
  exact hL2 x0 y1 h hV
def C_X12_noCaches (w : Wd) (sh : List Sh) (x0 : Nat) (h : Hp) (RET : Hp → Prop) : Prop := CV w yX12_noCaches (.code yX12_noCaches cX12_noCaches 2 none) 0 0 [rv w.2.2.2 x0] sh h RET
set_option maxRecDepth 20000 in
theorem K_X12_noCaches {w : Wd} {sh : List Sh} {x0 : Nat} {h : Hp} {RET : Hp → Prop} {α : Type} {r : α → α → Prop} (wf : WellFounded r) (I2 : α → Nat → Int32 → Hp → Prop) (I23 : α → Nat → Int32 → Hp → Prop) (hE : V_X12_noCaches_0 w sh x0 h (fun x0 x1 h => ∃ a, I2 a x0 x1 h) (fun x0 x1 h => ∃ a, I23 a x0 x1 h) RET) (h2 : ∀ (b : α) (x0 : Nat) (x1 : Int32) (h : Hp), I2 b x0 x1 h → V_X12_noCaches_2 w sh x0 x1 h (fun x0 x1 h => ∃ a, r a b ∧ I2 a x0 x1 h) (fun x0 x1 h => ∃ a, r a b ∧ I23 a x0 x1 h) RET) (h23 : ∀ (b : α) (x0 : Nat) (x1 : Int32) (h : Hp), I23 b x0 x1 h → V_X12_noCaches_23 w sh x0 x1 h (fun x0 x1 h => ∃ a, r a b ∧ I2 a x0 x1 h) (fun x0 x1 h => ∃ a, r a b ∧ I23 a x0 x1 h) RET) : C_X12_noCaches w sh x0 h RET :=
  Ct_of (by decide +kernel) (by simp [lg_sl, rv_cat, cat_int, cat_long]) (fun E X Tt hR _ => by
    have key : ∀ a : α, (∀ (x0 : Nat) (x1 : Int32) (h : Hp), I2 a x0 x1 h → G w E 2 2 [(0, rv w.2.2.2 x0), (1, Value.int x1)] [] sh h 0 0) ∧ (∀ (x0 : Nat) (x1 : Int32) (h : Hp), I23 a x0 x1 h → G w E 2 23 [(0, rv w.2.2.2 x0), (1, Value.int x1)] [] sh h 0 0) := by
      intro a
      induction a using wf.induction with
      | _ a ih =>
        exact ⟨(fun x0 x1 h hi => W_X12_noCaches_2 X Tt hR (fun x0 x1 h hx => by obtain ⟨a2, ha, hi⟩ := hx; exact ((ih a2 ha)).1 x0 x1 h hi) (fun x0 x1 h hx => by obtain ⟨a2, ha, hi⟩ := hx; exact ((ih a2 ha)).2 x0 x1 h hi) (h2 a x0 x1 h hi)), (fun x0 x1 h hi => W_X12_noCaches_23 X Tt hR (fun x0 x1 h hx => by obtain ⟨a2, ha, hi⟩ := hx; exact ((ih a2 ha)).1 x0 x1 h hi) (fun x0 x1 h hx => by obtain ⟨a2, ha, hi⟩ := hx; exact ((ih a2 ha)).2 x0 x1 h hi) (h23 a x0 x1 h hi))⟩
    rw [show lv_args 0 [rv w.2.2.2 x0] = [(0, rv w.2.2.2 x0)] from by simp [lv_args, rv_cat, cat_int, cat_long]]
    refine g_lv [0] rfl ?_
    exact W_X12_noCaches_0 X Tt hR (fun x0 x1 h hx => by obtain ⟨a2, hi⟩ := hx; exact ((key a2)).1 x0 x1 h hi) (fun x0 x1 h hx => by obtain ⟨a2, hi⟩ := hx; exact ((key a2)).2 x0 x1 h hi) hE)
def V_X12_addressBy_0 (w : Wd) (sh : List Sh) (x0 : Nat) (x1 : Int32) (h : Hp)  (RET : Int64 → Hp → Prop) : Prop :=
  shAt sh x0 = some (.inr 12) ∧ (∃ n3 : Nat, shAt sh (h.2.1 x0 10) = some (.inl (1, n3)) ∧ (vp_in (h.1 x0 18) n3 ∧ (∀ y5 : Int32, y5 = (h.1 (h.2.1 x0 10) (h.1 x0 18).toNatClampNeg) → (∀ h7 : Hp, h7 = wI h x0 36 (0 : Int32) → (∀ h9 : Hp, h9 = wI h7 x0 37 (0 : Int32) → (((x1 < ((2 : Int32) + y5)) → (∀ y12 : Int32, y12 = (h9.1 x0 14) → (∀ h14 : Hp, h14 = wI h9 x0 14 (h9.1 x0 40) → (∃ P16 : Int64 → Hp → Prop, C_X12_big w sh x0 (h14.1 x0 41) h14 P16 ∧ (∀ (v20 : Int64) (h19 : Hp), P16 v20 h19 → (∀ y21 : Int64, y21 = v20 → (∀ h23 : Hp, h23 = wI h19 x0 40 (h19.1 x0 14) → (∀ h25 : Hp, h25 = wI h23 x0 14 y12 → (((¬ x1 = 0) → (((¬ x1 = (1 : Int32)) → (∃ n30 : Nat, shAt sh (h19.2.1 x0 27) = some (.inl (2, n30)) ∧ (vp_in (x1 - (2 : Int32)) n30 ∧ (RET ((h25.2.2 (h19.2.1 x0 27) (x1 - (2 : Int32)).toNatClampNeg) + y21) h25)))) ∧ ((x1 = (1 : Int32)) → (RET (((h25.1 x0 26).toInt64) - y21) h25)))) ∧ ((x1 = 0) → (RET y21 h25))))))))))) ∧ ((¬ x1 < ((2 : Int32) + y5)) → ((((h9.1 x0 40) < (h9.1 x0 41)) → (∃ n34 : Nat, shAt sh (h.2.1 x0 13) = some (.inl (0, n34)) ∧ (vp_in (h9.1 x0 40) n34 ∧ (∀ y36 : Int32, y36 = ((b8 (h9.1 (h.2.1 x0 13) (h9.1 x0 40).toNatClampNeg)) &&& (255 : Int32)) → (∀ h38 : Hp, h38 = wI h9 x0 40 ((h9.1 x0 40) + (1 : Int32)) → (∃ n41 : Nat, shAt sh (h.2.1 x0 28) = some (.inl (2, n41)) ∧ (vp_in (((256 : Int32) * ((x1 - (2 : Int32)) - y5)) + y36) n41 ∧ (RET (h38.2.2 (h.2.1 x0 28) (((256 : Int32) * ((x1 - (2 : Int32)) - y5)) + y36).toNatClampNeg) h38)))))))) ∧ ((¬ (h9.1 x0 40) < (h9.1 x0 41)) → (∀ h43 : Hp, h43 = wI h9 x0 37 (1 : Int32) → (RET (0 : Int64) h43)))))))))))
set_option maxRecDepth 20000 in
set_option maxHeartbeats 4000000 in
theorem W_X12_addressBy_0 {w : Wd} {E : GE} {sh : List Sh} {x0 : Nat} {x1 : Int32} {h : Hp}  {RET : Int64 → Hp → Prop} (X : Cx w E cX12_addressBy 6 RX12) (Tt : Rt w E (some .long) sh.length 0 0 (fun q sh9 h9 => ∃ v : Int64, q = some (Value.long v) ∧ sh9 = sh ∧ RET v h9)) (hR : gR E = { frames := 1, cells := 0, slots := 0, locals := 25 }) (hV : V_X12_addressBy_0 w sh x0 x1 h RET) : G w E 6 0 [(0, rv w.2.2.2 x0), (1, Value.int x1)] [] sh h 0 0 := by
  unfold V_X12_addressBy_0 at hV
  refine g_aload_n (pc := 0) X 0 rfl rfl dX12_addressBy_0 ?_
  obtain ⟨q1, hV⟩ := hV
  refine g_getR (pc := 1) X fl_X12_27 q1 dX12_addressBy_1 ?_
  refine g_aload_n (pc := 4) X 0 rfl rfl dX12_addressBy_4 ?_
  refine g_getI (pc := 5) X fl_X12_183 q1 dX12_addressBy_5 ?_
  obtain ⟨n3, q2, hV⟩ := hV
  obtain ⟨q4, hV⟩ := hV
  refine g_iald (pc := 8) X q2 q4 dX12_addressBy_8 ?_
  refine g_istore_n (pc := 9) X (i := 2) (rest := [(0, rv w.2.2.2 x0), (1, Value.int x1)]) rfl (by decide) rfl dX12_addressBy_9 (fun y5 e6 => ?_)
  have hV := hV y5 e6
  refine g_aload_n (pc := 10) X 1 rfl rfl dX12_addressBy_10 ?_
  refine g_iconst (pc := 11) (v := (0 : Int32)) X dX12_addressBy_11 (by decide) ?_
  refine g_putI (pc := 12) X fl_X12_157 q1 rfl rfl dX12_addressBy_12 (fun h7 e8 => ?_)
  have hV := hV h7 e8
  refine g_aload_n (pc := 15) X 1 rfl rfl dX12_addressBy_15 ?_
  refine g_iconst (pc := 16) (v := (0 : Int32)) X dX12_addressBy_16 (by decide) ?_
  refine g_putI (pc := 17) X fl_X12_161 q1 rfl rfl dX12_addressBy_17 (fun h9 e10 => ?_)
  have hV := hV h9 e10
  refine g_iload_n (pc := 20) X 2 rfl rfl dX12_addressBy_20 ?_
  refine g_iconst (pc := 21) (v := (2 : Int32)) X dX12_addressBy_21 (by decide) ?_
  refine g_iload_n (pc := 22) X 0 rfl rfl dX12_addressBy_22 ?_
  refine g_iadd (pc := 23) X dX12_addressBy_23 ?_
  refine g_icmp_lt (pc := 24) X 86 dX12_addressBy_24 (by decide) (fun c11 => ?_) (fun c11 => ?_)
  · have hV := hV.1 c11
    refine g_aload_n (pc := 86) X 1 rfl rfl dX12_addressBy_86 ?_
    refine g_getI (pc := 87) X fl_X12_150 q1 dX12_addressBy_87 ?_
    refine g_istore_n (pc := 90) X (i := 3) (rest := [(2, Value.int y5), (0, rv w.2.2.2 x0), (1, Value.int x1)]) rfl (by decide) rfl dX12_addressBy_90 (fun y12 e13 => ?_)
    have hV := hV y12 e13
    refine g_aload_n (pc := 91) X 2 rfl rfl dX12_addressBy_91 ?_
    refine g_aload_n (pc := 92) X 2 rfl rfl dX12_addressBy_92 ?_
    refine g_getI (pc := 93) X fl_X12_245 q1 dX12_addressBy_93 ?_
    refine g_putI (pc := 96) X fl_X12_150 q1 rfl rfl dX12_addressBy_96 (fun h14 e15 => ?_)
    have hV := hV h14 e15
    refine g_aload_n (pc := 99) X 2 rfl rfl dX12_addressBy_99 ?_
    refine g_aload_n (pc := 100) X 2 rfl rfl dX12_addressBy_100 ?_
    refine g_getI (pc := 101) X fl_X12_248 q1 dX12_addressBy_101 ?_
    obtain ⟨P16, t17, hV⟩ := hV
    refine g_cVJ (pc := 104) X (As := [Value.int (h14.1 x0 41)]) ml_X12_166 rfl q1 t17 (by rw [hR]; exact ⟨by decide, by decide, by decide, by decide⟩) rfl rfl (Nat.zero_le _) dX12_addressBy_104 (fun v20 h19 p18 => ?_)
    have hV := hV v20 h19 p18
    refine g_lstore (pc := 107) X (i := 4) (rest := [(3, Value.int y12), (2, Value.int y5), (0, rv w.2.2.2 x0), (1, Value.int x1)]) (by decide) rfl dX12_addressBy_107 (fun y21 e22 => ?_)
    have hV := hV y21 e22
    refine g_aload_n (pc := 109) X 3 rfl rfl dX12_addressBy_109 ?_
    refine g_aload_n (pc := 110) X 3 rfl rfl dX12_addressBy_110 ?_
    refine g_getI (pc := 111) X fl_X12_150 q1 dX12_addressBy_111 ?_
    refine g_putI (pc := 114) X fl_X12_245 q1 rfl rfl dX12_addressBy_114 (fun h23 e24 => ?_)
    have hV := hV h23 e24
    refine g_aload_n (pc := 117) X 3 rfl rfl dX12_addressBy_117 ?_
    refine g_iload_n (pc := 118) X 1 rfl rfl dX12_addressBy_118 ?_
    refine g_putI (pc := 119) X fl_X12_150 q1 rfl rfl dX12_addressBy_119 (fun h25 e26 => ?_)
    have hV := hV h25 e26
    refine g_iload_n (pc := 122) X 4 rfl rfl dX12_addressBy_122 ?_
    refine g_if_ne (pc := 123) X 131 dX12_addressBy_123 (by decide) (fun c27 => ?_) (fun c27 => ?_)
    · have hV := hV.1 c27
      refine g_iload_n (pc := 131) X 4 rfl rfl dX12_addressBy_131 ?_
      refine g_iconst (pc := 132) (v := (1 : Int32)) X dX12_addressBy_132 (by decide) ?_
      refine g_icmp_ne (pc := 133) X 147 dX12_addressBy_133 (by decide) (fun c28 => ?_) (fun c28 => ?_)
      · have hV := hV.1 c28
        refine g_aload_n (pc := 147) X 3 rfl rfl dX12_addressBy_147 ?_
        refine g_getRe (pc := 148) X fl_X12_54 q1 (congrFun (congrFun ((rfI e26).trans (rfI e24)) _) _) dX12_addressBy_148 ?_
        refine g_iload_n (pc := 151) X 4 rfl rfl dX12_addressBy_151 ?_
        refine g_iconst (pc := 152) (v := (2 : Int32)) X dX12_addressBy_152 (by decide) ?_
        refine g_isub (pc := 153) X dX12_addressBy_153 ?_
        obtain ⟨n30, q29, hV⟩ := hV
        obtain ⟨q31, hV⟩ := hV
        refine g_lald (pc := 154) X q29 q31 dX12_addressBy_154 ?_
        refine g_lload (pc := 155) X 0 rfl dX12_addressBy_155 ?_
        refine g_ladd (pc := 157) X dX12_addressBy_157 ?_
        exact g_lret (pc := 158) X Tt ⟨_, rfl, rfl, hV⟩ dX12_addressBy_158
      · have hV := hV.2 c28
        refine g_aload_n (pc := 136) X 3 rfl rfl dX12_addressBy_136 ?_
        refine g_getI (pc := 137) X fl_X12_236 q1 dX12_addressBy_137 ?_
        refine g_i2l (pc := 140) X dX12_addressBy_140 ?_
        refine g_lload (pc := 141) X 0 rfl dX12_addressBy_141 ?_
        refine g_lsub (pc := 143) X dX12_addressBy_143 ?_
        refine g_goto (pc := 144) X 158 dX12_addressBy_144 (by decide) ?_
        exact g_lret (pc := 158) X Tt ⟨_, rfl, rfl, hV⟩ dX12_addressBy_158
    · have hV := hV.2 c27
      refine g_lload (pc := 126) X 0 rfl dX12_addressBy_126 ?_
      refine g_goto (pc := 128) X 158 dX12_addressBy_128 (by decide) ?_
      exact g_lret (pc := 158) X Tt ⟨_, rfl, rfl, hV⟩ dX12_addressBy_158
  · have hV := hV.2 c11
    refine g_aload_n (pc := 27) X 1 rfl rfl dX12_addressBy_27 ?_
    refine g_getI (pc := 28) X fl_X12_245 q1 dX12_addressBy_28 ?_
    refine g_aload_n (pc := 31) X 1 rfl rfl dX12_addressBy_31 ?_
    refine g_getI (pc := 32) X fl_X12_248 q1 dX12_addressBy_32 ?_
    refine g_icmp_lt (pc := 35) X 45 dX12_addressBy_35 (by decide) (fun c32 => ?_) (fun c32 => ?_)
    · have hV := hV.1 c32
      refine g_aload_n (pc := 45) X 1 rfl rfl dX12_addressBy_45 ?_
      refine g_getRe (pc := 46) X fl_X12_36 q1 (congrFun (congrFun ((rfI e10).trans (rfI e8)) _) _) dX12_addressBy_46 ?_
      refine g_aload_n (pc := 49) X 1 rfl rfl dX12_addressBy_49 ?_
      refine g_getI (pc := 50) X fl_X12_245 q1 dX12_addressBy_50 ?_
      obtain ⟨n34, q33, hV⟩ := hV
      obtain ⟨q35, hV⟩ := hV
      refine g_bald (pc := 53) X q33 q35 dX12_addressBy_53 ?_
      refine g_sipush (pc := 54) (v := (255 : Int32)) X dX12_addressBy_54 (by decide) ?_
      refine g_iand (pc := 57) X dX12_addressBy_57 ?_
      refine g_istore_n (pc := 58) X (i := 3) (rest := [(2, Value.int y5), (0, rv w.2.2.2 x0), (1, Value.int x1)]) rfl (by decide) rfl dX12_addressBy_58 (fun y36 e37 => ?_)
      have hV := hV y36 e37
      refine g_aload_n (pc := 59) X 2 rfl rfl dX12_addressBy_59 ?_
      refine g_dup (pc := 60) X dX12_addressBy_60 (rv_cat _ _) ?_
      refine g_getI (pc := 61) X fl_X12_245 q1 dX12_addressBy_61 ?_
      refine g_iconst (pc := 64) (v := (1 : Int32)) X dX12_addressBy_64 (by decide) ?_
      refine g_iadd (pc := 65) X dX12_addressBy_65 ?_
      refine g_putI (pc := 66) X fl_X12_245 q1 rfl rfl dX12_addressBy_66 (fun h38 e39 => ?_)
      have hV := hV h38 e39
      refine g_aload_n (pc := 69) X 2 rfl rfl dX12_addressBy_69 ?_
      refine g_getRe (pc := 70) X fl_X12_58 q1 (congrFun (congrFun ((rfI e39).trans ((rfI e10).trans (rfI e8))) _) _) dX12_addressBy_70 ?_
      refine g_sipush (pc := 73) (v := (256 : Int32)) X dX12_addressBy_73 (by decide) ?_
      refine g_iload_n (pc := 76) X 3 rfl rfl dX12_addressBy_76 ?_
      refine g_iconst (pc := 77) (v := (2 : Int32)) X dX12_addressBy_77 (by decide) ?_
      refine g_isub (pc := 78) X dX12_addressBy_78 ?_
      refine g_iload_n (pc := 79) X 1 rfl rfl dX12_addressBy_79 ?_
      refine g_isub (pc := 80) X dX12_addressBy_80 ?_
      refine g_imul (pc := 81) X dX12_addressBy_81 ?_
      refine g_iload_n (pc := 82) X 0 rfl rfl dX12_addressBy_82 ?_
      refine g_iadd (pc := 83) X dX12_addressBy_83 ?_
      obtain ⟨n41, q40, hV⟩ := hV
      obtain ⟨q42, hV⟩ := hV
      refine g_lald (pc := 84) X q40 q42 dX12_addressBy_84 ?_
      exact g_lret (pc := 85) X Tt ⟨_, rfl, rfl, hV⟩ dX12_addressBy_85
    · have hV := hV.2 c32
      refine g_aload_n (pc := 38) X 1 rfl rfl dX12_addressBy_38 ?_
      refine g_iconst (pc := 39) (v := (1 : Int32)) X dX12_addressBy_39 (by decide) ?_
      refine g_putI (pc := 40) X fl_X12_161 q1 rfl rfl dX12_addressBy_40 (fun h43 e44 => ?_)
      have hV := hV h43 e44
      refine g_lconst (pc := 43) (v := (0 : Int64)) X dX12_addressBy_43 (by decide) ?_
      exact g_lret (pc := 44) X Tt ⟨_, rfl, rfl, hV⟩ dX12_addressBy_44
def C_X12_addressBy (w : Wd) (sh : List Sh) (x0 : Nat) (x1 : Int32) (h : Hp) (RET : Int64 → Hp → Prop) : Prop := CJ w yX12_addressBy (.code yX12_addressBy cX12_addressBy 6 (some .long)) 1 25 [rv w.2.2.2 x0, Value.int x1] sh h RET
theorem K_X12_addressBy {w : Wd} {sh : List Sh} {x0 : Nat} {x1 : Int32} {h : Hp} {RET : Int64 → Hp → Prop} (hV : V_X12_addressBy_0 w sh x0 x1 h RET) : C_X12_addressBy w sh x0 x1 h RET :=
  Ct_of (by decide +kernel) (by simp [lg_sl, rv_cat, cat_int, cat_long]) (fun E X Tt hR _ => by
    rw [show lv_args 0 [rv w.2.2.2 x0, Value.int x1] = [(0, rv w.2.2.2 x0), (1, Value.int x1)] from by simp [lv_args, rv_cat, cat_int, cat_long]]
    refine g_lv [0, 1] rfl ?_
    exact W_X12_addressBy_0 X Tt hR hV)
def V_X12_remember_47 (w : Wd) (sh : List Sh) (x0 : Nat) (x1 : Int64) (x4 : Int32) (h : Hp)  (RET : Hp → Prop) : Prop :=
  ((x4 ≤ 0) → (RET h)) ∧ ((¬ x4 ≤ 0) → (shAt sh x0 = some (.inr 12) ∧ (¬ (((256 : Int32) * x4).toInt64) = 0 ∧ (∃ n5 : Nat, shAt sh (h.2.1 x0 28) = some (.inl (2, n5)) ∧ (vp_in ((x1 - x1 / (((256 : Int32) * x4).toInt64) * (((256 : Int32) * x4).toInt64)).toInt32) n5 ∧ (∀ h7 : Hp, h7 = wJ h (h.2.1 x0 28) ((x1 - x1 / (((256 : Int32) * x4).toInt64) * (((256 : Int32) * x4).toInt64)).toInt32).toNatClampNeg x1 → (RET h7)))))))
set_option maxRecDepth 20000 in
set_option maxHeartbeats 4000000 in
theorem W_X12_remember_47 {w : Wd} {E : GE} {sh : List Sh} {x0 : Nat} {x1 : Int64} {x4 : Int32} {h : Hp}  {RET : Hp → Prop} (X : Cx w E cX12_remember 5 RX12) (Tt : Rt w E none sh.length 0 0 (fun q sh9 h9 => q = none ∧ sh9 = sh ∧ RET h9)) (hR : gR E = { frames := 0, cells := 0, slots := 0, locals := 0 }) (hV : V_X12_remember_47 w sh x0 x1 x4 h RET) : G w E 5 47 [(0, rv w.2.2.2 x0), (1, Value.long x1), (4, Value.int x4)] [] sh h 0 0 := by
  unfold V_X12_remember_47 at hV
  refine g_iload (pc := 47) X 2 rfl dX12_remember_47 ?_
  refine g_if_le (pc := 49) X 68 dX12_remember_49 (by decide) (fun c1 => ?_) (fun c1 => ?_)
  · have hV := hV.1 c1
    exact g_vret (pc := 68) X Tt ⟨rfl, rfl, hV⟩ dX12_remember_68
  · have hV := hV.2 c1
    refine g_aload_n (pc := 52) X 0 rfl rfl dX12_remember_52 ?_
    obtain ⟨q2, hV⟩ := hV
    refine g_getR (pc := 53) X fl_X12_58 q2 dX12_remember_53 ?_
    refine g_lload_n (pc := 56) X 1 rfl rfl dX12_remember_56 ?_
    refine g_sipush (pc := 57) (v := (256 : Int32)) X dX12_remember_57 (by decide) ?_
    refine g_iload (pc := 60) X 2 rfl dX12_remember_60 ?_
    refine g_imul (pc := 62) X dX12_remember_62 ?_
    refine g_i2l (pc := 63) X dX12_remember_63 ?_
    obtain ⟨q3, hV⟩ := hV
    refine g_lrem (pc := 64) X dX12_remember_64 q3 ?_
    refine g_l2i (pc := 65) X dX12_remember_65 ?_
    refine g_lload_n (pc := 66) X 1 rfl rfl dX12_remember_66 ?_
    obtain ⟨n5, q4, hV⟩ := hV
    obtain ⟨q6, hV⟩ := hV
    refine g_last (pc := 67) X q4 q6 dX12_remember_67 (fun h7 e8 => ?_)
    have hV := hV h7 e8
    exact g_vret (pc := 68) X Tt ⟨rfl, rfl, hV⟩ dX12_remember_68
def V_X12_remember_0 (w : Wd) (sh : List Sh) (x0 : Nat) (x1 : Int64) (h : Hp)  (RET : Hp → Prop) : Prop :=
  shAt sh x0 = some (.inr 12) ∧ (∃ n3 : Nat, shAt sh (h.2.1 x0 10) = some (.inl (1, n3)) ∧ (vp_in (h.1 x0 18) n3 ∧ (∀ y5 : Int32, y5 = (h.1 (h.2.1 x0 10) (h.1 x0 18).toNatClampNeg) → (∃ n8 : Nat, shAt sh (h.2.1 x0 11) = some (.inl (1, n8)) ∧ (vp_in (h.1 x0 18) n8 ∧ (∀ y10 : Int32, y10 = (h.1 (h.2.1 x0 11) (h.1 x0 18).toNatClampNeg) → (((y5 ≤ 0) → (V_X12_remember_47 w sh x0 x1 y10 h RET)) ∧ ((¬ y5 ≤ 0) → (∃ n14 : Nat, shAt sh (h.2.1 x0 27) = some (.inl (2, n14)) ∧ (vp_in (h.1 x0 29) n14 ∧ (∀ h16 : Hp, h16 = wJ h (h.2.1 x0 27) (h.1 x0 29).toNatClampNeg x1 → (¬ y5 = 0 ∧ (∀ h19 : Hp, h19 = wI h16 x0 29 (((h16.1 x0 29) + (1 : Int32)) - ((h16.1 x0 29) + (1 : Int32)) / y5 * y5) → (V_X12_remember_47 w sh x0 x1 y10 h19 RET))))))))))))))
set_option maxRecDepth 20000 in
set_option maxHeartbeats 4000000 in
theorem W_X12_remember_0 {w : Wd} {E : GE} {sh : List Sh} {x0 : Nat} {x1 : Int64} {h : Hp}  {RET : Hp → Prop} (X : Cx w E cX12_remember 5 RX12) (Tt : Rt w E none sh.length 0 0 (fun q sh9 h9 => q = none ∧ sh9 = sh ∧ RET h9)) (hR : gR E = { frames := 0, cells := 0, slots := 0, locals := 0 }) (hV : V_X12_remember_0 w sh x0 x1 h RET) : G w E 5 0 [(0, rv w.2.2.2 x0), (1, Value.long x1)] [] sh h 0 0 := by
  unfold V_X12_remember_0 at hV
  refine g_aload_n (pc := 0) X 0 rfl rfl dX12_remember_0 ?_
  obtain ⟨q1, hV⟩ := hV
  refine g_getR (pc := 1) X fl_X12_27 q1 dX12_remember_1 ?_
  refine g_aload_n (pc := 4) X 0 rfl rfl dX12_remember_4 ?_
  refine g_getI (pc := 5) X fl_X12_183 q1 dX12_remember_5 ?_
  obtain ⟨n3, q2, hV⟩ := hV
  obtain ⟨q4, hV⟩ := hV
  refine g_iald (pc := 8) X q2 q4 dX12_remember_8 ?_
  refine g_istore_n (pc := 9) X (i := 3) (rest := [(0, rv w.2.2.2 x0), (1, Value.long x1)]) rfl (by decide) rfl dX12_remember_9 (fun y5 e6 => ?_)
  have hV := hV y5 e6
  refine g_aload_n (pc := 10) X 1 rfl rfl dX12_remember_10 ?_
  refine g_getR (pc := 11) X fl_X12_30 q1 dX12_remember_11 ?_
  refine g_aload_n (pc := 14) X 1 rfl rfl dX12_remember_14 ?_
  refine g_getI (pc := 15) X fl_X12_183 q1 dX12_remember_15 ?_
  obtain ⟨n8, q7, hV⟩ := hV
  obtain ⟨q9, hV⟩ := hV
  refine g_iald (pc := 18) X q7 q9 dX12_remember_18 ?_
  refine g_istore (pc := 19) X (i := 4) (rest := [(3, Value.int y5), (0, rv w.2.2.2 x0), (1, Value.long x1)]) (by decide) rfl dX12_remember_19 (fun y10 e11 => ?_)
  have hV := hV y10 e11
  refine g_iload_n (pc := 21) X 1 rfl rfl dX12_remember_21 ?_
  refine g_if_le (pc := 22) X 47 dX12_remember_22 (by decide) (fun c12 => ?_) (fun c12 => ?_)
  · have hV := hV.1 c12
    refine g_lv [2, 3, 0] rfl ?_
    exact W_X12_remember_47 X Tt hR hV
  · have hV := hV.2 c12
    refine g_aload_n (pc := 25) X 2 rfl rfl dX12_remember_25 ?_
    refine g_getR (pc := 26) X fl_X12_54 q1 dX12_remember_26 ?_
    refine g_aload_n (pc := 29) X 2 rfl rfl dX12_remember_29 ?_
    refine g_getI (pc := 30) X fl_X12_216 q1 dX12_remember_30 ?_
    refine g_lload_n (pc := 33) X 3 rfl rfl dX12_remember_33 ?_
    obtain ⟨n14, q13, hV⟩ := hV
    obtain ⟨q15, hV⟩ := hV
    refine g_last (pc := 34) X q13 q15 dX12_remember_34 (fun h16 e17 => ?_)
    have hV := hV h16 e17
    refine g_aload_n (pc := 35) X 2 rfl rfl dX12_remember_35 ?_
    refine g_aload_n (pc := 36) X 2 rfl rfl dX12_remember_36 ?_
    refine g_getI (pc := 37) X fl_X12_216 q1 dX12_remember_37 ?_
    refine g_iconst (pc := 40) (v := (1 : Int32)) X dX12_remember_40 (by decide) ?_
    refine g_iadd (pc := 41) X dX12_remember_41 ?_
    refine g_iload_n (pc := 42) X 1 rfl rfl dX12_remember_42 ?_
    obtain ⟨q18, hV⟩ := hV
    refine g_irem (pc := 43) X dX12_remember_43 q18 ?_
    refine g_putI (pc := 44) X fl_X12_216 q1 rfl rfl dX12_remember_44 (fun h19 e20 => ?_)
    have hV := hV h19 e20
    refine g_lv [2, 3, 0] rfl ?_
    exact W_X12_remember_47 X Tt hR hV
def C_X12_remember (w : Wd) (sh : List Sh) (x0 : Nat) (x1 : Int64) (h : Hp) (RET : Hp → Prop) : Prop := CV w yX12_remember (.code yX12_remember cX12_remember 5 none) 0 0 [rv w.2.2.2 x0, Value.long x1] sh h RET
theorem K_X12_remember {w : Wd} {sh : List Sh} {x0 : Nat} {x1 : Int64} {h : Hp} {RET : Hp → Prop} (hV : V_X12_remember_0 w sh x0 x1 h RET) : C_X12_remember w sh x0 x1 h RET :=
  Ct_of (by decide +kernel) (by simp [lg_sl, rv_cat, cat_int, cat_long]) (fun E X Tt hR _ => by
    rw [show lv_args 0 [rv w.2.2.2 x0, Value.long x1] = [(0, rv w.2.2.2 x0), (1, Value.long x1)] from by simp [lv_args, rv_cat, cat_int, cat_long]]
    refine g_lv [0, 1] rfl ?_
    exact W_X12_remember_0 X Tt hR hV)
def V_X12_act_398 (w : Wd) (sh : List Sh) (x0 : Nat) (s0 : Int32) (s1 : Int32) (s2 : Nat) (h : Hp) (L194 : Nat → Int32 → Int32 → Int64 → Int64 → Int32 → Hp → Prop) (RET : Hp → Prop) : Prop :=
  ∃ n2 : Nat, shAt sh s2 = some (.inl (1, n2)) ∧ (vp_in s1 n2 ∧ (∀ h4 : Hp, h4 = wI h s2 s1.toNatClampNeg s0 → (shAt sh x0 = some (.inr 12) ∧ (∀ h7 : Hp, h7 = wI h4 x0 31 ((h4.1 x0 31) + (1 : Int32)) → (RET h7)))))
set_option maxRecDepth 20000 in
set_option maxHeartbeats 4000000 in
theorem W_X12_act_398 {w : Wd} {E : GE} {sh : List Sh} {x0 : Nat} {s0 : Int32} {s1 : Int32} {s2 : Nat} {h : Hp} {L194 : Nat → Int32 → Int32 → Int64 → Int64 → Int32 → Hp → Prop} {RET : Hp → Prop} (X : Cx w E cX12_act 12 RX12) (Tt : Rt w E none sh.length 0 0 (fun q sh9 h9 => q = none ∧ sh9 = sh ∧ RET h9)) (hR : gR E = { frames := 2, cells := 0, slots := 0, locals := 50 }) (hL194 : ∀ (x0 : Nat) (x1 : Int32) (x3 : Int32) (x7 : Int64) (x9 : Int64) (x11 : Int32) (h : Hp), L194 x0 x1 x3 x7 x9 x11 h → G w E 12 194 [(0, rv w.2.2.2 x0), (1, Value.int x1), (3, Value.int x3), (7, Value.long x7), (9, Value.long x9), (11, Value.int x11)] [] sh h 0 0) (hV : V_X12_act_398 w sh x0 s0 s1 s2 h L194 RET) : G w E 12 398 [(0, rv w.2.2.2 x0)] [Value.int s0, Value.int s1, rv w.2.2.2 s2] sh h 0 0 := by
  unfold V_X12_act_398 at hV
  obtain ⟨n2, q1, hV⟩ := hV
  obtain ⟨q3, hV⟩ := hV
  refine g_iast (pc := 398) X q1 q3 dX12_act_398 (fun h4 e5 => ?_)
  have hV := hV h4 e5
  refine g_aload_n (pc := 399) X 0 rfl rfl dX12_act_399 ?_
  refine g_dup (pc := 400) X dX12_act_400 (rv_cat _ _) ?_
  obtain ⟨q6, hV⟩ := hV
  refine g_getI (pc := 401) X fl_X12_186 q6 dX12_act_401 ?_
  refine g_iconst (pc := 404) (v := (1 : Int32)) X dX12_act_404 (by decide) ?_
  refine g_iadd (pc := 405) X dX12_act_405 ?_
  refine g_putI (pc := 406) X fl_X12_186 q6 rfl rfl dX12_act_406 (fun h7 e8 => ?_)
  have hV := hV h7 e8
  exact g_vret (pc := 409) X Tt ⟨rfl, rfl, hV⟩ dX12_act_409
def V_X12_act_302 (w : Wd) (sh : List Sh) (x0 : Nat) (x1 : Int32) (x3 : Int32) (x7 : Int64) (x9 : Int64) (s0 : Int32) (s1 : Int32) (s2 : Nat) (h : Hp) (L194 : Nat → Int32 → Int32 → Int64 → Int64 → Int32 → Hp → Prop) (RET : Hp → Prop) : Prop :=
  shAt sh s2 = some (.inr 12) ∧ (∀ h2 : Hp, h2 = wI h s2 38 (s1 + s0) → (shAt sh x0 = some (.inr 12) ∧ (((¬ (h2.1 x0 19) = 0) → (∃ n7 : Nat, shAt sh (h.2.1 x0 30) = some (.inl (1, n7)) ∧ (vp_in x1 n7 ∧ (vp_in x1 n7 ∧ (∀ h10 : Hp, h10 = wI h2 (h.2.1 x0 30) x1.toNatClampNeg ((h2.1 (h.2.1 x0 30) x1.toNatClampNeg) + (1 : Int32)) → (vp_in (5 : Int32) n7 ∧ (vp_in (5 : Int32) n7 ∧ (∀ h14 : Hp, h14 = wI h10 (h.2.1 x0 30) (5 : Int32).toNatClampNeg ((h10.1 (h.2.1 x0 30) (5 : Int32).toNatClampNeg) + (x7.toInt32)) → ((((2000 : Int32) ≤ (h14.1 x0 31)) → (RET h14)) ∧ ((¬ (2000 : Int32) ≤ (h14.1 x0 31)) → (∃ n18 : Nat, shAt sh (h.2.1 x0 32) = some (.inl (1, n18)) ∧ (vp_in (h14.1 x0 31) n18 ∧ (∀ h20 : Hp, h20 = wI h14 (h.2.1 x0 32) (h14.1 x0 31).toNatClampNeg x1 → (∃ n23 : Nat, shAt sh (h.2.1 x0 33) = some (.inl (1, n23)) ∧ (vp_in (h20.1 x0 31) n23 ∧ (∀ h25 : Hp, h25 = wI h20 (h.2.1 x0 33) (h20.1 x0 31).toNatClampNeg (x7.toInt32) → (∃ n28 : Nat, shAt sh (h.2.1 x0 34) = some (.inl (1, n28)) ∧ (vp_in (h25.1 x0 31) n28 ∧ (∀ h30 : Hp, h30 = wI h25 (h.2.1 x0 34) (h25.1 x0 31).toNatClampNeg (x9.toInt32) → (((¬ x1 = (3 : Int32)) → (V_X12_act_398 w sh x0 (0 : Int32) (h30.1 x0 31) (h.2.1 x0 35) h30 L194 RET)) ∧ ((x1 = (3 : Int32)) → (V_X12_act_398 w sh x0 x3 (h30.1 x0 31) (h.2.1 x0 35) h30 L194 RET)))))))))))))))))))))) ∧ (((h2.1 x0 19) = 0) → (RET h2)))))
set_option maxRecDepth 20000 in
set_option maxHeartbeats 4000000 in
theorem W_X12_act_302 {w : Wd} {E : GE} {sh : List Sh} {x0 : Nat} {x1 : Int32} {x3 : Int32} {x7 : Int64} {x9 : Int64} {s0 : Int32} {s1 : Int32} {s2 : Nat} {h : Hp} {L194 : Nat → Int32 → Int32 → Int64 → Int64 → Int32 → Hp → Prop} {RET : Hp → Prop} (X : Cx w E cX12_act 12 RX12) (Tt : Rt w E none sh.length 0 0 (fun q sh9 h9 => q = none ∧ sh9 = sh ∧ RET h9)) (hR : gR E = { frames := 2, cells := 0, slots := 0, locals := 50 }) (hL194 : ∀ (x0 : Nat) (x1 : Int32) (x3 : Int32) (x7 : Int64) (x9 : Int64) (x11 : Int32) (h : Hp), L194 x0 x1 x3 x7 x9 x11 h → G w E 12 194 [(0, rv w.2.2.2 x0), (1, Value.int x1), (3, Value.int x3), (7, Value.long x7), (9, Value.long x9), (11, Value.int x11)] [] sh h 0 0) (hV : V_X12_act_302 w sh x0 x1 x3 x7 x9 s0 s1 s2 h L194 RET) : G w E 12 302 [(0, rv w.2.2.2 x0), (1, Value.int x1), (3, Value.int x3), (7, Value.long x7), (9, Value.long x9)] [Value.int s0, Value.int s1, rv w.2.2.2 s2] sh h 0 0 := by
  unfold V_X12_act_302 at hV
  refine g_iadd (pc := 302) X dX12_act_302 ?_
  obtain ⟨q1, hV⟩ := hV
  refine g_putI (pc := 303) X fl_X12_239 q1 rfl rfl dX12_act_303 (fun h2 e3 => ?_)
  have hV := hV h2 e3
  refine g_aload_n (pc := 306) X 0 rfl rfl dX12_act_306 ?_
  obtain ⟨q4, hV⟩ := hV
  refine g_getI (pc := 307) X fl_X12_180 q4 dX12_act_307 ?_
  refine g_if_ne (pc := 310) X 314 dX12_act_310 (by decide) (fun c5 => ?_) (fun c5 => ?_)
  · have hV := hV.1 c5
    refine g_aload_n (pc := 314) X 0 rfl rfl dX12_act_314 ?_
    refine g_getRe (pc := 315) X fl_X12_61 q4 (congrFun (congrFun (rfI e3) _) _) dX12_act_315 ?_
    refine g_iload_n (pc := 318) X 1 rfl rfl dX12_act_318 ?_
    refine g_dup2_11 (pc := 319) X dX12_act_319 (rfl) (rv_cat _ _) ?_
    obtain ⟨n7, q6, hV⟩ := hV
    obtain ⟨q8, hV⟩ := hV
    refine g_iald (pc := 320) X q6 q8 dX12_act_320 ?_
    refine g_iconst (pc := 321) (v := (1 : Int32)) X dX12_act_321 (by decide) ?_
    refine g_iadd (pc := 322) X dX12_act_322 ?_
    obtain ⟨q9, hV⟩ := hV
    refine g_iast (pc := 323) X q6 q9 dX12_act_323 (fun h10 e11 => ?_)
    have hV := hV h10 e11
    refine g_aload_n (pc := 324) X 0 rfl rfl dX12_act_324 ?_
    refine g_getRe (pc := 325) X fl_X12_61 q4 (congrFun (congrFun ((rfI e11).trans (rfI e3)) _) _) dX12_act_325 ?_
    refine g_iconst (pc := 328) (v := (5 : Int32)) X dX12_act_328 (by decide) ?_
    refine g_dup2_11 (pc := 329) X dX12_act_329 (rfl) (rv_cat _ _) ?_
    obtain ⟨q12, hV⟩ := hV
    refine g_iald (pc := 330) X q6 q12 dX12_act_330 ?_
    refine g_lload (pc := 331) X 3 rfl dX12_act_331 ?_
    refine g_l2i (pc := 333) X dX12_act_333 ?_
    refine g_iadd (pc := 334) X dX12_act_334 ?_
    obtain ⟨q13, hV⟩ := hV
    refine g_iast (pc := 335) X q6 q13 dX12_act_335 (fun h14 e15 => ?_)
    have hV := hV h14 e15
    refine g_aload_n (pc := 336) X 0 rfl rfl dX12_act_336 ?_
    refine g_getI (pc := 337) X fl_X12_186 q4 dX12_act_337 ?_
    refine g_sipush (pc := 340) (v := (2000 : Int32)) X dX12_act_340 (by decide) ?_
    refine g_icmp_ge (pc := 343) X 409 dX12_act_343 (by decide) (fun c16 => ?_) (fun c16 => ?_)
    · have hV := hV.1 c16
      exact g_vret (pc := 409) X Tt ⟨rfl, rfl, hV⟩ dX12_act_409
    · have hV := hV.2 c16
      refine g_aload_n (pc := 346) X 0 rfl rfl dX12_act_346 ?_
      refine g_getRe (pc := 347) X fl_X12_64 q4 (congrFun (congrFun ((rfI e15).trans ((rfI e11).trans (rfI e3))) _) _) dX12_act_347 ?_
      refine g_aload_n (pc := 350) X 0 rfl rfl dX12_act_350 ?_
      refine g_getI (pc := 351) X fl_X12_186 q4 dX12_act_351 ?_
      refine g_iload_n (pc := 354) X 1 rfl rfl dX12_act_354 ?_
      obtain ⟨n18, q17, hV⟩ := hV
      obtain ⟨q19, hV⟩ := hV
      refine g_iast (pc := 355) X q17 q19 dX12_act_355 (fun h20 e21 => ?_)
      have hV := hV h20 e21
      refine g_aload_n (pc := 356) X 0 rfl rfl dX12_act_356 ?_
      refine g_getRe (pc := 357) X fl_X12_67 q4 (congrFun (congrFun ((rfI e21).trans ((rfI e15).trans ((rfI e11).trans (rfI e3)))) _) _) dX12_act_357 ?_
      refine g_aload_n (pc := 360) X 0 rfl rfl dX12_act_360 ?_
      refine g_getI (pc := 361) X fl_X12_186 q4 dX12_act_361 ?_
      refine g_lload (pc := 364) X 3 rfl dX12_act_364 ?_
      refine g_l2i (pc := 366) X dX12_act_366 ?_
      obtain ⟨n23, q22, hV⟩ := hV
      obtain ⟨q24, hV⟩ := hV
      refine g_iast (pc := 367) X q22 q24 dX12_act_367 (fun h25 e26 => ?_)
      have hV := hV h25 e26
      refine g_aload_n (pc := 368) X 0 rfl rfl dX12_act_368 ?_
      refine g_getRe (pc := 369) X fl_X12_70 q4 (congrFun (congrFun ((rfI e26).trans ((rfI e21).trans ((rfI e15).trans ((rfI e11).trans (rfI e3))))) _) _) dX12_act_369 ?_
      refine g_aload_n (pc := 372) X 0 rfl rfl dX12_act_372 ?_
      refine g_getI (pc := 373) X fl_X12_186 q4 dX12_act_373 ?_
      refine g_lload (pc := 376) X 4 rfl dX12_act_376 ?_
      refine g_l2i (pc := 378) X dX12_act_378 ?_
      obtain ⟨n28, q27, hV⟩ := hV
      obtain ⟨q29, hV⟩ := hV
      refine g_iast (pc := 379) X q27 q29 dX12_act_379 (fun h30 e31 => ?_)
      have hV := hV h30 e31
      refine g_aload_n (pc := 380) X 0 rfl rfl dX12_act_380 ?_
      refine g_getRe (pc := 381) X fl_X12_73 q4 (congrFun (congrFun ((rfI e31).trans ((rfI e26).trans ((rfI e21).trans ((rfI e15).trans ((rfI e11).trans (rfI e3)))))) _) _) dX12_act_381 ?_
      refine g_aload_n (pc := 384) X 0 rfl rfl dX12_act_384 ?_
      refine g_getI (pc := 385) X fl_X12_186 q4 dX12_act_385 ?_
      refine g_iload_n (pc := 388) X 1 rfl rfl dX12_act_388 ?_
      refine g_iconst (pc := 389) (v := (3 : Int32)) X dX12_act_389 (by decide) ?_
      refine g_icmp_ne (pc := 390) X 397 dX12_act_390 (by decide) (fun c32 => ?_) (fun c32 => ?_)
      · have hV := hV.1 c32
        refine g_iconst (pc := 397) (v := (0 : Int32)) X dX12_act_397 (by decide) ?_
        refine g_lv [0] rfl ?_
        exact W_X12_act_398 X Tt hR hL194 hV
      · have hV := hV.2 c32
        refine g_iload_n (pc := 393) X 2 rfl rfl dX12_act_393 ?_
        refine g_goto (pc := 394) X 398 dX12_act_394 (by decide) ?_
        refine g_lv [0] rfl ?_
        exact W_X12_act_398 X Tt hR hL194 hV
  · have hV := hV.2 c5
    exact g_vret (pc := 313) X Tt ⟨rfl, rfl, hV⟩ dX12_act_313
def V_X12_act_259 (w : Wd) (sh : List Sh) (x0 : Nat) (x1 : Int32) (x3 : Int32) (x7 : Int64) (x9 : Int64) (x11 : Int32) (s0 : Int32) (s1 : Int32) (s2 : Nat) (h : Hp) (L194 : Nat → Int32 → Int32 → Int64 → Int64 → Int32 → Hp → Prop) (RET : Hp → Prop) : Prop :=
  ∃ n2 : Nat, shAt sh s2 = some (.inl (0, n2)) ∧ (vp_in s1 n2 ∧ (∀ h4 : Hp, h4 = wI h s2 s1.toNatClampNeg s0 → (shAt sh x0 = some (.inr 12) ∧ (∀ h7 : Hp, h7 = wI h4 x0 26 ((h4.1 x0 26) + (1 : Int32)) → (∀ y9 : Int32, y9 = x11 + (1 : Int32) → (L194 x0 x1 x3 x7 x9 y9 h7))))))
set_option maxRecDepth 20000 in
set_option maxHeartbeats 4000000 in
theorem W_X12_act_259 {w : Wd} {E : GE} {sh : List Sh} {x0 : Nat} {x1 : Int32} {x3 : Int32} {x7 : Int64} {x9 : Int64} {x11 : Int32} {s0 : Int32} {s1 : Int32} {s2 : Nat} {h : Hp} {L194 : Nat → Int32 → Int32 → Int64 → Int64 → Int32 → Hp → Prop} {RET : Hp → Prop} (X : Cx w E cX12_act 12 RX12) (Tt : Rt w E none sh.length 0 0 (fun q sh9 h9 => q = none ∧ sh9 = sh ∧ RET h9)) (hR : gR E = { frames := 2, cells := 0, slots := 0, locals := 50 }) (hL194 : ∀ (x0 : Nat) (x1 : Int32) (x3 : Int32) (x7 : Int64) (x9 : Int64) (x11 : Int32) (h : Hp), L194 x0 x1 x3 x7 x9 x11 h → G w E 12 194 [(0, rv w.2.2.2 x0), (1, Value.int x1), (3, Value.int x3), (7, Value.long x7), (9, Value.long x9), (11, Value.int x11)] [] sh h 0 0) (hV : V_X12_act_259 w sh x0 x1 x3 x7 x9 x11 s0 s1 s2 h L194 RET) : G w E 12 259 [(0, rv w.2.2.2 x0), (1, Value.int x1), (3, Value.int x3), (7, Value.long x7), (9, Value.long x9), (11, Value.int x11)] [Value.int s0, Value.int s1, rv w.2.2.2 s2] sh h 0 0 := by
  unfold V_X12_act_259 at hV
  obtain ⟨n2, q1, hV⟩ := hV
  obtain ⟨q3, hV⟩ := hV
  refine g_bast (pc := 259) X q1 q3 dX12_act_259 (fun h4 e5 => ?_)
  have hV := hV h4 e5
  refine g_aload_n (pc := 260) X 0 rfl rfl dX12_act_260 ?_
  refine g_dup (pc := 261) X dX12_act_261 (rv_cat _ _) ?_
  obtain ⟨q6, hV⟩ := hV
  refine g_getI (pc := 262) X fl_X12_236 q6 dX12_act_262 ?_
  refine g_iconst (pc := 265) (v := (1 : Int32)) X dX12_act_265 (by decide) ?_
  refine g_iadd (pc := 266) X dX12_act_266 ?_
  refine g_putI (pc := 267) X fl_X12_236 q6 rfl rfl dX12_act_267 (fun h7 e8 => ?_)
  have hV := hV h7 e8
  refine g_iinc (pc := 270) X 5 (v := (1 : Int32)) (rest := [(0, rv w.2.2.2 x0), (1, Value.int x1), (3, Value.int x3), (7, Value.long x7), (9, Value.long x9)]) rfl (by decide) rfl (by decide) dX12_act_270 (fun y9 e10 => ?_)
  have hV := hV y9 e10
  refine g_goto (pc := 273) X 194 dX12_act_273 (by decide) ?_
  refine g_lv [1, 2, 3, 4, 5, 0] rfl ?_
  exact hL194 x0 x1 x3 x7 x9 y9 h7 hV
def V_X12_act_194 (w : Wd) (sh : List Sh) (x0 : Nat) (x1 : Int32) (x3 : Int32) (x7 : Int64) (x9 : Int64) (x11 : Int32) (h : Hp) (L194 : Nat → Int32 → Int32 → Int64 → Int64 → Int32 → Hp → Prop) (RET : Hp → Prop) : Prop :=
  ((0 ≤ (lg_cmp (x11.toInt64) x7)) → (shAt sh x0 = some (.inr 12) ∧ (((¬ x1 = (1 : Int32)) → (((¬ x1 = (2 : Int32)) → (V_X12_act_302 w sh x0 x1 x3 x7 x9 (0 : Int32) (h.1 x0 38) x0 h L194 RET)) ∧ ((x1 = (2 : Int32)) → (V_X12_act_302 w sh x0 x1 x3 x7 x9 (1 : Int32) (h.1 x0 38) x0 h L194 RET)))) ∧ ((x1 = (1 : Int32)) → (V_X12_act_302 w sh x0 x1 x3 x7 x9 (x7.toInt32) (h.1 x0 38) x0 h L194 RET))))) ∧ ((¬ 0 ≤ (lg_cmp (x11.toInt64) x7)) → (shAt sh x0 = some (.inr 12) ∧ (((¬ x1 = (3 : Int32)) → (((¬ x1 = (1 : Int32)) → (∃ n9 : Nat, shAt sh (h.2.1 x0 13) = some (.inl (0, n9)) ∧ (vp_in (h.1 x0 38) n9 ∧ (V_X12_act_259 w sh x0 x1 x3 x7 x9 x11 (b8 (h.1 (h.2.1 x0 13) (h.1 x0 38).toNatClampNeg)) (h.1 x0 26) (h.2.1 x0 24) h L194 RET)))) ∧ ((x1 = (1 : Int32)) → (∃ n12 : Nat, shAt sh (h.2.1 x0 13) = some (.inl (0, n12)) ∧ (vp_in ((h.1 x0 38) + x11) n12 ∧ (V_X12_act_259 w sh x0 x1 x3 x7 x9 x11 (b8 (h.1 (h.2.1 x0 13) ((h.1 x0 38) + x11).toNatClampNeg)) (h.1 x0 26) (h.2.1 x0 24) h L194 RET)))))) ∧ ((x1 = (3 : Int32)) → (∃ n15 : Nat, shAt sh (h.2.1 x0 24) = some (.inl (0, n15)) ∧ (vp_in ((x9.toInt32) + x11) n15 ∧ (V_X12_act_259 w sh x0 x1 x3 x7 x9 x11 (b8 (h.1 (h.2.1 x0 24) ((x9.toInt32) + x11).toNatClampNeg)) (h.1 x0 26) (h.2.1 x0 24) h L194 RET)))))))
set_option maxRecDepth 20000 in
set_option maxHeartbeats 4000000 in
theorem W_X12_act_194 {w : Wd} {E : GE} {sh : List Sh} {x0 : Nat} {x1 : Int32} {x3 : Int32} {x7 : Int64} {x9 : Int64} {x11 : Int32} {h : Hp} {L194 : Nat → Int32 → Int32 → Int64 → Int64 → Int32 → Hp → Prop} {RET : Hp → Prop} (X : Cx w E cX12_act 12 RX12) (Tt : Rt w E none sh.length 0 0 (fun q sh9 h9 => q = none ∧ sh9 = sh ∧ RET h9)) (hR : gR E = { frames := 2, cells := 0, slots := 0, locals := 50 }) (hL194 : ∀ (x0 : Nat) (x1 : Int32) (x3 : Int32) (x7 : Int64) (x9 : Int64) (x11 : Int32) (h : Hp), L194 x0 x1 x3 x7 x9 x11 h → G w E 12 194 [(0, rv w.2.2.2 x0), (1, Value.int x1), (3, Value.int x3), (7, Value.long x7), (9, Value.long x9), (11, Value.int x11)] [] sh h 0 0) (hV : V_X12_act_194 w sh x0 x1 x3 x7 x9 x11 h L194 RET) : G w E 12 194 [(0, rv w.2.2.2 x0), (1, Value.int x1), (3, Value.int x3), (7, Value.long x7), (9, Value.long x9), (11, Value.int x11)] [] sh h 0 0 := by
  unfold V_X12_act_194 at hV
  refine g_iload (pc := 194) X 5 rfl dX12_act_194 ?_
  refine g_i2l (pc := 196) X dX12_act_196 ?_
  refine g_lload (pc := 197) X 3 rfl dX12_act_197 ?_
  refine g_lcmp (pc := 199) X dX12_act_199 ?_
  refine g_if_ge (pc := 200) X 276 dX12_act_200 (by decide) (fun c1 => ?_) (fun c1 => ?_)
  · have hV := hV.1 c1
    refine g_aload_n (pc := 276) X 0 rfl rfl dX12_act_276 ?_
    refine g_dup (pc := 277) X dX12_act_277 (rv_cat _ _) ?_
    obtain ⟨q2, hV⟩ := hV
    refine g_getI (pc := 278) X fl_X12_239 q2 dX12_act_278 ?_
    refine g_iload_n (pc := 281) X 1 rfl rfl dX12_act_281 ?_
    refine g_iconst (pc := 282) (v := (1 : Int32)) X dX12_act_282 (by decide) ?_
    refine g_icmp_ne (pc := 283) X 292 dX12_act_283 (by decide) (fun c3 => ?_) (fun c3 => ?_)
    · have hV := hV.1 c3
      refine g_iload_n (pc := 292) X 1 rfl rfl dX12_act_292 ?_
      refine g_iconst (pc := 293) (v := (2 : Int32)) X dX12_act_293 (by decide) ?_
      refine g_icmp_ne (pc := 294) X 301 dX12_act_294 (by decide) (fun c4 => ?_) (fun c4 => ?_)
      · have hV := hV.1 c4
        refine g_iconst (pc := 301) (v := (0 : Int32)) X dX12_act_301 (by decide) ?_
        refine g_lv [0, 1, 2, 3, 4] rfl ?_
        exact W_X12_act_302 X Tt hR hL194 hV
      · have hV := hV.2 c4
        refine g_iconst (pc := 297) (v := (1 : Int32)) X dX12_act_297 (by decide) ?_
        refine g_goto (pc := 298) X 302 dX12_act_298 (by decide) ?_
        refine g_lv [0, 1, 2, 3, 4] rfl ?_
        exact W_X12_act_302 X Tt hR hL194 hV
    · have hV := hV.2 c3
      refine g_lload (pc := 286) X 3 rfl dX12_act_286 ?_
      refine g_l2i (pc := 288) X dX12_act_288 ?_
      refine g_goto (pc := 289) X 302 dX12_act_289 (by decide) ?_
      refine g_lv [0, 1, 2, 3, 4] rfl ?_
      exact W_X12_act_302 X Tt hR hL194 hV
  · have hV := hV.2 c1
    refine g_aload_n (pc := 203) X 0 rfl rfl dX12_act_203 ?_
    obtain ⟨q5, hV⟩ := hV
    refine g_getR (pc := 204) X fl_X12_51 q5 dX12_act_204 ?_
    refine g_aload_n (pc := 207) X 0 rfl rfl dX12_act_207 ?_
    refine g_getI (pc := 208) X fl_X12_236 q5 dX12_act_208 ?_
    refine g_iload_n (pc := 211) X 1 rfl rfl dX12_act_211 ?_
    refine g_iconst (pc := 212) (v := (3 : Int32)) X dX12_act_212 (by decide) ?_
    refine g_icmp_ne (pc := 213) X 230 dX12_act_213 (by decide) (fun c6 => ?_) (fun c6 => ?_)
    · have hV := hV.1 c6
      refine g_iload_n (pc := 230) X 1 rfl rfl dX12_act_230 ?_
      refine g_iconst (pc := 231) (v := (1 : Int32)) X dX12_act_231 (by decide) ?_
      refine g_icmp_ne (pc := 232) X 250 dX12_act_232 (by decide) (fun c7 => ?_) (fun c7 => ?_)
      · have hV := hV.1 c7
        refine g_aload_n (pc := 250) X 0 rfl rfl dX12_act_250 ?_
        refine g_getR (pc := 251) X fl_X12_36 q5 dX12_act_251 ?_
        refine g_aload_n (pc := 254) X 0 rfl rfl dX12_act_254 ?_
        refine g_getI (pc := 255) X fl_X12_239 q5 dX12_act_255 ?_
        obtain ⟨n9, q8, hV⟩ := hV
        obtain ⟨q10, hV⟩ := hV
        refine g_bald (pc := 258) X q8 q10 dX12_act_258 ?_
        exact W_X12_act_259 X Tt hR hL194 hV
      · have hV := hV.2 c7
        refine g_aload_n (pc := 235) X 0 rfl rfl dX12_act_235 ?_
        refine g_getR (pc := 236) X fl_X12_36 q5 dX12_act_236 ?_
        refine g_aload_n (pc := 239) X 0 rfl rfl dX12_act_239 ?_
        refine g_getI (pc := 240) X fl_X12_239 q5 dX12_act_240 ?_
        refine g_iload (pc := 243) X 5 rfl dX12_act_243 ?_
        refine g_iadd (pc := 245) X dX12_act_245 ?_
        obtain ⟨n12, q11, hV⟩ := hV
        obtain ⟨q13, hV⟩ := hV
        refine g_bald (pc := 246) X q11 q13 dX12_act_246 ?_
        refine g_goto (pc := 247) X 259 dX12_act_247 (by decide) ?_
        exact W_X12_act_259 X Tt hR hL194 hV
    · have hV := hV.2 c6
      refine g_aload_n (pc := 216) X 0 rfl rfl dX12_act_216 ?_
      refine g_getR (pc := 217) X fl_X12_51 q5 dX12_act_217 ?_
      refine g_lload (pc := 220) X 4 rfl dX12_act_220 ?_
      refine g_l2i (pc := 222) X dX12_act_222 ?_
      refine g_iload (pc := 223) X 5 rfl dX12_act_223 ?_
      refine g_iadd (pc := 225) X dX12_act_225 ?_
      obtain ⟨n15, q14, hV⟩ := hV
      obtain ⟨q16, hV⟩ := hV
      refine g_bald (pc := 226) X q14 q16 dX12_act_226 ?_
      refine g_goto (pc := 227) X 259 dX12_act_227 (by decide) ?_
      exact W_X12_act_259 X Tt hR hL194 hV
def V_X12_act_191 (w : Wd) (sh : List Sh) (x0 : Nat) (x1 : Int32) (x3 : Int32) (x7 : Int64) (x9 : Int64) (h : Hp) (L194 : Nat → Int32 → Int32 → Int64 → Int64 → Int32 → Hp → Prop) (RET : Hp → Prop) : Prop :=
  ∀ y1 : Int32, y1 = (0 : Int32) → (L194 x0 x1 x3 x7 x9 y1 h)
set_option maxRecDepth 20000 in
set_option maxHeartbeats 4000000 in
theorem W_X12_act_191 {w : Wd} {E : GE} {sh : List Sh} {x0 : Nat} {x1 : Int32} {x3 : Int32} {x7 : Int64} {x9 : Int64} {h : Hp} {L194 : Nat → Int32 → Int32 → Int64 → Int64 → Int32 → Hp → Prop} {RET : Hp → Prop} (X : Cx w E cX12_act 12 RX12) (Tt : Rt w E none sh.length 0 0 (fun q sh9 h9 => q = none ∧ sh9 = sh ∧ RET h9)) (hR : gR E = { frames := 2, cells := 0, slots := 0, locals := 50 }) (hL194 : ∀ (x0 : Nat) (x1 : Int32) (x3 : Int32) (x7 : Int64) (x9 : Int64) (x11 : Int32) (h : Hp), L194 x0 x1 x3 x7 x9 x11 h → G w E 12 194 [(0, rv w.2.2.2 x0), (1, Value.int x1), (3, Value.int x3), (7, Value.long x7), (9, Value.long x9), (11, Value.int x11)] [] sh h 0 0) (hV : V_X12_act_191 w sh x0 x1 x3 x7 x9 h L194 RET) : G w E 12 191 [(0, rv w.2.2.2 x0), (1, Value.int x1), (3, Value.int x3), (7, Value.long x7), (9, Value.long x9)] [] sh h 0 0 := by
  unfold V_X12_act_191 at hV
  refine g_iconst (pc := 191) (v := (0 : Int32)) X dX12_act_191 (by decide) ?_
  refine g_istore (pc := 192) X (i := 11) (rest := [(0, rv w.2.2.2 x0), (1, Value.int x1), (3, Value.int x3), (7, Value.long x7), (9, Value.long x9)]) (by decide) rfl dX12_act_192 (fun y1 e2 => ?_)
  have hV := hV y1 e2
  refine g_lv [1, 2, 3, 4, 5, 0] rfl ?_
  exact hL194 x0 x1 x3 x7 x9 y1 h hV
def V_X12_act_180 (w : Wd) (sh : List Sh) (x0 : Nat) (x1 : Int32) (x3 : Int32) (x7 : Int64) (x9 : Int64) (h : Hp) (L194 : Nat → Int32 → Int32 → Int64 → Int64 → Int32 → Hp → Prop) (RET : Hp → Prop) : Prop :=
  ((¬ x1 = (3 : Int32)) → (V_X12_act_191 w sh x0 x1 x3 x7 x9 h L194 RET)) ∧ ((x1 = (3 : Int32)) → (shAt sh x0 = some (.inr 12) ∧ (∃ P3 : Hp → Prop, C_X12_remember w sh x0 x9 h P3 ∧ (∀ h6 : Hp, P3 h6 → (V_X12_act_191 w sh x0 x1 x3 x7 x9 h6 L194 RET)))))
set_option maxRecDepth 20000 in
set_option maxHeartbeats 4000000 in
theorem W_X12_act_180 {w : Wd} {E : GE} {sh : List Sh} {x0 : Nat} {x1 : Int32} {x3 : Int32} {x7 : Int64} {x9 : Int64} {h : Hp} {L194 : Nat → Int32 → Int32 → Int64 → Int64 → Int32 → Hp → Prop} {RET : Hp → Prop} (X : Cx w E cX12_act 12 RX12) (Tt : Rt w E none sh.length 0 0 (fun q sh9 h9 => q = none ∧ sh9 = sh ∧ RET h9)) (hR : gR E = { frames := 2, cells := 0, slots := 0, locals := 50 }) (hL194 : ∀ (x0 : Nat) (x1 : Int32) (x3 : Int32) (x7 : Int64) (x9 : Int64) (x11 : Int32) (h : Hp), L194 x0 x1 x3 x7 x9 x11 h → G w E 12 194 [(0, rv w.2.2.2 x0), (1, Value.int x1), (3, Value.int x3), (7, Value.long x7), (9, Value.long x9), (11, Value.int x11)] [] sh h 0 0) (hV : V_X12_act_180 w sh x0 x1 x3 x7 x9 h L194 RET) : G w E 12 180 [(0, rv w.2.2.2 x0), (1, Value.int x1), (3, Value.int x3), (7, Value.long x7), (9, Value.long x9)] [] sh h 0 0 := by
  unfold V_X12_act_180 at hV
  refine g_iload_n (pc := 180) X 1 rfl rfl dX12_act_180 ?_
  refine g_iconst (pc := 181) (v := (3 : Int32)) X dX12_act_181 (by decide) ?_
  refine g_icmp_ne (pc := 182) X 191 dX12_act_182 (by decide) (fun c1 => ?_) (fun c1 => ?_)
  · have hV := hV.1 c1
    exact W_X12_act_191 X Tt hR hL194 hV
  · have hV := hV.2 c1
    refine g_aload_n (pc := 185) X 0 rfl rfl dX12_act_185 ?_
    refine g_lload (pc := 186) X 4 rfl dX12_act_186 ?_
    obtain ⟨q2, hV⟩ := hV
    obtain ⟨P3, t4, hV⟩ := hV
    refine g_cVV (pc := 188) X (As := [Value.long x9]) ml_X12_260 rfl q2 t4 (by rw [hR]; exact ⟨by decide, by decide, by decide, by decide⟩) rfl rfl (Nat.zero_le _) dX12_act_188 (fun h6 p5 => ?_)
    have hV := hV h6 p5
    exact W_X12_act_191 X Tt hR hL194 hV
def V_X12_act_170 (w : Wd) (sh : List Sh) (x0 : Nat) (x5 : Int32) (h : Hp) (L194 : Nat → Int32 → Int32 → Int64 → Int64 → Int32 → Hp → Prop) (RET : Hp → Prop) : Prop :=
  shAt sh x0 = some (.inr 12) ∧ (∃ P2 : Int32 → Hp → Prop, C_X12_fails w sh x0 (14 : Int32) x5 h P2 ∧ (∀ (v6 : Int32) (h5 : Hp), P2 v6 h5 → (RET h5)))
set_option maxRecDepth 20000 in
set_option maxHeartbeats 4000000 in
theorem W_X12_act_170 {w : Wd} {E : GE} {sh : List Sh} {x0 : Nat} {x5 : Int32} {h : Hp} {L194 : Nat → Int32 → Int32 → Int64 → Int64 → Int32 → Hp → Prop} {RET : Hp → Prop} (X : Cx w E cX12_act 12 RX12) (Tt : Rt w E none sh.length 0 0 (fun q sh9 h9 => q = none ∧ sh9 = sh ∧ RET h9)) (hR : gR E = { frames := 2, cells := 0, slots := 0, locals := 50 }) (hL194 : ∀ (x0 : Nat) (x1 : Int32) (x3 : Int32) (x7 : Int64) (x9 : Int64) (x11 : Int32) (h : Hp), L194 x0 x1 x3 x7 x9 x11 h → G w E 12 194 [(0, rv w.2.2.2 x0), (1, Value.int x1), (3, Value.int x3), (7, Value.long x7), (9, Value.long x9), (11, Value.int x11)] [] sh h 0 0) (hV : V_X12_act_170 w sh x0 x5 h L194 RET) : G w E 12 170 [(0, rv w.2.2.2 x0), (5, Value.int x5)] [] sh h 0 0 := by
  unfold V_X12_act_170 at hV
  refine g_aload_n (pc := 170) X 0 rfl rfl dX12_act_170 ?_
  refine g_bipush (pc := 171) (v := (14 : Int32)) X dX12_act_171 (by decide) ?_
  refine g_iload (pc := 173) X 1 rfl dX12_act_173 ?_
  obtain ⟨q1, hV⟩ := hV
  obtain ⟨P2, t3, hV⟩ := hV
  refine g_cVI (pc := 175) X (As := [Value.int (14 : Int32), Value.int x5]) ml_X12_153 rfl q1 t3 (by rw [hR]; exact ⟨by decide, by decide, by decide, by decide⟩) rfl rfl (Nat.zero_le _) dX12_act_175 (fun v6 h5 p4 => ?_)
  have hV := hV v6 h5 p4
  refine g_pop (pc := 178) X dX12_act_178 (rfl) ?_
  exact g_vret (pc := 179) X Tt ⟨rfl, rfl, hV⟩ dX12_act_179
def V_X12_act_131 (w : Wd) (sh : List Sh) (x0 : Nat) (x1 : Int32) (x3 : Int32) (x5 : Int32) (x7 : Int64) (s0 : Int64) (h : Hp) (L194 : Nat → Int32 → Int32 → Int64 → Int64 → Int32 → Hp → Prop) (RET : Hp → Prop) : Prop :=
  ∀ y1 : Int64, y1 = s0 → (((¬ x1 = (3 : Int32)) → (V_X12_act_180 w sh x0 x1 x3 x7 y1 h L194 RET)) ∧ ((x1 = (3 : Int32)) → (shAt sh x0 = some (.inr 12) ∧ (((¬ (h.1 x0 36) = 0) → (V_X12_act_170 w sh x0 x5 h L194 RET)) ∧ (((h.1 x0 36) = 0) → (((¬ (h.1 x0 37) = 0) → (V_X12_act_170 w sh x0 x5 h L194 RET)) ∧ (((h.1 x0 37) = 0) → ((((lg_cmp y1 (0 : Int64)) < 0) → (V_X12_act_170 w sh x0 x5 h L194 RET)) ∧ ((¬ (lg_cmp y1 (0 : Int64)) < 0) → ((((lg_cmp y1 ((h.1 x0 26).toInt64)) < 0) → (V_X12_act_180 w sh x0 x1 x3 x7 y1 h L194 RET)) ∧ ((¬ (lg_cmp y1 ((h.1 x0 26).toInt64)) < 0) → (V_X12_act_170 w sh x0 x5 h L194 RET))))))))))))
set_option maxRecDepth 20000 in
set_option maxHeartbeats 4000000 in
theorem W_X12_act_131 {w : Wd} {E : GE} {sh : List Sh} {x0 : Nat} {x1 : Int32} {x3 : Int32} {x5 : Int32} {x7 : Int64} {s0 : Int64} {h : Hp} {L194 : Nat → Int32 → Int32 → Int64 → Int64 → Int32 → Hp → Prop} {RET : Hp → Prop} (X : Cx w E cX12_act 12 RX12) (Tt : Rt w E none sh.length 0 0 (fun q sh9 h9 => q = none ∧ sh9 = sh ∧ RET h9)) (hR : gR E = { frames := 2, cells := 0, slots := 0, locals := 50 }) (hL194 : ∀ (x0 : Nat) (x1 : Int32) (x3 : Int32) (x7 : Int64) (x9 : Int64) (x11 : Int32) (h : Hp), L194 x0 x1 x3 x7 x9 x11 h → G w E 12 194 [(0, rv w.2.2.2 x0), (1, Value.int x1), (3, Value.int x3), (7, Value.long x7), (9, Value.long x9), (11, Value.int x11)] [] sh h 0 0) (hV : V_X12_act_131 w sh x0 x1 x3 x5 x7 s0 h L194 RET) : G w E 12 131 [(0, rv w.2.2.2 x0), (1, Value.int x1), (3, Value.int x3), (5, Value.int x5), (7, Value.long x7)] [Value.long s0] sh h 0 0 := by
  unfold V_X12_act_131 at hV
  refine g_lstore (pc := 131) X (i := 9) (rest := [(0, rv w.2.2.2 x0), (1, Value.int x1), (3, Value.int x3), (5, Value.int x5), (7, Value.long x7)]) (by decide) rfl dX12_act_131 (fun y1 e2 => ?_)
  have hV := hV y1 e2
  refine g_iload_n (pc := 133) X 2 rfl rfl dX12_act_133 ?_
  refine g_iconst (pc := 134) (v := (3 : Int32)) X dX12_act_134 (by decide) ?_
  refine g_icmp_ne (pc := 135) X 180 dX12_act_135 (by decide) (fun c3 => ?_) (fun c3 => ?_)
  · have hV := hV.1 c3
    refine g_lv [1, 2, 3, 5, 0] rfl ?_
    exact W_X12_act_180 X Tt hR hL194 hV
  · have hV := hV.2 c3
    refine g_aload_n (pc := 138) X 1 rfl rfl dX12_act_138 ?_
    obtain ⟨q4, hV⟩ := hV
    refine g_getI (pc := 139) X fl_X12_157 q4 dX12_act_139 ?_
    refine g_if_ne (pc := 142) X 170 dX12_act_142 (by decide) (fun c5 => ?_) (fun c5 => ?_)
    · have hV := hV.1 c5
      refine g_lv [1, 4] rfl ?_
      exact W_X12_act_170 X Tt hR hL194 hV
    · have hV := hV.2 c5
      refine g_aload_n (pc := 145) X 1 rfl rfl dX12_act_145 ?_
      refine g_getI (pc := 146) X fl_X12_161 q4 dX12_act_146 ?_
      refine g_if_ne (pc := 149) X 170 dX12_act_149 (by decide) (fun c6 => ?_) (fun c6 => ?_)
      · have hV := hV.1 c6
        refine g_lv [1, 4] rfl ?_
        exact W_X12_act_170 X Tt hR hL194 hV
      · have hV := hV.2 c6
        refine g_lload (pc := 152) X 0 rfl dX12_act_152 ?_
        refine g_lconst (pc := 154) (v := (0 : Int64)) X dX12_act_154 (by decide) ?_
        refine g_lcmp (pc := 155) X dX12_act_155 ?_
        refine g_if_lt (pc := 156) X 170 dX12_act_156 (by decide) (fun c7 => ?_) (fun c7 => ?_)
        · have hV := hV.1 c7
          refine g_lv [1, 4] rfl ?_
          exact W_X12_act_170 X Tt hR hL194 hV
        · have hV := hV.2 c7
          refine g_lload (pc := 159) X 0 rfl dX12_act_159 ?_
          refine g_aload_n (pc := 161) X 1 rfl rfl dX12_act_161 ?_
          refine g_getI (pc := 162) X fl_X12_236 q4 dX12_act_162 ?_
          refine g_i2l (pc := 165) X dX12_act_165 ?_
          refine g_lcmp (pc := 166) X dX12_act_166 ?_
          refine g_if_lt (pc := 167) X 180 dX12_act_167 (by decide) (fun c8 => ?_) (fun c8 => ?_)
          · have hV := hV.1 c8
            refine g_lv [1, 2, 3, 5, 0] rfl ?_
            exact W_X12_act_180 X Tt hR hL194 hV
          · have hV := hV.2 c8
            refine g_lv [1, 4] rfl ?_
            exact W_X12_act_170 X Tt hR hL194 hV
def V_X12_act_115 (w : Wd) (sh : List Sh) (x0 : Nat) (x1 : Int32) (x3 : Int32) (x5 : Int32) (x7 : Int64) (h : Hp) (L194 : Nat → Int32 → Int32 → Int64 → Int64 → Int32 → Hp → Prop) (RET : Hp → Prop) : Prop :=
  ((¬ x1 = (3 : Int32)) → (V_X12_act_131 w sh x0 x1 x3 x5 x7 (-1 : Int64) h L194 RET)) ∧ ((x1 = (3 : Int32)) → (shAt sh x0 = some (.inr 12) ∧ (∃ P3 : Int64 → Hp → Prop, C_X12_addressBy w sh x0 x3 h P3 ∧ (∀ (v7 : Int64) (h6 : Hp), P3 v7 h6 → (V_X12_act_131 w sh x0 x1 x3 x5 x7 v7 h6 L194 RET)))))
set_option maxRecDepth 20000 in
set_option maxHeartbeats 4000000 in
theorem W_X12_act_115 {w : Wd} {E : GE} {sh : List Sh} {x0 : Nat} {x1 : Int32} {x3 : Int32} {x5 : Int32} {x7 : Int64} {h : Hp} {L194 : Nat → Int32 → Int32 → Int64 → Int64 → Int32 → Hp → Prop} {RET : Hp → Prop} (X : Cx w E cX12_act 12 RX12) (Tt : Rt w E none sh.length 0 0 (fun q sh9 h9 => q = none ∧ sh9 = sh ∧ RET h9)) (hR : gR E = { frames := 2, cells := 0, slots := 0, locals := 50 }) (hL194 : ∀ (x0 : Nat) (x1 : Int32) (x3 : Int32) (x7 : Int64) (x9 : Int64) (x11 : Int32) (h : Hp), L194 x0 x1 x3 x7 x9 x11 h → G w E 12 194 [(0, rv w.2.2.2 x0), (1, Value.int x1), (3, Value.int x3), (7, Value.long x7), (9, Value.long x9), (11, Value.int x11)] [] sh h 0 0) (hV : V_X12_act_115 w sh x0 x1 x3 x5 x7 h L194 RET) : G w E 12 115 [(0, rv w.2.2.2 x0), (1, Value.int x1), (3, Value.int x3), (5, Value.int x5), (7, Value.long x7)] [] sh h 0 0 := by
  unfold V_X12_act_115 at hV
  refine g_iload_n (pc := 115) X 1 rfl rfl dX12_act_115 ?_
  refine g_iconst (pc := 116) (v := (3 : Int32)) X dX12_act_116 (by decide) ?_
  refine g_icmp_ne (pc := 117) X 128 dX12_act_117 (by decide) (fun c1 => ?_) (fun c1 => ?_)
  · have hV := hV.1 c1
    refine g_ldc2 (pc := 128) X kc_X12_258 dX12_act_128 ?_
    exact W_X12_act_131 X Tt hR hL194 hV
  · have hV := hV.2 c1
    refine g_aload_n (pc := 120) X 0 rfl rfl dX12_act_120 ?_
    refine g_iload_n (pc := 121) X 2 rfl rfl dX12_act_121 ?_
    obtain ⟨q2, hV⟩ := hV
    obtain ⟨P3, t4, hV⟩ := hV
    refine g_cVJ (pc := 122) X (As := [Value.int x3]) ml_X12_255 rfl q2 t4 (by rw [hR]; exact ⟨by decide, by decide, by decide, by decide⟩) rfl rfl (Nat.zero_le _) dX12_act_122 (fun v7 h6 p5 => ?_)
    have hV := hV v7 h6 p5
    refine g_goto (pc := 125) X 131 dX12_act_125 (by decide) ?_
    exact W_X12_act_131 X Tt hR hL194 hV
def V_X12_act_91 (w : Wd) (sh : List Sh) (x0 : Nat) (x1 : Int32) (x3 : Int32) (x5 : Int32) (x7 : Int64) (s0 : Int64) (h : Hp) (L194 : Nat → Int32 → Int32 → Int64 → Int64 → Int32 → Hp → Prop) (RET : Hp → Prop) : Prop :=
  shAt sh x0 = some (.inr 12) ∧ ((((lg_cmp s0 (((h.1 x0 39) - (h.1 x0 38)).toInt64)) ≤ 0) → (V_X12_act_115 w sh x0 x1 x3 x5 x7 h L194 RET)) ∧ ((¬ (lg_cmp s0 (((h.1 x0 39) - (h.1 x0 38)).toInt64)) ≤ 0) → (∃ P3 : Int32 → Hp → Prop, C_X12_fails w sh x0 (12 : Int32) x5 h P3 ∧ (∀ (v7 : Int32) (h6 : Hp), P3 v7 h6 → (RET h6)))))
set_option maxRecDepth 20000 in
set_option maxHeartbeats 4000000 in
theorem W_X12_act_91 {w : Wd} {E : GE} {sh : List Sh} {x0 : Nat} {x1 : Int32} {x3 : Int32} {x5 : Int32} {x7 : Int64} {s0 : Int64} {h : Hp} {L194 : Nat → Int32 → Int32 → Int64 → Int64 → Int32 → Hp → Prop} {RET : Hp → Prop} (X : Cx w E cX12_act 12 RX12) (Tt : Rt w E none sh.length 0 0 (fun q sh9 h9 => q = none ∧ sh9 = sh ∧ RET h9)) (hR : gR E = { frames := 2, cells := 0, slots := 0, locals := 50 }) (hL194 : ∀ (x0 : Nat) (x1 : Int32) (x3 : Int32) (x7 : Int64) (x9 : Int64) (x11 : Int32) (h : Hp), L194 x0 x1 x3 x7 x9 x11 h → G w E 12 194 [(0, rv w.2.2.2 x0), (1, Value.int x1), (3, Value.int x3), (7, Value.long x7), (9, Value.long x9), (11, Value.int x11)] [] sh h 0 0) (hV : V_X12_act_91 w sh x0 x1 x3 x5 x7 s0 h L194 RET) : G w E 12 91 [(0, rv w.2.2.2 x0), (1, Value.int x1), (3, Value.int x3), (5, Value.int x5), (7, Value.long x7)] [Value.long s0] sh h 0 0 := by
  unfold V_X12_act_91 at hV
  refine g_aload_n (pc := 91) X 0 rfl rfl dX12_act_91 ?_
  obtain ⟨q1, hV⟩ := hV
  refine g_getI (pc := 92) X fl_X12_242 q1 dX12_act_92 ?_
  refine g_aload_n (pc := 95) X 0 rfl rfl dX12_act_95 ?_
  refine g_getI (pc := 96) X fl_X12_239 q1 dX12_act_96 ?_
  refine g_isub (pc := 99) X dX12_act_99 ?_
  refine g_i2l (pc := 100) X dX12_act_100 ?_
  refine g_lcmp (pc := 101) X dX12_act_101 ?_
  refine g_if_le (pc := 102) X 115 dX12_act_102 (by decide) (fun c2 => ?_) (fun c2 => ?_)
  · have hV := hV.1 c2
    exact W_X12_act_115 X Tt hR hL194 hV
  · have hV := hV.2 c2
    refine g_aload_n (pc := 105) X 0 rfl rfl dX12_act_105 ?_
    refine g_bipush (pc := 106) (v := (12 : Int32)) X dX12_act_106 (by decide) ?_
    refine g_iload (pc := 108) X 3 rfl dX12_act_108 ?_
    obtain ⟨P3, t4, hV⟩ := hV
    refine g_cVI (pc := 110) X (As := [Value.int (12 : Int32), Value.int x5]) ml_X12_153 rfl q1 t4 (by rw [hR]; exact ⟨by decide, by decide, by decide, by decide⟩) rfl rfl (Nat.zero_le _) dX12_act_110 (fun v7 h6 p5 => ?_)
    have hV := hV v7 h6 p5
    refine g_pop (pc := 113) X dX12_act_113 (rfl) ?_
    exact g_vret (pc := 114) X Tt ⟨rfl, rfl, hV⟩ dX12_act_114
def V_X12_act_45 (w : Wd) (sh : List Sh) (x0 : Nat) (x1 : Int32) (x3 : Int32) (x4 : Int32) (x5 : Int32) (x7 : Int64) (h : Hp) (L194 : Nat → Int32 → Int32 → Int64 → Int64 → Int32 → Hp → Prop) (RET : Hp → Prop) : Prop :=
  shAt sh x0 = some (.inr 12) ∧ ((((lg_cmp ((((h.1 x0 26) - (h.1 x0 25)).toInt64) + x7) (x4.toInt64)) ≤ 0) → (((x1 = (3 : Int32)) → (V_X12_act_115 w sh x0 x1 x3 x5 x7 h L194 RET)) ∧ ((¬ x1 = (3 : Int32)) → (((¬ x1 = (1 : Int32)) → (V_X12_act_91 w sh x0 x1 x3 x5 x7 (1 : Int64) h L194 RET)) ∧ ((x1 = (1 : Int32)) → (V_X12_act_91 w sh x0 x1 x3 x5 x7 x7 h L194 RET)))))) ∧ ((¬ (lg_cmp ((((h.1 x0 26) - (h.1 x0 25)).toInt64) + x7) (x4.toInt64)) ≤ 0) → (∃ P5 : Int32 → Hp → Prop, C_X12_fails w sh x0 (13 : Int32) x5 h P5 ∧ (∀ (v9 : Int32) (h8 : Hp), P5 v9 h8 → (RET h8)))))
set_option maxRecDepth 20000 in
set_option maxHeartbeats 4000000 in
theorem W_X12_act_45 {w : Wd} {E : GE} {sh : List Sh} {x0 : Nat} {x1 : Int32} {x3 : Int32} {x4 : Int32} {x5 : Int32} {x7 : Int64} {h : Hp} {L194 : Nat → Int32 → Int32 → Int64 → Int64 → Int32 → Hp → Prop} {RET : Hp → Prop} (X : Cx w E cX12_act 12 RX12) (Tt : Rt w E none sh.length 0 0 (fun q sh9 h9 => q = none ∧ sh9 = sh ∧ RET h9)) (hR : gR E = { frames := 2, cells := 0, slots := 0, locals := 50 }) (hL194 : ∀ (x0 : Nat) (x1 : Int32) (x3 : Int32) (x7 : Int64) (x9 : Int64) (x11 : Int32) (h : Hp), L194 x0 x1 x3 x7 x9 x11 h → G w E 12 194 [(0, rv w.2.2.2 x0), (1, Value.int x1), (3, Value.int x3), (7, Value.long x7), (9, Value.long x9), (11, Value.int x11)] [] sh h 0 0) (hV : V_X12_act_45 w sh x0 x1 x3 x4 x5 x7 h L194 RET) : G w E 12 45 [(0, rv w.2.2.2 x0), (1, Value.int x1), (3, Value.int x3), (4, Value.int x4), (5, Value.int x5), (7, Value.long x7)] [] sh h 0 0 := by
  unfold V_X12_act_45 at hV
  refine g_aload_n (pc := 45) X 0 rfl rfl dX12_act_45 ?_
  obtain ⟨q1, hV⟩ := hV
  refine g_getI (pc := 46) X fl_X12_236 q1 dX12_act_46 ?_
  refine g_aload_n (pc := 49) X 0 rfl rfl dX12_act_49 ?_
  refine g_getI (pc := 50) X fl_X12_219 q1 dX12_act_50 ?_
  refine g_isub (pc := 53) X dX12_act_53 ?_
  refine g_i2l (pc := 54) X dX12_act_54 ?_
  refine g_lload (pc := 55) X 5 rfl dX12_act_55 ?_
  refine g_ladd (pc := 57) X dX12_act_57 ?_
  refine g_iload (pc := 58) X 3 rfl dX12_act_58 ?_
  refine g_i2l (pc := 60) X dX12_act_60 ?_
  refine g_lcmp (pc := 61) X dX12_act_61 ?_
  refine g_if_le (pc := 62) X 75 dX12_act_62 (by decide) (fun c2 => ?_) (fun c2 => ?_)
  · have hV := hV.1 c2
    refine g_iload_n (pc := 75) X 1 rfl rfl dX12_act_75 ?_
    refine g_iconst (pc := 76) (v := (3 : Int32)) X dX12_act_76 (by decide) ?_
    refine g_icmp_eq (pc := 77) X 115 dX12_act_77 (by decide) (fun c3 => ?_) (fun c3 => ?_)
    · have hV := hV.1 c3
      refine g_lv [0, 1, 2, 4, 5] rfl ?_
      exact W_X12_act_115 X Tt hR hL194 hV
    · have hV := hV.2 c3
      refine g_iload_n (pc := 80) X 1 rfl rfl dX12_act_80 ?_
      refine g_iconst (pc := 81) (v := (1 : Int32)) X dX12_act_81 (by decide) ?_
      refine g_icmp_ne (pc := 82) X 90 dX12_act_82 (by decide) (fun c4 => ?_) (fun c4 => ?_)
      · have hV := hV.1 c4
        refine g_lconst (pc := 90) (v := (1 : Int64)) X dX12_act_90 (by decide) ?_
        refine g_lv [0, 1, 2, 4, 5] rfl ?_
        exact W_X12_act_91 X Tt hR hL194 hV
      · have hV := hV.2 c4
        refine g_lload (pc := 85) X 5 rfl dX12_act_85 ?_
        refine g_goto (pc := 87) X 91 dX12_act_87 (by decide) ?_
        refine g_lv [0, 1, 2, 4, 5] rfl ?_
        exact W_X12_act_91 X Tt hR hL194 hV
  · have hV := hV.2 c2
    refine g_aload_n (pc := 65) X 0 rfl rfl dX12_act_65 ?_
    refine g_bipush (pc := 66) (v := (13 : Int32)) X dX12_act_66 (by decide) ?_
    refine g_iload (pc := 68) X 4 rfl dX12_act_68 ?_
    obtain ⟨P5, t6, hV⟩ := hV
    refine g_cVI (pc := 70) X (As := [Value.int (13 : Int32), Value.int x5]) ml_X12_153 rfl q1 t6 (by rw [hR]; exact ⟨by decide, by decide, by decide, by decide⟩) rfl rfl (Nat.zero_le _) dX12_act_70 (fun v9 h8 p7 => ?_)
    have hV := hV v9 h8 p7
    refine g_pop (pc := 73) X dX12_act_73 (rfl) ?_
    exact g_vret (pc := 74) X Tt ⟨rfl, rfl, hV⟩ dX12_act_74
def V_X12_act_35 (w : Wd) (sh : List Sh) (x0 : Nat) (x5 : Int32) (h : Hp) (L194 : Nat → Int32 → Int32 → Int64 → Int64 → Int32 → Hp → Prop) (RET : Hp → Prop) : Prop :=
  shAt sh x0 = some (.inr 12) ∧ (∃ P2 : Int32 → Hp → Prop, C_X12_fails w sh x0 (11 : Int32) x5 h P2 ∧ (∀ (v6 : Int32) (h5 : Hp), P2 v6 h5 → (RET h5)))
set_option maxRecDepth 20000 in
set_option maxHeartbeats 4000000 in
theorem W_X12_act_35 {w : Wd} {E : GE} {sh : List Sh} {x0 : Nat} {x5 : Int32} {h : Hp} {L194 : Nat → Int32 → Int32 → Int64 → Int64 → Int32 → Hp → Prop} {RET : Hp → Prop} (X : Cx w E cX12_act 12 RX12) (Tt : Rt w E none sh.length 0 0 (fun q sh9 h9 => q = none ∧ sh9 = sh ∧ RET h9)) (hR : gR E = { frames := 2, cells := 0, slots := 0, locals := 50 }) (hL194 : ∀ (x0 : Nat) (x1 : Int32) (x3 : Int32) (x7 : Int64) (x9 : Int64) (x11 : Int32) (h : Hp), L194 x0 x1 x3 x7 x9 x11 h → G w E 12 194 [(0, rv w.2.2.2 x0), (1, Value.int x1), (3, Value.int x3), (7, Value.long x7), (9, Value.long x9), (11, Value.int x11)] [] sh h 0 0) (hV : V_X12_act_35 w sh x0 x5 h L194 RET) : G w E 12 35 [(0, rv w.2.2.2 x0), (5, Value.int x5)] [] sh h 0 0 := by
  unfold V_X12_act_35 at hV
  refine g_aload_n (pc := 35) X 0 rfl rfl dX12_act_35 ?_
  refine g_bipush (pc := 36) (v := (11 : Int32)) X dX12_act_36 (by decide) ?_
  refine g_iload (pc := 38) X 1 rfl dX12_act_38 ?_
  obtain ⟨q1, hV⟩ := hV
  obtain ⟨P2, t3, hV⟩ := hV
  refine g_cVI (pc := 40) X (As := [Value.int (11 : Int32), Value.int x5]) ml_X12_153 rfl q1 t3 (by rw [hR]; exact ⟨by decide, by decide, by decide, by decide⟩) rfl rfl (Nat.zero_le _) dX12_act_40 (fun v6 h5 p4 => ?_)
  have hV := hV v6 h5 p4
  refine g_pop (pc := 43) X dX12_act_43 (rfl) ?_
  exact g_vret (pc := 44) X Tt ⟨rfl, rfl, hV⟩ dX12_act_44
def V_X12_act_0 (w : Wd) (sh : List Sh) (x0 : Nat) (x1 : Int32) (x2 : Int32) (x3 : Int32) (x4 : Int32) (x5 : Int32) (x6 : Int32) (h : Hp) (L194 : Nat → Int32 → Int32 → Int64 → Int64 → Int32 → Hp → Prop) (RET : Hp → Prop) : Prop :=
  ((¬ x1 = 0) → (∀ y2 : Int64, y2 = (x2.toInt64) → (((¬ x2 = 0) → (V_X12_act_45 w sh x0 x1 x3 x4 x5 y2 h L194 RET)) ∧ ((x2 = 0) → (shAt sh x0 = some (.inr 12) ∧ (∃ P6 : Int64 → Hp → Prop, C_X12_big w sh x0 x6 h P6 ∧ (∀ (v10 : Int64) (h9 : Hp), P6 v10 h9 → (∀ y11 : Int64, y11 = v10 → (((¬ (h9.1 x0 36) = 0) → (V_X12_act_35 w sh x0 x5 h9 L194 RET)) ∧ (((h9.1 x0 36) = 0) → ((((h9.1 x0 37) = 0) → (V_X12_act_45 w sh x0 x1 x3 x4 x5 y11 h9 L194 RET)) ∧ ((¬ (h9.1 x0 37) = 0) → (V_X12_act_35 w sh x0 x5 h9 L194 RET))))))))))))) ∧ ((x1 = 0) → (RET h))
set_option maxRecDepth 20000 in
set_option maxHeartbeats 4000000 in
theorem W_X12_act_0 {w : Wd} {E : GE} {sh : List Sh} {x0 : Nat} {x1 : Int32} {x2 : Int32} {x3 : Int32} {x4 : Int32} {x5 : Int32} {x6 : Int32} {h : Hp} {L194 : Nat → Int32 → Int32 → Int64 → Int64 → Int32 → Hp → Prop} {RET : Hp → Prop} (X : Cx w E cX12_act 12 RX12) (Tt : Rt w E none sh.length 0 0 (fun q sh9 h9 => q = none ∧ sh9 = sh ∧ RET h9)) (hR : gR E = { frames := 2, cells := 0, slots := 0, locals := 50 }) (hL194 : ∀ (x0 : Nat) (x1 : Int32) (x3 : Int32) (x7 : Int64) (x9 : Int64) (x11 : Int32) (h : Hp), L194 x0 x1 x3 x7 x9 x11 h → G w E 12 194 [(0, rv w.2.2.2 x0), (1, Value.int x1), (3, Value.int x3), (7, Value.long x7), (9, Value.long x9), (11, Value.int x11)] [] sh h 0 0) (hV : V_X12_act_0 w sh x0 x1 x2 x3 x4 x5 x6 h L194 RET) : G w E 12 0 [(0, rv w.2.2.2 x0), (1, Value.int x1), (2, Value.int x2), (3, Value.int x3), (4, Value.int x4), (5, Value.int x5), (6, Value.int x6)] [] sh h 0 0 := by
  unfold V_X12_act_0 at hV
  refine g_iload_n (pc := 0) X 1 rfl rfl dX12_act_0 ?_
  refine g_if_ne (pc := 1) X 5 dX12_act_1 (by decide) (fun c1 => ?_) (fun c1 => ?_)
  · have hV := hV.1 c1
    refine g_iload_n (pc := 5) X 2 rfl rfl dX12_act_5 ?_
    refine g_i2l (pc := 6) X dX12_act_6 ?_
    refine g_lstore (pc := 7) X (i := 7) (rest := [(0, rv w.2.2.2 x0), (1, Value.int x1), (2, Value.int x2), (3, Value.int x3), (4, Value.int x4), (5, Value.int x5), (6, Value.int x6)]) (by decide) rfl dX12_act_7 (fun y2 e3 => ?_)
    have hV := hV y2 e3
    refine g_iload_n (pc := 9) X 3 rfl rfl dX12_act_9 ?_
    refine g_if_ne (pc := 10) X 45 dX12_act_10 (by decide) (fun c4 => ?_) (fun c4 => ?_)
    · have hV := hV.1 c4
      refine g_lv [1, 2, 4, 5, 6, 0] rfl ?_
      exact W_X12_act_45 X Tt hR hL194 hV
    · have hV := hV.2 c4
      refine g_aload_n (pc := 13) X 1 rfl rfl dX12_act_13 ?_
      refine g_iload (pc := 14) X 7 rfl dX12_act_14 ?_
      obtain ⟨q5, hV⟩ := hV
      obtain ⟨P6, t7, hV⟩ := hV
      refine g_cVJ (pc := 16) X (As := [Value.int x6]) ml_X12_166 rfl q5 t7 (by rw [hR]; exact ⟨by decide, by decide, by decide, by decide⟩) rfl rfl (Nat.zero_le _) dX12_act_16 (fun v10 h9 p8 => ?_)
      have hV := hV v10 h9 p8
      refine g_lstore (pc := 19) X (i := 7) (rest := [(0, rv w.2.2.2 x0), (1, Value.int x1), (2, Value.int x2), (3, Value.int x3), (4, Value.int x4), (5, Value.int x5), (6, Value.int x6)]) (by decide) rfl dX12_act_19 (fun y11 e12 => ?_)
      have hV := hV y11 e12
      refine g_aload_n (pc := 21) X 1 rfl rfl dX12_act_21 ?_
      refine g_getI (pc := 22) X fl_X12_157 q5 dX12_act_22 ?_
      refine g_if_ne (pc := 25) X 35 dX12_act_25 (by decide) (fun c13 => ?_) (fun c13 => ?_)
      · have hV := hV.1 c13
        refine g_lv [1, 6] rfl ?_
        exact W_X12_act_35 X Tt hR hL194 hV
      · have hV := hV.2 c13
        refine g_aload_n (pc := 28) X 1 rfl rfl dX12_act_28 ?_
        refine g_getI (pc := 29) X fl_X12_161 q5 dX12_act_29 ?_
        refine g_if_eq (pc := 32) X 45 dX12_act_32 (by decide) (fun c14 => ?_) (fun c14 => ?_)
        · have hV := hV.1 c14
          refine g_lv [1, 2, 4, 5, 6, 0] rfl ?_
          exact W_X12_act_45 X Tt hR hL194 hV
        · have hV := hV.2 c14
          refine g_lv [1, 6] rfl ?_
          exact W_X12_act_35 X Tt hR hL194 hV
  · have hV := hV.2 c1
    exact g_vret (pc := 4) X Tt ⟨rfl, rfl, hV⟩ dX12_act_4
def C_X12_act (w : Wd) (sh : List Sh) (x0 : Nat) (x1 : Int32) (x2 : Int32) (x3 : Int32) (x4 : Int32) (x5 : Int32) (x6 : Int32) (h : Hp) (RET : Hp → Prop) : Prop := CV w yX12_act (.code yX12_act cX12_act 12 none) 2 50 [rv w.2.2.2 x0, Value.int x1, Value.int x2, Value.int x3, Value.int x4, Value.int x5, Value.int x6] sh h RET
set_option maxRecDepth 20000 in
theorem K_X12_act {w : Wd} {sh : List Sh} {x0 : Nat} {x1 : Int32} {x2 : Int32} {x3 : Int32} {x4 : Int32} {x5 : Int32} {x6 : Int32} {h : Hp} {RET : Hp → Prop} {α : Type} {r : α → α → Prop} (wf : WellFounded r) (I194 : α → Nat → Int32 → Int32 → Int64 → Int64 → Int32 → Hp → Prop) (hE : V_X12_act_0 w sh x0 x1 x2 x3 x4 x5 x6 h (fun x0 x1 x3 x7 x9 x11 h => ∃ a, I194 a x0 x1 x3 x7 x9 x11 h) RET) (h194 : ∀ (b : α) (x0 : Nat) (x1 : Int32) (x3 : Int32) (x7 : Int64) (x9 : Int64) (x11 : Int32) (h : Hp), I194 b x0 x1 x3 x7 x9 x11 h → V_X12_act_194 w sh x0 x1 x3 x7 x9 x11 h (fun x0 x1 x3 x7 x9 x11 h => ∃ a, r a b ∧ I194 a x0 x1 x3 x7 x9 x11 h) RET) : C_X12_act w sh x0 x1 x2 x3 x4 x5 x6 h RET :=
  Ct_of (by decide +kernel) (by simp [lg_sl, rv_cat, cat_int, cat_long]) (fun E X Tt hR _ => by
    have key : ∀ a : α, (∀ (x0 : Nat) (x1 : Int32) (x3 : Int32) (x7 : Int64) (x9 : Int64) (x11 : Int32) (h : Hp), I194 a x0 x1 x3 x7 x9 x11 h → G w E 12 194 [(0, rv w.2.2.2 x0), (1, Value.int x1), (3, Value.int x3), (7, Value.long x7), (9, Value.long x9), (11, Value.int x11)] [] sh h 0 0) := by
      intro a
      induction a using wf.induction with
      | _ a ih =>
        exact (fun x0 x1 x3 x7 x9 x11 h hi => W_X12_act_194 X Tt hR (fun x0 x1 x3 x7 x9 x11 h hx => by obtain ⟨a2, ha, hi⟩ := hx; exact (ih a2 ha) x0 x1 x3 x7 x9 x11 h hi) (h194 a x0 x1 x3 x7 x9 x11 h hi))
    rw [show lv_args 0 [rv w.2.2.2 x0, Value.int x1, Value.int x2, Value.int x3, Value.int x4, Value.int x5, Value.int x6] = [(0, rv w.2.2.2 x0), (1, Value.int x1), (2, Value.int x2), (3, Value.int x3), (4, Value.int x4), (5, Value.int x5), (6, Value.int x6)] from by simp [lv_args, rv_cat, cat_int, cat_long]]
    refine g_lv [0, 1, 2, 3, 4, 5, 6] rfl ?_
    exact W_X12_act_0 X Tt hR (fun x0 x1 x3 x7 x9 x11 h hx => by obtain ⟨a2, hi⟩ := hx; exact (key a2) x0 x1 x3 x7 x9 x11 h hi) hE)
def V_X12_target_264 (w : Wd) (sh : List Sh) (x0 : Nat) (x4 : Int32) (x5 : Int32) (h : Hp) (L39 : Nat → Int32 → Int32 → Int32 → Hp → Prop) (L150 : Nat → Int32 → Int32 → Int32 → Int32 → Int32 → Int32 → Hp → Prop) (RET : Hp → Prop) : Prop :=
  shAt sh x0 = some (.inr 12) ∧ (∃ P2 : Int32 → Hp → Prop, C_X12_fails w sh x0 (15 : Int32) x4 h P2 ∧ (∀ (v6 : Int32) (h5 : Hp), P2 v6 h5 → (∀ h7 : Hp, h7 = wI h5 x0 14 x5 → (RET h7))))
set_option maxRecDepth 20000 in
set_option maxHeartbeats 4000000 in
theorem W_X12_target_264 {w : Wd} {E : GE} {sh : List Sh} {x0 : Nat} {x4 : Int32} {x5 : Int32} {h : Hp} {L39 : Nat → Int32 → Int32 → Int32 → Hp → Prop} {L150 : Nat → Int32 → Int32 → Int32 → Int32 → Int32 → Int32 → Hp → Prop} {RET : Hp → Prop} (X : Cx w E cX12_target 10 RX12) (Tt : Rt w E none sh.length 0 0 (fun q sh9 h9 => q = none ∧ sh9 = sh ∧ RET h9)) (hR : gR E = { frames := 3, cells := 0, slots := 0, locals := 81 }) (hL39 : ∀ (x0 : Nat) (x1 : Int32) (x4 : Int32) (x5 : Int32) (h : Hp), L39 x0 x1 x4 x5 h → G w E 10 39 [(0, rv w.2.2.2 x0), (1, Value.int x1), (4, Value.int x4), (5, Value.int x5)] [] sh h 0 0) (hL150 : ∀ (x0 : Nat) (x1 : Int32) (x4 : Int32) (x5 : Int32) (x6 : Int32) (x7 : Int32) (x9 : Int32) (h : Hp), L150 x0 x1 x4 x5 x6 x7 x9 h → G w E 10 150 [(0, rv w.2.2.2 x0), (1, Value.int x1), (4, Value.int x4), (5, Value.int x5), (6, Value.int x6), (7, Value.int x7), (9, Value.int x9)] [] sh h 0 0) (hV : V_X12_target_264 w sh x0 x4 x5 h L39 L150 RET) : G w E 10 264 [(0, rv w.2.2.2 x0), (4, Value.int x4), (5, Value.int x5)] [] sh h 0 0 := by
  unfold V_X12_target_264 at hV
  refine g_aload_n (pc := 264) X 0 rfl rfl dX12_target_264 ?_
  refine g_bipush (pc := 265) (v := (15 : Int32)) X dX12_target_265 (by decide) ?_
  refine g_iload (pc := 267) X 1 rfl dX12_target_267 ?_
  obtain ⟨q1, hV⟩ := hV
  obtain ⟨P2, t3, hV⟩ := hV
  refine g_cVI (pc := 269) X (As := [Value.int (15 : Int32), Value.int x4]) ml_X12_153 rfl q1 t3 (by rw [hR]; exact ⟨by decide, by decide, by decide, by decide⟩) rfl rfl (Nat.zero_le _) dX12_target_269 (fun v6 h5 p4 => ?_)
  have hV := hV v6 h5 p4
  refine g_pop (pc := 272) X dX12_target_272 (rfl) ?_
  refine g_aload_n (pc := 273) X 0 rfl rfl dX12_target_273 ?_
  refine g_iload (pc := 274) X 2 rfl dX12_target_274 ?_
  refine g_putI (pc := 276) X fl_X12_150 q1 rfl rfl dX12_target_276 (fun h7 e8 => ?_)
  have hV := hV h7 e8
  exact g_vret (pc := 279) X Tt ⟨rfl, rfl, hV⟩ dX12_target_279
def V_X12_target_222 (w : Wd) (sh : List Sh) (x0 : Nat) (x1 : Int32) (x4 : Int32) (x5 : Int32) (h : Hp) (L39 : Nat → Int32 → Int32 → Int32 → Hp → Prop) (L150 : Nat → Int32 → Int32 → Int32 → Int32 → Int32 → Int32 → Hp → Prop) (RET : Hp → Prop) : Prop :=
  shAt sh x0 = some (.inr 12) ∧ (((¬ (h.1 x0 6) = 0) → (∀ h3 : Hp, h3 = wI h x0 14 x5 → (RET h3))) ∧ (((h.1 x0 6) = 0) → (((¬ (h.1 x0 26) = ((h.1 x0 25) + x1)) → (V_X12_target_264 w sh x0 x4 x5 h L39 L150 RET)) ∧ (((h.1 x0 26) = ((h.1 x0 25) + x1)) → ((((h.1 x0 38) < (h.1 x0 39)) → (V_X12_target_264 w sh x0 x4 x5 h L39 L150 RET)) ∧ ((¬ (h.1 x0 38) < (h.1 x0 39)) → ((((h.1 x0 41) ≤ (h.1 x0 40)) → (∀ h8 : Hp, h8 = wI h x0 14 x5 → (RET h8))) ∧ ((¬ (h.1 x0 41) ≤ (h.1 x0 40)) → (V_X12_target_264 w sh x0 x4 x5 h L39 L150 RET)))))))))
set_option maxRecDepth 20000 in
set_option maxHeartbeats 4000000 in
theorem W_X12_target_222 {w : Wd} {E : GE} {sh : List Sh} {x0 : Nat} {x1 : Int32} {x4 : Int32} {x5 : Int32} {h : Hp} {L39 : Nat → Int32 → Int32 → Int32 → Hp → Prop} {L150 : Nat → Int32 → Int32 → Int32 → Int32 → Int32 → Int32 → Hp → Prop} {RET : Hp → Prop} (X : Cx w E cX12_target 10 RX12) (Tt : Rt w E none sh.length 0 0 (fun q sh9 h9 => q = none ∧ sh9 = sh ∧ RET h9)) (hR : gR E = { frames := 3, cells := 0, slots := 0, locals := 81 }) (hL39 : ∀ (x0 : Nat) (x1 : Int32) (x4 : Int32) (x5 : Int32) (h : Hp), L39 x0 x1 x4 x5 h → G w E 10 39 [(0, rv w.2.2.2 x0), (1, Value.int x1), (4, Value.int x4), (5, Value.int x5)] [] sh h 0 0) (hL150 : ∀ (x0 : Nat) (x1 : Int32) (x4 : Int32) (x5 : Int32) (x6 : Int32) (x7 : Int32) (x9 : Int32) (h : Hp), L150 x0 x1 x4 x5 x6 x7 x9 h → G w E 10 150 [(0, rv w.2.2.2 x0), (1, Value.int x1), (4, Value.int x4), (5, Value.int x5), (6, Value.int x6), (7, Value.int x7), (9, Value.int x9)] [] sh h 0 0) (hV : V_X12_target_222 w sh x0 x1 x4 x5 h L39 L150 RET) : G w E 10 222 [(0, rv w.2.2.2 x0), (1, Value.int x1), (4, Value.int x4), (5, Value.int x5)] [] sh h 0 0 := by
  unfold V_X12_target_222 at hV
  refine g_aload_n (pc := 222) X 0 rfl rfl dX12_target_222 ?_
  obtain ⟨q1, hV⟩ := hV
  refine g_getI (pc := 223) X fl_X12_141 q1 dX12_target_223 ?_
  refine g_if_ne (pc := 226) X 273 dX12_target_226 (by decide) (fun c2 => ?_) (fun c2 => ?_)
  · have hV := hV.1 c2
    refine g_aload_n (pc := 273) X 0 rfl rfl dX12_target_273 ?_
    refine g_iload (pc := 274) X 3 rfl dX12_target_274 ?_
    refine g_putI (pc := 276) X fl_X12_150 q1 rfl rfl dX12_target_276 (fun h3 e4 => ?_)
    have hV := hV h3 e4
    exact g_vret (pc := 279) X Tt ⟨rfl, rfl, hV⟩ dX12_target_279
  · have hV := hV.2 c2
    refine g_aload_n (pc := 229) X 0 rfl rfl dX12_target_229 ?_
    refine g_getI (pc := 230) X fl_X12_236 q1 dX12_target_230 ?_
    refine g_aload_n (pc := 233) X 0 rfl rfl dX12_target_233 ?_
    refine g_getI (pc := 234) X fl_X12_219 q1 dX12_target_234 ?_
    refine g_iload_n (pc := 237) X 1 rfl rfl dX12_target_237 ?_
    refine g_iadd (pc := 238) X dX12_target_238 ?_
    refine g_icmp_ne (pc := 239) X 264 dX12_target_239 (by decide) (fun c5 => ?_) (fun c5 => ?_)
    · have hV := hV.1 c5
      refine g_lv [0, 2, 3] rfl ?_
      exact W_X12_target_264 X Tt hR hL39 hL150 hV
    · have hV := hV.2 c5
      refine g_aload_n (pc := 242) X 0 rfl rfl dX12_target_242 ?_
      refine g_getI (pc := 243) X fl_X12_239 q1 dX12_target_243 ?_
      refine g_aload_n (pc := 246) X 0 rfl rfl dX12_target_246 ?_
      refine g_getI (pc := 247) X fl_X12_242 q1 dX12_target_247 ?_
      refine g_icmp_lt (pc := 250) X 264 dX12_target_250 (by decide) (fun c6 => ?_) (fun c6 => ?_)
      · have hV := hV.1 c6
        refine g_lv [0, 2, 3] rfl ?_
        exact W_X12_target_264 X Tt hR hL39 hL150 hV
      · have hV := hV.2 c6
        refine g_aload_n (pc := 253) X 0 rfl rfl dX12_target_253 ?_
        refine g_getI (pc := 254) X fl_X12_245 q1 dX12_target_254 ?_
        refine g_aload_n (pc := 257) X 0 rfl rfl dX12_target_257 ?_
        refine g_getI (pc := 258) X fl_X12_248 q1 dX12_target_258 ?_
        refine g_icmp_ge (pc := 261) X 273 dX12_target_261 (by decide) (fun c7 => ?_) (fun c7 => ?_)
        · have hV := hV.1 c7
          refine g_aload_n (pc := 273) X 0 rfl rfl dX12_target_273 ?_
          refine g_iload (pc := 274) X 3 rfl dX12_target_274 ?_
          refine g_putI (pc := 276) X fl_X12_150 q1 rfl rfl dX12_target_276 (fun h8 e9 => ?_)
          have hV := hV h8 e9
          exact g_vret (pc := 279) X Tt ⟨rfl, rfl, hV⟩ dX12_target_279
        · have hV := hV.2 c7
          refine g_lv [0, 2, 3] rfl ?_
          exact W_X12_target_264 X Tt hR hL39 hL150 hV
def V_X12_target_219 (w : Wd) (sh : List Sh) (x0 : Nat) (x1 : Int32) (x4 : Int32) (x5 : Int32) (h : Hp) (L39 : Nat → Int32 → Int32 → Int32 → Hp → Prop) (L150 : Nat → Int32 → Int32 → Int32 → Int32 → Int32 → Int32 → Hp → Prop) (RET : Hp → Prop) : Prop :=
  L39 x0 x1 x4 x5 h
set_option maxRecDepth 20000 in
set_option maxHeartbeats 4000000 in
theorem W_X12_target_219 {w : Wd} {E : GE} {sh : List Sh} {x0 : Nat} {x1 : Int32} {x4 : Int32} {x5 : Int32} {h : Hp} {L39 : Nat → Int32 → Int32 → Int32 → Hp → Prop} {L150 : Nat → Int32 → Int32 → Int32 → Int32 → Int32 → Int32 → Hp → Prop} {RET : Hp → Prop} (X : Cx w E cX12_target 10 RX12) (Tt : Rt w E none sh.length 0 0 (fun q sh9 h9 => q = none ∧ sh9 = sh ∧ RET h9)) (hR : gR E = { frames := 3, cells := 0, slots := 0, locals := 81 }) (hL39 : ∀ (x0 : Nat) (x1 : Int32) (x4 : Int32) (x5 : Int32) (h : Hp), L39 x0 x1 x4 x5 h → G w E 10 39 [(0, rv w.2.2.2 x0), (1, Value.int x1), (4, Value.int x4), (5, Value.int x5)] [] sh h 0 0) (hL150 : ∀ (x0 : Nat) (x1 : Int32) (x4 : Int32) (x5 : Int32) (x6 : Int32) (x7 : Int32) (x9 : Int32) (h : Hp), L150 x0 x1 x4 x5 x6 x7 x9 h → G w E 10 150 [(0, rv w.2.2.2 x0), (1, Value.int x1), (4, Value.int x4), (5, Value.int x5), (6, Value.int x6), (7, Value.int x7), (9, Value.int x9)] [] sh h 0 0) (hV : V_X12_target_219 w sh x0 x1 x4 x5 h L39 L150 RET) : G w E 10 219 [(0, rv w.2.2.2 x0), (1, Value.int x1), (4, Value.int x4), (5, Value.int x5)] [] sh h 0 0 := by
  unfold V_X12_target_219 at hV
  refine g_goto (pc := 219) X 39 dX12_target_219 (by decide) ?_
  exact hL39 x0 x1 x4 x5 h hV
def V_X12_target_150 (w : Wd) (sh : List Sh) (x0 : Nat) (x1 : Int32) (x4 : Int32) (x5 : Int32) (x6 : Int32) (x7 : Int32) (x9 : Int32) (h : Hp) (L39 : Nat → Int32 → Int32 → Int32 → Hp → Prop) (L150 : Nat → Int32 → Int32 → Int32 → Int32 → Int32 → Int32 → Hp → Prop) (RET : Hp → Prop) : Prop :=
  (((6 : Int32) ≤ x9) → (V_X12_target_219 w sh x0 x1 x4 x5 h L39 L150 RET)) ∧ ((¬ (6 : Int32) ≤ x9) → (shAt sh x0 = some (.inr 12) ∧ (((¬ (h.1 x0 6) = 0) → (V_X12_target_219 w sh x0 x1 x4 x5 h L39 L150 RET)) ∧ (((h.1 x0 6) = 0) → (∃ P4 : Int32 → Hp → Prop, C_X12_entryOf w sh x0 (h.1 x0 18) x7 x9 h P4 ∧ (∀ (v8 : Int32) (h7 : Hp), P4 v8 h7 → (∃ P9 : Int32 → Hp → Prop, C_X12_entryOf w sh x0 (h7.1 x0 18) x7 (x9 + (1 : Int32)) h7 P9 ∧ (∀ (v13 : Int32) (h12 : Hp), P9 v13 h12 → (∃ P14 : Int32 → Hp → Prop, C_X12_entryOf w sh x0 (h12.1 x0 18) x7 (x9 + (2 : Int32)) h12 P14 ∧ (∀ (v18 : Int32) (h17 : Hp), P14 v18 h17 → (∃ P19 : Hp → Prop, C_X12_act w sh x0 v8 v13 v18 x1 x6 x4 h17 P19 ∧ (∀ h22 : Hp, P19 h22 → (∀ y23 : Int32, y23 = x9 + (3 : Int32) → (L150 x0 x1 x4 x5 x6 x7 y23 h22))))))))))))))
set_option maxRecDepth 20000 in
set_option maxHeartbeats 4000000 in
theorem W_X12_target_150 {w : Wd} {E : GE} {sh : List Sh} {x0 : Nat} {x1 : Int32} {x4 : Int32} {x5 : Int32} {x6 : Int32} {x7 : Int32} {x9 : Int32} {h : Hp} {L39 : Nat → Int32 → Int32 → Int32 → Hp → Prop} {L150 : Nat → Int32 → Int32 → Int32 → Int32 → Int32 → Int32 → Hp → Prop} {RET : Hp → Prop} (X : Cx w E cX12_target 10 RX12) (Tt : Rt w E none sh.length 0 0 (fun q sh9 h9 => q = none ∧ sh9 = sh ∧ RET h9)) (hR : gR E = { frames := 3, cells := 0, slots := 0, locals := 81 }) (hL39 : ∀ (x0 : Nat) (x1 : Int32) (x4 : Int32) (x5 : Int32) (h : Hp), L39 x0 x1 x4 x5 h → G w E 10 39 [(0, rv w.2.2.2 x0), (1, Value.int x1), (4, Value.int x4), (5, Value.int x5)] [] sh h 0 0) (hL150 : ∀ (x0 : Nat) (x1 : Int32) (x4 : Int32) (x5 : Int32) (x6 : Int32) (x7 : Int32) (x9 : Int32) (h : Hp), L150 x0 x1 x4 x5 x6 x7 x9 h → G w E 10 150 [(0, rv w.2.2.2 x0), (1, Value.int x1), (4, Value.int x4), (5, Value.int x5), (6, Value.int x6), (7, Value.int x7), (9, Value.int x9)] [] sh h 0 0) (hV : V_X12_target_150 w sh x0 x1 x4 x5 x6 x7 x9 h L39 L150 RET) : G w E 10 150 [(0, rv w.2.2.2 x0), (1, Value.int x1), (4, Value.int x4), (5, Value.int x5), (6, Value.int x6), (7, Value.int x7), (9, Value.int x9)] [] sh h 0 0 := by
  unfold V_X12_target_150 at hV
  refine g_iload (pc := 150) X 6 rfl dX12_target_150 ?_
  refine g_bipush (pc := 152) (v := (6 : Int32)) X dX12_target_152 (by decide) ?_
  refine g_icmp_ge (pc := 154) X 219 dX12_target_154 (by decide) (fun c1 => ?_) (fun c1 => ?_)
  · have hV := hV.1 c1
    refine g_lv [0, 1, 2, 3] rfl ?_
    exact W_X12_target_219 X Tt hR hL39 hL150 hV
  · have hV := hV.2 c1
    refine g_aload_n (pc := 157) X 0 rfl rfl dX12_target_157 ?_
    obtain ⟨q2, hV⟩ := hV
    refine g_getI (pc := 158) X fl_X12_141 q2 dX12_target_158 ?_
    refine g_if_ne (pc := 161) X 219 dX12_target_161 (by decide) (fun c3 => ?_) (fun c3 => ?_)
    · have hV := hV.1 c3
      refine g_lv [0, 1, 2, 3] rfl ?_
      exact W_X12_target_219 X Tt hR hL39 hL150 hV
    · have hV := hV.2 c3
      refine g_aload_n (pc := 164) X 0 rfl rfl dX12_target_164 ?_
      refine g_aload_n (pc := 165) X 0 rfl rfl dX12_target_165 ?_
      refine g_aload_n (pc := 166) X 0 rfl rfl dX12_target_166 ?_
      refine g_getI (pc := 167) X fl_X12_183 q2 dX12_target_167 ?_
      refine g_iload (pc := 170) X 5 rfl dX12_target_170 ?_
      refine g_iload (pc := 172) X 6 rfl dX12_target_172 ?_
      obtain ⟨P4, t5, hV⟩ := hV
      refine g_cVI (pc := 174) X (As := [Value.int (h.1 x0 18), Value.int x7, Value.int x9]) ml_X12_126 rfl q2 t5 (by rw [hR]; exact ⟨by decide, by decide, by decide, by decide⟩) rfl rfl (by simp [rv_cat, cat_int, cat_long]) dX12_target_174 (fun v8 h7 p6 => ?_)
      have hV := hV v8 h7 p6
      refine g_aload_n (pc := 177) X 0 rfl rfl dX12_target_177 ?_
      refine g_aload_n (pc := 178) X 0 rfl rfl dX12_target_178 ?_
      refine g_getI (pc := 179) X fl_X12_183 q2 dX12_target_179 ?_
      refine g_iload (pc := 182) X 5 rfl dX12_target_182 ?_
      refine g_iload (pc := 184) X 6 rfl dX12_target_184 ?_
      refine g_iconst (pc := 186) (v := (1 : Int32)) X dX12_target_186 (by decide) ?_
      refine g_iadd (pc := 187) X dX12_target_187 ?_
      obtain ⟨P9, t10, hV⟩ := hV
      refine g_cVI (pc := 188) X (As := [Value.int (h7.1 x0 18), Value.int x7, Value.int (x9 + (1 : Int32))]) ml_X12_126 rfl q2 t10 (by rw [hR]; exact ⟨by decide, by decide, by decide, by decide⟩) rfl rfl (by simp [rv_cat, cat_int, cat_long]) dX12_target_188 (fun v13 h12 p11 => ?_)
      have hV := hV v13 h12 p11
      refine g_aload_n (pc := 191) X 0 rfl rfl dX12_target_191 ?_
      refine g_aload_n (pc := 192) X 0 rfl rfl dX12_target_192 ?_
      refine g_getI (pc := 193) X fl_X12_183 q2 dX12_target_193 ?_
      refine g_iload (pc := 196) X 5 rfl dX12_target_196 ?_
      refine g_iload (pc := 198) X 6 rfl dX12_target_198 ?_
      refine g_iconst (pc := 200) (v := (2 : Int32)) X dX12_target_200 (by decide) ?_
      refine g_iadd (pc := 201) X dX12_target_201 ?_
      obtain ⟨P14, t15, hV⟩ := hV
      refine g_cVI (pc := 202) X (As := [Value.int (h12.1 x0 18), Value.int x7, Value.int (x9 + (2 : Int32))]) ml_X12_126 rfl q2 t15 (by rw [hR]; exact ⟨by decide, by decide, by decide, by decide⟩) rfl rfl (by simp [rv_cat, cat_int, cat_long]) dX12_target_202 (fun v18 h17 p16 => ?_)
      have hV := hV v18 h17 p16
      refine g_iload_n (pc := 205) X 1 rfl rfl dX12_target_205 ?_
      refine g_iload (pc := 206) X 4 rfl dX12_target_206 ?_
      refine g_iload (pc := 208) X 2 rfl dX12_target_208 ?_
      obtain ⟨P19, t20, hV⟩ := hV
      refine g_cVV (pc := 210) X (As := [Value.int v8, Value.int v13, Value.int v18, Value.int x1, Value.int x6, Value.int x4]) ml_X12_251 rfl q2 t20 (by rw [hR]; exact ⟨by decide, by decide, by decide, by decide⟩) rfl rfl (Nat.zero_le _) dX12_target_210 (fun h22 p21 => ?_)
      have hV := hV h22 p21
      refine g_iinc (pc := 213) X 6 (v := (3 : Int32)) (rest := [(0, rv w.2.2.2 x0), (1, Value.int x1), (4, Value.int x4), (5, Value.int x5), (6, Value.int x6), (7, Value.int x7)]) rfl (by decide) rfl (by decide) dX12_target_213 (fun y23 e24 => ?_)
      have hV := hV y23 e24
      refine g_goto (pc := 216) X 150 dX12_target_216 (by decide) ?_
      refine g_lv [1, 2, 3, 4, 5, 6, 0] rfl ?_
      exact hL150 x0 x1 x4 x5 x6 x7 y23 h22 hV
def V_X12_target_145 (w : Wd) (sh : List Sh) (x0 : Nat) (x1 : Int32) (x4 : Int32) (x5 : Int32) (x6 : Int32) (x7 : Int32) (s0 : Int32) (s1 : Int32) (s2 : Int32) (s3 : Nat) (h : Hp) (L39 : Nat → Int32 → Int32 → Int32 → Hp → Prop) (L150 : Nat → Int32 → Int32 → Int32 → Int32 → Int32 → Int32 → Hp → Prop) (RET : Hp → Prop) : Prop :=
  ∃ n2 : Nat, shAt sh s3 = some (.inl (1, n2)) ∧ (vp_in s2 n2 ∧ (∀ h4 : Hp, h4 = wI h s3 s2.toNatClampNeg (s1 + s0) → (∀ y6 : Int32, y6 = (0 : Int32) → (L150 x0 x1 x4 x5 x6 x7 y6 h4))))
set_option maxRecDepth 20000 in
set_option maxHeartbeats 4000000 in
theorem W_X12_target_145 {w : Wd} {E : GE} {sh : List Sh} {x0 : Nat} {x1 : Int32} {x4 : Int32} {x5 : Int32} {x6 : Int32} {x7 : Int32} {s0 : Int32} {s1 : Int32} {s2 : Int32} {s3 : Nat} {h : Hp} {L39 : Nat → Int32 → Int32 → Int32 → Hp → Prop} {L150 : Nat → Int32 → Int32 → Int32 → Int32 → Int32 → Int32 → Hp → Prop} {RET : Hp → Prop} (X : Cx w E cX12_target 10 RX12) (Tt : Rt w E none sh.length 0 0 (fun q sh9 h9 => q = none ∧ sh9 = sh ∧ RET h9)) (hR : gR E = { frames := 3, cells := 0, slots := 0, locals := 81 }) (hL39 : ∀ (x0 : Nat) (x1 : Int32) (x4 : Int32) (x5 : Int32) (h : Hp), L39 x0 x1 x4 x5 h → G w E 10 39 [(0, rv w.2.2.2 x0), (1, Value.int x1), (4, Value.int x4), (5, Value.int x5)] [] sh h 0 0) (hL150 : ∀ (x0 : Nat) (x1 : Int32) (x4 : Int32) (x5 : Int32) (x6 : Int32) (x7 : Int32) (x9 : Int32) (h : Hp), L150 x0 x1 x4 x5 x6 x7 x9 h → G w E 10 150 [(0, rv w.2.2.2 x0), (1, Value.int x1), (4, Value.int x4), (5, Value.int x5), (6, Value.int x6), (7, Value.int x7), (9, Value.int x9)] [] sh h 0 0) (hV : V_X12_target_145 w sh x0 x1 x4 x5 x6 x7 s0 s1 s2 s3 h L39 L150 RET) : G w E 10 145 [(0, rv w.2.2.2 x0), (1, Value.int x1), (4, Value.int x4), (5, Value.int x5), (6, Value.int x6), (7, Value.int x7)] [Value.int s0, Value.int s1, Value.int s2, rv w.2.2.2 s3] sh h 0 0 := by
  unfold V_X12_target_145 at hV
  refine g_iadd (pc := 145) X dX12_target_145 ?_
  obtain ⟨n2, q1, hV⟩ := hV
  obtain ⟨q3, hV⟩ := hV
  refine g_iast (pc := 146) X q1 q3 dX12_target_146 (fun h4 e5 => ?_)
  have hV := hV h4 e5
  refine g_iconst (pc := 147) (v := (0 : Int32)) X dX12_target_147 (by decide) ?_
  refine g_istore (pc := 148) X (i := 9) (rest := [(0, rv w.2.2.2 x0), (1, Value.int x1), (4, Value.int x4), (5, Value.int x5), (6, Value.int x6), (7, Value.int x7)]) (by decide) rfl dX12_target_148 (fun y6 e7 => ?_)
  have hV := hV y6 e7
  refine g_lv [1, 2, 3, 4, 5, 6, 0] rfl ?_
  exact hL150 x0 x1 x4 x5 x6 x7 y6 h4 hV
def V_X12_target_144 (w : Wd) (sh : List Sh) (x0 : Nat) (x1 : Int32) (x4 : Int32) (x5 : Int32) (x6 : Int32) (x7 : Int32) (s0 : Int32) (s1 : Int32) (s2 : Nat) (h : Hp) (L39 : Nat → Int32 → Int32 → Int32 → Hp → Prop) (L150 : Nat → Int32 → Int32 → Int32 → Int32 → Int32 → Int32 → Hp → Prop) (RET : Hp → Prop) : Prop :=
  V_X12_target_145 w sh x0 x1 x4 x5 x6 x7 (0 : Int32) s0 s1 s2 h L39 L150 RET
set_option maxRecDepth 20000 in
set_option maxHeartbeats 4000000 in
theorem W_X12_target_144 {w : Wd} {E : GE} {sh : List Sh} {x0 : Nat} {x1 : Int32} {x4 : Int32} {x5 : Int32} {x6 : Int32} {x7 : Int32} {s0 : Int32} {s1 : Int32} {s2 : Nat} {h : Hp} {L39 : Nat → Int32 → Int32 → Int32 → Hp → Prop} {L150 : Nat → Int32 → Int32 → Int32 → Int32 → Int32 → Int32 → Hp → Prop} {RET : Hp → Prop} (X : Cx w E cX12_target 10 RX12) (Tt : Rt w E none sh.length 0 0 (fun q sh9 h9 => q = none ∧ sh9 = sh ∧ RET h9)) (hR : gR E = { frames := 3, cells := 0, slots := 0, locals := 81 }) (hL39 : ∀ (x0 : Nat) (x1 : Int32) (x4 : Int32) (x5 : Int32) (h : Hp), L39 x0 x1 x4 x5 h → G w E 10 39 [(0, rv w.2.2.2 x0), (1, Value.int x1), (4, Value.int x4), (5, Value.int x5)] [] sh h 0 0) (hL150 : ∀ (x0 : Nat) (x1 : Int32) (x4 : Int32) (x5 : Int32) (x6 : Int32) (x7 : Int32) (x9 : Int32) (h : Hp), L150 x0 x1 x4 x5 x6 x7 x9 h → G w E 10 150 [(0, rv w.2.2.2 x0), (1, Value.int x1), (4, Value.int x4), (5, Value.int x5), (6, Value.int x6), (7, Value.int x7), (9, Value.int x9)] [] sh h 0 0) (hV : V_X12_target_144 w sh x0 x1 x4 x5 x6 x7 s0 s1 s2 h L39 L150 RET) : G w E 10 144 [(0, rv w.2.2.2 x0), (1, Value.int x1), (4, Value.int x4), (5, Value.int x5), (6, Value.int x6), (7, Value.int x7)] [Value.int s0, Value.int s1, rv w.2.2.2 s2] sh h 0 0 := by
  unfold V_X12_target_144 at hV
  refine g_iconst (pc := 144) (v := (0 : Int32)) X dX12_target_144 (by decide) ?_
  exact W_X12_target_145 X Tt hR hL39 hL150 hV
def V_X12_target_119 (w : Wd) (sh : List Sh) (x0 : Nat) (x1 : Int32) (x4 : Int32) (x5 : Int32) (x6 : Int32) (x7 : Int32) (s0 : Int32) (h : Hp) (L39 : Nat → Int32 → Int32 → Int32 → Hp → Prop) (L150 : Nat → Int32 → Int32 → Int32 → Int32 → Int32 → Int32 → Hp → Prop) (RET : Hp → Prop) : Prop :=
  ∀ y1 : Int32, y1 = s0 → (shAt sh x0 = some (.inr 12) ∧ (∃ n5 : Nat, shAt sh (h.2.1 x0 30) = some (.inl (1, n5)) ∧ (vp_in (4 : Int32) n5 ∧ ((((h.1 x0 19) = 0) → (V_X12_target_144 w sh x0 x1 x4 x5 x6 x7 (h.1 (h.2.1 x0 30) (4 : Int32).toNatClampNeg) (4 : Int32) (h.2.1 x0 30) h L39 L150 RET)) ∧ ((¬ (h.1 x0 19) = 0) → (((y1 = 0) → (V_X12_target_144 w sh x0 x1 x4 x5 x6 x7 (h.1 (h.2.1 x0 30) (4 : Int32).toNatClampNeg) (4 : Int32) (h.2.1 x0 30) h L39 L150 RET)) ∧ ((¬ y1 = 0) → (V_X12_target_145 w sh x0 x1 x4 x5 x6 x7 (1 : Int32) (h.1 (h.2.1 x0 30) (4 : Int32).toNatClampNeg) (4 : Int32) (h.2.1 x0 30) h L39 L150 RET))))))))
set_option maxRecDepth 20000 in
set_option maxHeartbeats 4000000 in
theorem W_X12_target_119 {w : Wd} {E : GE} {sh : List Sh} {x0 : Nat} {x1 : Int32} {x4 : Int32} {x5 : Int32} {x6 : Int32} {x7 : Int32} {s0 : Int32} {h : Hp} {L39 : Nat → Int32 → Int32 → Int32 → Hp → Prop} {L150 : Nat → Int32 → Int32 → Int32 → Int32 → Int32 → Int32 → Hp → Prop} {RET : Hp → Prop} (X : Cx w E cX12_target 10 RX12) (Tt : Rt w E none sh.length 0 0 (fun q sh9 h9 => q = none ∧ sh9 = sh ∧ RET h9)) (hR : gR E = { frames := 3, cells := 0, slots := 0, locals := 81 }) (hL39 : ∀ (x0 : Nat) (x1 : Int32) (x4 : Int32) (x5 : Int32) (h : Hp), L39 x0 x1 x4 x5 h → G w E 10 39 [(0, rv w.2.2.2 x0), (1, Value.int x1), (4, Value.int x4), (5, Value.int x5)] [] sh h 0 0) (hL150 : ∀ (x0 : Nat) (x1 : Int32) (x4 : Int32) (x5 : Int32) (x6 : Int32) (x7 : Int32) (x9 : Int32) (h : Hp), L150 x0 x1 x4 x5 x6 x7 x9 h → G w E 10 150 [(0, rv w.2.2.2 x0), (1, Value.int x1), (4, Value.int x4), (5, Value.int x5), (6, Value.int x6), (7, Value.int x7), (9, Value.int x9)] [] sh h 0 0) (hV : V_X12_target_119 w sh x0 x1 x4 x5 x6 x7 s0 h L39 L150 RET) : G w E 10 119 [(0, rv w.2.2.2 x0), (1, Value.int x1), (4, Value.int x4), (5, Value.int x5), (6, Value.int x6), (7, Value.int x7)] [Value.int s0] sh h 0 0 := by
  unfold V_X12_target_119 at hV
  refine g_istore (pc := 119) X (i := 8) (rest := [(0, rv w.2.2.2 x0), (1, Value.int x1), (4, Value.int x4), (5, Value.int x5), (6, Value.int x6), (7, Value.int x7)]) (by decide) rfl dX12_target_119 (fun y1 e2 => ?_)
  have hV := hV y1 e2
  refine g_aload_n (pc := 121) X 1 rfl rfl dX12_target_121 ?_
  obtain ⟨q3, hV⟩ := hV
  refine g_getR (pc := 122) X fl_X12_61 q3 dX12_target_122 ?_
  refine g_iconst (pc := 125) (v := (4 : Int32)) X dX12_target_125 (by decide) ?_
  refine g_dup2_11 (pc := 126) X dX12_target_126 (rfl) (rv_cat _ _) ?_
  obtain ⟨n5, q4, hV⟩ := hV
  obtain ⟨q6, hV⟩ := hV
  refine g_iald (pc := 127) X q4 q6 dX12_target_127 ?_
  refine g_aload_n (pc := 128) X 1 rfl rfl dX12_target_128 ?_
  refine g_getI (pc := 129) X fl_X12_180 q3 dX12_target_129 ?_
  refine g_if_eq (pc := 132) X 144 dX12_target_132 (by decide) (fun c7 => ?_) (fun c7 => ?_)
  · have hV := hV.1 c7
    refine g_lv [1, 2, 3, 4, 5, 6] rfl ?_
    exact W_X12_target_144 X Tt hR hL39 hL150 hV
  · have hV := hV.2 c7
    refine g_iload (pc := 135) X 0 rfl dX12_target_135 ?_
    refine g_if_eq (pc := 137) X 144 dX12_target_137 (by decide) (fun c8 => ?_) (fun c8 => ?_)
    · have hV := hV.1 c8
      refine g_lv [1, 2, 3, 4, 5, 6] rfl ?_
      exact W_X12_target_144 X Tt hR hL39 hL150 hV
    · have hV := hV.2 c8
      refine g_iconst (pc := 140) (v := (1 : Int32)) X dX12_target_140 (by decide) ?_
      refine g_goto (pc := 141) X 145 dX12_target_141 (by decide) ?_
      refine g_lv [1, 2, 3, 4, 5, 6] rfl ?_
      exact W_X12_target_145 X Tt hR hL39 hL150 hV
def V_X12_target_118 (w : Wd) (sh : List Sh) (x0 : Nat) (x1 : Int32) (x4 : Int32) (x5 : Int32) (x6 : Int32) (x7 : Int32) (h : Hp) (L39 : Nat → Int32 → Int32 → Int32 → Hp → Prop) (L150 : Nat → Int32 → Int32 → Int32 → Int32 → Int32 → Int32 → Hp → Prop) (RET : Hp → Prop) : Prop :=
  V_X12_target_119 w sh x0 x1 x4 x5 x6 x7 (0 : Int32) h L39 L150 RET
set_option maxRecDepth 20000 in
set_option maxHeartbeats 4000000 in
theorem W_X12_target_118 {w : Wd} {E : GE} {sh : List Sh} {x0 : Nat} {x1 : Int32} {x4 : Int32} {x5 : Int32} {x6 : Int32} {x7 : Int32} {h : Hp} {L39 : Nat → Int32 → Int32 → Int32 → Hp → Prop} {L150 : Nat → Int32 → Int32 → Int32 → Int32 → Int32 → Int32 → Hp → Prop} {RET : Hp → Prop} (X : Cx w E cX12_target 10 RX12) (Tt : Rt w E none sh.length 0 0 (fun q sh9 h9 => q = none ∧ sh9 = sh ∧ RET h9)) (hR : gR E = { frames := 3, cells := 0, slots := 0, locals := 81 }) (hL39 : ∀ (x0 : Nat) (x1 : Int32) (x4 : Int32) (x5 : Int32) (h : Hp), L39 x0 x1 x4 x5 h → G w E 10 39 [(0, rv w.2.2.2 x0), (1, Value.int x1), (4, Value.int x4), (5, Value.int x5)] [] sh h 0 0) (hL150 : ∀ (x0 : Nat) (x1 : Int32) (x4 : Int32) (x5 : Int32) (x6 : Int32) (x7 : Int32) (x9 : Int32) (h : Hp), L150 x0 x1 x4 x5 x6 x7 x9 h → G w E 10 150 [(0, rv w.2.2.2 x0), (1, Value.int x1), (4, Value.int x4), (5, Value.int x5), (6, Value.int x6), (7, Value.int x7), (9, Value.int x9)] [] sh h 0 0) (hV : V_X12_target_118 w sh x0 x1 x4 x5 x6 x7 h L39 L150 RET) : G w E 10 118 [(0, rv w.2.2.2 x0), (1, Value.int x1), (4, Value.int x4), (5, Value.int x5), (6, Value.int x6), (7, Value.int x7)] [] sh h 0 0 := by
  unfold V_X12_target_118 at hV
  refine g_iconst (pc := 118) (v := (0 : Int32)) X dX12_target_118 (by decide) ?_
  exact W_X12_target_119 X Tt hR hL39 hL150 hV
def V_X12_target_39 (w : Wd) (sh : List Sh) (x0 : Nat) (x1 : Int32) (x4 : Int32) (x5 : Int32) (h : Hp) (L39 : Nat → Int32 → Int32 → Int32 → Hp → Prop) (L150 : Nat → Int32 → Int32 → Int32 → Int32 → Int32 → Int32 → Hp → Prop) (RET : Hp → Prop) : Prop :=
  shAt sh x0 = some (.inr 12) ∧ (((x4 ≤ (h.1 x0 14)) → (V_X12_target_222 w sh x0 x1 x4 x5 h L39 L150 RET)) ∧ ((¬ x4 ≤ (h.1 x0 14)) → (((¬ (h.1 x0 6) = 0) → (V_X12_target_222 w sh x0 x1 x4 x5 h L39 L150 RET)) ∧ (((h.1 x0 6) = 0) → (∀ y4 : Int32, y4 = (h.1 x0 14) → (∃ n7 : Nat, shAt sh (h.2.1 x0 13) = some (.inl (0, n7)) ∧ (vp_in (h.1 x0 14) n7 ∧ (∀ y9 : Int32, y9 = ((b8 (h.1 (h.2.1 x0 13) (h.1 x0 14).toNatClampNeg)) &&& (255 : Int32)) → (∀ h11 : Hp, h11 = wI h x0 14 ((h.1 x0 14) + (1 : Int32)) → (∃ P13 : Int32 → Hp → Prop, C_X12_entryOf w sh x0 (h11.1 x0 18) y9 (0 : Int32) h11 P13 ∧ (∀ (v17 : Int32) (h16 : Hp), P13 v17 h16 → (((v17 ≤ 0) → (V_X12_target_118 w sh x0 x1 x4 x5 y4 y9 h16 L39 L150 RET)) ∧ ((¬ v17 ≤ 0) → (∃ P19 : Int32 → Hp → Prop, C_X12_entryOf w sh x0 (h16.1 x0 18) y9 (3 : Int32) h16 P19 ∧ (∀ (v23 : Int32) (h22 : Hp), P19 v23 h22 → (((v23 ≤ 0) → (V_X12_target_118 w sh x0 x1 x4 x5 y4 y9 h22 L39 L150 RET)) ∧ ((¬ v23 ≤ 0) → (V_X12_target_119 w sh x0 x1 x4 x5 y4 y9 (1 : Int32) h22 L39 L150 RET))))))))))))))))))
set_option maxRecDepth 20000 in
set_option maxHeartbeats 4000000 in
theorem W_X12_target_39 {w : Wd} {E : GE} {sh : List Sh} {x0 : Nat} {x1 : Int32} {x4 : Int32} {x5 : Int32} {h : Hp} {L39 : Nat → Int32 → Int32 → Int32 → Hp → Prop} {L150 : Nat → Int32 → Int32 → Int32 → Int32 → Int32 → Int32 → Hp → Prop} {RET : Hp → Prop} (X : Cx w E cX12_target 10 RX12) (Tt : Rt w E none sh.length 0 0 (fun q sh9 h9 => q = none ∧ sh9 = sh ∧ RET h9)) (hR : gR E = { frames := 3, cells := 0, slots := 0, locals := 81 }) (hL39 : ∀ (x0 : Nat) (x1 : Int32) (x4 : Int32) (x5 : Int32) (h : Hp), L39 x0 x1 x4 x5 h → G w E 10 39 [(0, rv w.2.2.2 x0), (1, Value.int x1), (4, Value.int x4), (5, Value.int x5)] [] sh h 0 0) (hL150 : ∀ (x0 : Nat) (x1 : Int32) (x4 : Int32) (x5 : Int32) (x6 : Int32) (x7 : Int32) (x9 : Int32) (h : Hp), L150 x0 x1 x4 x5 x6 x7 x9 h → G w E 10 150 [(0, rv w.2.2.2 x0), (1, Value.int x1), (4, Value.int x4), (5, Value.int x5), (6, Value.int x6), (7, Value.int x7), (9, Value.int x9)] [] sh h 0 0) (hV : V_X12_target_39 w sh x0 x1 x4 x5 h L39 L150 RET) : G w E 10 39 [(0, rv w.2.2.2 x0), (1, Value.int x1), (4, Value.int x4), (5, Value.int x5)] [] sh h 0 0 := by
  unfold V_X12_target_39 at hV
  refine g_aload_n (pc := 39) X 0 rfl rfl dX12_target_39 ?_
  obtain ⟨q1, hV⟩ := hV
  refine g_getI (pc := 40) X fl_X12_150 q1 dX12_target_40 ?_
  refine g_iload (pc := 43) X 2 rfl dX12_target_43 ?_
  refine g_icmp_ge (pc := 45) X 222 dX12_target_45 (by decide) (fun c2 => ?_) (fun c2 => ?_)
  · have hV := hV.1 c2
    exact W_X12_target_222 X Tt hR hL39 hL150 hV
  · have hV := hV.2 c2
    refine g_aload_n (pc := 48) X 0 rfl rfl dX12_target_48 ?_
    refine g_getI (pc := 49) X fl_X12_141 q1 dX12_target_49 ?_
    refine g_if_ne (pc := 52) X 222 dX12_target_52 (by decide) (fun c3 => ?_) (fun c3 => ?_)
    · have hV := hV.1 c3
      exact W_X12_target_222 X Tt hR hL39 hL150 hV
    · have hV := hV.2 c3
      refine g_aload_n (pc := 55) X 0 rfl rfl dX12_target_55 ?_
      refine g_getI (pc := 56) X fl_X12_150 q1 dX12_target_56 ?_
      refine g_istore (pc := 59) X (i := 6) (rest := [(0, rv w.2.2.2 x0), (1, Value.int x1), (4, Value.int x4), (5, Value.int x5)]) (by decide) rfl dX12_target_59 (fun y4 e5 => ?_)
      have hV := hV y4 e5
      refine g_aload_n (pc := 61) X 1 rfl rfl dX12_target_61 ?_
      refine g_getR (pc := 62) X fl_X12_36 q1 dX12_target_62 ?_
      refine g_aload_n (pc := 65) X 1 rfl rfl dX12_target_65 ?_
      refine g_getI (pc := 66) X fl_X12_150 q1 dX12_target_66 ?_
      obtain ⟨n7, q6, hV⟩ := hV
      obtain ⟨q8, hV⟩ := hV
      refine g_bald (pc := 69) X q6 q8 dX12_target_69 ?_
      refine g_sipush (pc := 70) (v := (255 : Int32)) X dX12_target_70 (by decide) ?_
      refine g_iand (pc := 73) X dX12_target_73 ?_
      refine g_istore (pc := 74) X (i := 7) (rest := [(6, Value.int y4), (0, rv w.2.2.2 x0), (1, Value.int x1), (4, Value.int x4), (5, Value.int x5)]) (by decide) rfl dX12_target_74 (fun y9 e10 => ?_)
      have hV := hV y9 e10
      refine g_aload_n (pc := 76) X 2 rfl rfl dX12_target_76 ?_
      refine g_dup (pc := 77) X dX12_target_77 (rv_cat _ _) ?_
      refine g_getI (pc := 78) X fl_X12_150 q1 dX12_target_78 ?_
      refine g_iconst (pc := 81) (v := (1 : Int32)) X dX12_target_81 (by decide) ?_
      refine g_iadd (pc := 82) X dX12_target_82 ?_
      refine g_putI (pc := 83) X fl_X12_150 q1 rfl rfl dX12_target_83 (fun h11 e12 => ?_)
      have hV := hV h11 e12
      refine g_aload_n (pc := 86) X 2 rfl rfl dX12_target_86 ?_
      refine g_aload_n (pc := 87) X 2 rfl rfl dX12_target_87 ?_
      refine g_getI (pc := 88) X fl_X12_183 q1 dX12_target_88 ?_
      refine g_iload (pc := 91) X 0 rfl dX12_target_91 ?_
      refine g_iconst (pc := 93) (v := (0 : Int32)) X dX12_target_93 (by decide) ?_
      obtain ⟨P13, t14, hV⟩ := hV
      refine g_cVI (pc := 94) X (As := [Value.int (h11.1 x0 18), Value.int y9, Value.int (0 : Int32)]) ml_X12_126 rfl q1 t14 (by rw [hR]; exact ⟨by decide, by decide, by decide, by decide⟩) rfl rfl (Nat.zero_le _) dX12_target_94 (fun v17 h16 p15 => ?_)
      have hV := hV v17 h16 p15
      refine g_if_le (pc := 97) X 118 dX12_target_97 (by decide) (fun c18 => ?_) (fun c18 => ?_)
      · have hV := hV.1 c18
        refine g_lv [2, 3, 4, 5, 1, 0] rfl ?_
        exact W_X12_target_118 X Tt hR hL39 hL150 hV
      · have hV := hV.2 c18
        refine g_aload_n (pc := 100) X 2 rfl rfl dX12_target_100 ?_
        refine g_aload_n (pc := 101) X 2 rfl rfl dX12_target_101 ?_
        refine g_getI (pc := 102) X fl_X12_183 q1 dX12_target_102 ?_
        refine g_iload (pc := 105) X 0 rfl dX12_target_105 ?_
        refine g_iconst (pc := 107) (v := (3 : Int32)) X dX12_target_107 (by decide) ?_
        obtain ⟨P19, t20, hV⟩ := hV
        refine g_cVI (pc := 108) X (As := [Value.int (h16.1 x0 18), Value.int y9, Value.int (3 : Int32)]) ml_X12_126 rfl q1 t20 (by rw [hR]; exact ⟨by decide, by decide, by decide, by decide⟩) rfl rfl (Nat.zero_le _) dX12_target_108 (fun v23 h22 p21 => ?_)
        have hV := hV v23 h22 p21
        refine g_if_le (pc := 111) X 118 dX12_target_111 (by decide) (fun c24 => ?_) (fun c24 => ?_)
        · have hV := hV.1 c24
          refine g_lv [2, 3, 4, 5, 1, 0] rfl ?_
          exact W_X12_target_118 X Tt hR hL39 hL150 hV
        · have hV := hV.2 c24
          refine g_iconst (pc := 114) (v := (1 : Int32)) X dX12_target_114 (by decide) ?_
          refine g_goto (pc := 115) X 119 dX12_target_115 (by decide) ?_
          refine g_lv [2, 3, 4, 5, 1, 0] rfl ?_
          exact W_X12_target_119 X Tt hR hL39 hL150 hV
def V_X12_target_0 (w : Wd) (sh : List Sh) (x0 : Nat) (x1 : Int32) (x2 : Int32) (x3 : Int32) (x4 : Int32) (x5 : Int32) (h : Hp) (L39 : Nat → Int32 → Int32 → Int32 → Hp → Prop) (L150 : Nat → Int32 → Int32 → Int32 → Int32 → Int32 → Int32 → Hp → Prop) (RET : Hp → Prop) : Prop :=
  shAt sh x0 = some (.inr 12) ∧ (∃ P2 : Hp → Prop, C_X12_noCaches w sh x0 h P2 ∧ (∀ h5 : Hp, P2 h5 → (∀ h6 : Hp, h6 = wI h5 x0 26 (h5.1 x0 25) → (∀ h8 : Hp, h8 = wI h6 x0 38 x2 → (∀ h10 : Hp, h10 = wI h8 x0 39 x3 → (∀ h12 : Hp, h12 = wI h10 x0 40 x4 → (∀ h14 : Hp, h14 = wI h12 x0 41 x5 → (∀ h16 : Hp, h16 = wI h14 x0 14 x3 → (L39 x0 x1 x4 x5 h16)))))))))
set_option maxRecDepth 20000 in
set_option maxHeartbeats 4000000 in
theorem W_X12_target_0 {w : Wd} {E : GE} {sh : List Sh} {x0 : Nat} {x1 : Int32} {x2 : Int32} {x3 : Int32} {x4 : Int32} {x5 : Int32} {h : Hp} {L39 : Nat → Int32 → Int32 → Int32 → Hp → Prop} {L150 : Nat → Int32 → Int32 → Int32 → Int32 → Int32 → Int32 → Hp → Prop} {RET : Hp → Prop} (X : Cx w E cX12_target 10 RX12) (Tt : Rt w E none sh.length 0 0 (fun q sh9 h9 => q = none ∧ sh9 = sh ∧ RET h9)) (hR : gR E = { frames := 3, cells := 0, slots := 0, locals := 81 }) (hL39 : ∀ (x0 : Nat) (x1 : Int32) (x4 : Int32) (x5 : Int32) (h : Hp), L39 x0 x1 x4 x5 h → G w E 10 39 [(0, rv w.2.2.2 x0), (1, Value.int x1), (4, Value.int x4), (5, Value.int x5)] [] sh h 0 0) (hL150 : ∀ (x0 : Nat) (x1 : Int32) (x4 : Int32) (x5 : Int32) (x6 : Int32) (x7 : Int32) (x9 : Int32) (h : Hp), L150 x0 x1 x4 x5 x6 x7 x9 h → G w E 10 150 [(0, rv w.2.2.2 x0), (1, Value.int x1), (4, Value.int x4), (5, Value.int x5), (6, Value.int x6), (7, Value.int x7), (9, Value.int x9)] [] sh h 0 0) (hV : V_X12_target_0 w sh x0 x1 x2 x3 x4 x5 h L39 L150 RET) : G w E 10 0 [(0, rv w.2.2.2 x0), (1, Value.int x1), (2, Value.int x2), (3, Value.int x3), (4, Value.int x4), (5, Value.int x5)] [] sh h 0 0 := by
  unfold V_X12_target_0 at hV
  refine g_aload_n (pc := 0) X 0 rfl rfl dX12_target_0 ?_
  obtain ⟨q1, hV⟩ := hV
  obtain ⟨P2, t3, hV⟩ := hV
  refine g_cVV (pc := 1) X (As := []) ml_X12_189 rfl q1 t3 (by rw [hR]; exact ⟨by decide, by decide, by decide, by decide⟩) rfl rfl (Nat.zero_le _) dX12_target_1 (fun h5 p4 => ?_)
  have hV := hV h5 p4
  refine g_aload_n (pc := 4) X 0 rfl rfl dX12_target_4 ?_
  refine g_aload_n (pc := 5) X 0 rfl rfl dX12_target_5 ?_
  refine g_getI (pc := 6) X fl_X12_219 q1 dX12_target_6 ?_
  refine g_putI (pc := 9) X fl_X12_236 q1 rfl rfl dX12_target_9 (fun h6 e7 => ?_)
  have hV := hV h6 e7
  refine g_aload_n (pc := 12) X 0 rfl rfl dX12_target_12 ?_
  refine g_iload_n (pc := 13) X 2 rfl rfl dX12_target_13 ?_
  refine g_putI (pc := 14) X fl_X12_239 q1 rfl rfl dX12_target_14 (fun h8 e9 => ?_)
  have hV := hV h8 e9
  refine g_aload_n (pc := 17) X 0 rfl rfl dX12_target_17 ?_
  refine g_iload_n (pc := 18) X 3 rfl rfl dX12_target_18 ?_
  refine g_putI (pc := 19) X fl_X12_242 q1 rfl rfl dX12_target_19 (fun h10 e11 => ?_)
  have hV := hV h10 e11
  refine g_aload_n (pc := 22) X 0 rfl rfl dX12_target_22 ?_
  refine g_iload (pc := 23) X 4 rfl dX12_target_23 ?_
  refine g_putI (pc := 25) X fl_X12_245 q1 rfl rfl dX12_target_25 (fun h12 e13 => ?_)
  have hV := hV h12 e13
  refine g_aload_n (pc := 28) X 0 rfl rfl dX12_target_28 ?_
  refine g_iload (pc := 29) X 5 rfl dX12_target_29 ?_
  refine g_putI (pc := 31) X fl_X12_248 q1 rfl rfl dX12_target_31 (fun h14 e15 => ?_)
  have hV := hV h14 e15
  refine g_aload_n (pc := 34) X 0 rfl rfl dX12_target_34 ?_
  refine g_iload_n (pc := 35) X 3 rfl rfl dX12_target_35 ?_
  refine g_putI (pc := 36) X fl_X12_150 q1 rfl rfl dX12_target_36 (fun h16 e17 => ?_)
  have hV := hV h16 e17
  refine g_lv [0, 1, 4, 5] rfl ?_
  exact hL39 x0 x1 x4 x5 h16 hV
def C_X12_target (w : Wd) (sh : List Sh) (x0 : Nat) (x1 : Int32) (x2 : Int32) (x3 : Int32) (x4 : Int32) (x5 : Int32) (h : Hp) (RET : Hp → Prop) : Prop := CV w yX12_target (.code yX12_target cX12_target 10 none) 3 81 [rv w.2.2.2 x0, Value.int x1, Value.int x2, Value.int x3, Value.int x4, Value.int x5] sh h RET
set_option maxRecDepth 20000 in
theorem K_X12_target {w : Wd} {sh : List Sh} {x0 : Nat} {x1 : Int32} {x2 : Int32} {x3 : Int32} {x4 : Int32} {x5 : Int32} {h : Hp} {RET : Hp → Prop} {α : Type} {r : α → α → Prop} (wf : WellFounded r) (I39 : α → Nat → Int32 → Int32 → Int32 → Hp → Prop) (I150 : α → Nat → Int32 → Int32 → Int32 → Int32 → Int32 → Int32 → Hp → Prop) (hE : V_X12_target_0 w sh x0 x1 x2 x3 x4 x5 h (fun x0 x1 x4 x5 h => ∃ a, I39 a x0 x1 x4 x5 h) (fun x0 x1 x4 x5 x6 x7 x9 h => ∃ a, I150 a x0 x1 x4 x5 x6 x7 x9 h) RET) (h39 : ∀ (b : α) (x0 : Nat) (x1 : Int32) (x4 : Int32) (x5 : Int32) (h : Hp), I39 b x0 x1 x4 x5 h → V_X12_target_39 w sh x0 x1 x4 x5 h (fun x0 x1 x4 x5 h => ∃ a, r a b ∧ I39 a x0 x1 x4 x5 h) (fun x0 x1 x4 x5 x6 x7 x9 h => ∃ a, r a b ∧ I150 a x0 x1 x4 x5 x6 x7 x9 h) RET) (h150 : ∀ (b : α) (x0 : Nat) (x1 : Int32) (x4 : Int32) (x5 : Int32) (x6 : Int32) (x7 : Int32) (x9 : Int32) (h : Hp), I150 b x0 x1 x4 x5 x6 x7 x9 h → V_X12_target_150 w sh x0 x1 x4 x5 x6 x7 x9 h (fun x0 x1 x4 x5 h => ∃ a, r a b ∧ I39 a x0 x1 x4 x5 h) (fun x0 x1 x4 x5 x6 x7 x9 h => ∃ a, r a b ∧ I150 a x0 x1 x4 x5 x6 x7 x9 h) RET) : C_X12_target w sh x0 x1 x2 x3 x4 x5 h RET :=
  Ct_of (by decide +kernel) (by simp [lg_sl, rv_cat, cat_int, cat_long]) (fun E X Tt hR _ => by
    have key : ∀ a : α, (∀ (x0 : Nat) (x1 : Int32) (x4 : Int32) (x5 : Int32) (h : Hp), I39 a x0 x1 x4 x5 h → G w E 10 39 [(0, rv w.2.2.2 x0), (1, Value.int x1), (4, Value.int x4), (5, Value.int x5)] [] sh h 0 0) ∧ (∀ (x0 : Nat) (x1 : Int32) (x4 : Int32) (x5 : Int32) (x6 : Int32) (x7 : Int32) (x9 : Int32) (h : Hp), I150 a x0 x1 x4 x5 x6 x7 x9 h → G w E 10 150 [(0, rv w.2.2.2 x0), (1, Value.int x1), (4, Value.int x4), (5, Value.int x5), (6, Value.int x6), (7, Value.int x7), (9, Value.int x9)] [] sh h 0 0) := by
      intro a
      induction a using wf.induction with
      | _ a ih =>
        exact ⟨(fun x0 x1 x4 x5 h hi => W_X12_target_39 X Tt hR (fun x0 x1 x4 x5 h hx => by obtain ⟨a2, ha, hi⟩ := hx; exact ((ih a2 ha)).1 x0 x1 x4 x5 h hi) (fun x0 x1 x4 x5 x6 x7 x9 h hx => by obtain ⟨a2, ha, hi⟩ := hx; exact ((ih a2 ha)).2 x0 x1 x4 x5 x6 x7 x9 h hi) (h39 a x0 x1 x4 x5 h hi)), (fun x0 x1 x4 x5 x6 x7 x9 h hi => W_X12_target_150 X Tt hR (fun x0 x1 x4 x5 h hx => by obtain ⟨a2, ha, hi⟩ := hx; exact ((ih a2 ha)).1 x0 x1 x4 x5 h hi) (fun x0 x1 x4 x5 x6 x7 x9 h hx => by obtain ⟨a2, ha, hi⟩ := hx; exact ((ih a2 ha)).2 x0 x1 x4 x5 x6 x7 x9 h hi) (h150 a x0 x1 x4 x5 x6 x7 x9 h hi))⟩
    rw [show lv_args 0 [rv w.2.2.2 x0, Value.int x1, Value.int x2, Value.int x3, Value.int x4, Value.int x5] = [(0, rv w.2.2.2 x0), (1, Value.int x1), (2, Value.int x2), (3, Value.int x3), (4, Value.int x4), (5, Value.int x5)] from by simp [lv_args, rv_cat, cat_int, cat_long]]
    refine g_lv [0, 1, 2, 3, 4, 5] rfl ?_
    exact W_X12_target_0 X Tt hR (fun x0 x1 x4 x5 h hx => by obtain ⟨a2, hi⟩ := hx; exact ((key a2)).1 x0 x1 x4 x5 h hi) (fun x0 x1 x4 x5 x6 x7 x9 h hx => by obtain ⟨a2, hi⟩ := hx; exact ((key a2)).2 x0 x1 x4 x5 x6 x7 x9 h hi) hE)
def V_X12_adler_8 (w : Wd) (sh : List Sh) (x0 : Nat) (x1 : Int32) (x2 : Int32) (x3 : Int64) (x5 : Int64) (x7 : Int32) (h : Hp) (L8 : Nat → Int32 → Int32 → Int64 → Int64 → Int32 → Hp → Prop) (RET : Int64 → Hp → Prop) : Prop :=
  ((x2 ≤ x7) → (RET (((65536 : Int64) * x5) + x3) h)) ∧ ((¬ x2 ≤ x7) → (∃ n3 : Nat, shAt sh x0 = some (.inl (0, n3)) ∧ (vp_in (x1 + x7) n3 ∧ (∀ y5 : Int64, y5 = ((x3 + (((b8 (h.1 x0 (x1 + x7).toNatClampNeg)) &&& (255 : Int32)).toInt64)) - (x3 + (((b8 (h.1 x0 (x1 + x7).toNatClampNeg)) &&& (255 : Int32)).toInt64)) / (65521 : Int64) * (65521 : Int64)) → (∀ y7 : Int64, y7 = ((x5 + y5) - (x5 + y5) / (65521 : Int64) * (65521 : Int64)) → (∀ y9 : Int32, y9 = x7 + (1 : Int32) → (L8 x0 x1 x2 y5 y7 y9 h)))))))
set_option maxRecDepth 20000 in
set_option maxHeartbeats 4000000 in
theorem W_X12_adler_8 {w : Wd} {E : GE} {sh : List Sh} {x0 : Nat} {x1 : Int32} {x2 : Int32} {x3 : Int64} {x5 : Int64} {x7 : Int32} {h : Hp} {L8 : Nat → Int32 → Int32 → Int64 → Int64 → Int32 → Hp → Prop} {RET : Int64 → Hp → Prop} (X : Cx w E cX12_adler 8 RX12) (Tt : Rt w E (some .long) sh.length 0 0 (fun q sh9 h9 => ∃ v : Int64, q = some (Value.long v) ∧ sh9 = sh ∧ RET v h9)) (hR : gR E = { frames := 0, cells := 0, slots := 0, locals := 0 }) (hL8 : ∀ (x0 : Nat) (x1 : Int32) (x2 : Int32) (x3 : Int64) (x5 : Int64) (x7 : Int32) (h : Hp), L8 x0 x1 x2 x3 x5 x7 h → G w E 8 8 [(0, rv w.2.2.2 x0), (1, Value.int x1), (2, Value.int x2), (3, Value.long x3), (5, Value.long x5), (7, Value.int x7)] [] sh h 0 0) (hV : V_X12_adler_8 w sh x0 x1 x2 x3 x5 x7 h L8 RET) : G w E 8 8 [(0, rv w.2.2.2 x0), (1, Value.int x1), (2, Value.int x2), (3, Value.long x3), (5, Value.long x5), (7, Value.int x7)] [] sh h 0 0 := by
  unfold V_X12_adler_8 at hV
  refine g_iload (pc := 8) X 5 rfl dX12_adler_8 ?_
  refine g_iload_n (pc := 10) X 2 rfl rfl dX12_adler_10 ?_
  refine g_icmp_ge (pc := 11) X 48 dX12_adler_11 (by decide) (fun c1 => ?_) (fun c1 => ?_)
  · have hV := hV.1 c1
    refine g_ldc2 (pc := 48) X kc_X12_234 dX12_adler_48 ?_
    refine g_lload (pc := 51) X 4 rfl dX12_adler_51 ?_
    refine g_lmul (pc := 53) X dX12_adler_53 ?_
    refine g_lload_n (pc := 54) X 3 rfl rfl dX12_adler_54 ?_
    refine g_ladd (pc := 55) X dX12_adler_55 ?_
    exact g_lret (pc := 56) X Tt ⟨_, rfl, rfl, hV⟩ dX12_adler_56
  · have hV := hV.2 c1
    refine g_lload_n (pc := 14) X 3 rfl rfl dX12_adler_14 ?_
    refine g_aload_n (pc := 15) X 0 rfl rfl dX12_adler_15 ?_
    refine g_iload_n (pc := 16) X 1 rfl rfl dX12_adler_16 ?_
    refine g_iload (pc := 17) X 5 rfl dX12_adler_17 ?_
    refine g_iadd (pc := 19) X dX12_adler_19 ?_
    obtain ⟨n3, q2, hV⟩ := hV
    obtain ⟨q4, hV⟩ := hV
    refine g_bald (pc := 20) X q2 q4 dX12_adler_20 ?_
    refine g_sipush (pc := 21) (v := (255 : Int32)) X dX12_adler_21 (by decide) ?_
    refine g_iand (pc := 24) X dX12_adler_24 ?_
    refine g_i2l (pc := 25) X dX12_adler_25 ?_
    refine g_ladd (pc := 26) X dX12_adler_26 ?_
    refine g_ldc2 (pc := 27) X kc_X12_232 dX12_adler_27 ?_
    refine g_lrem (pc := 30) X dX12_adler_30 (by decide) ?_
    refine g_lstore_n (pc := 31) X (i := 3) (rest := [(0, rv w.2.2.2 x0), (1, Value.int x1), (2, Value.int x2), (5, Value.long x5), (7, Value.int x7)]) rfl (by decide) rfl dX12_adler_31 (fun y5 e6 => ?_)
    have hV := hV y5 e6
    refine g_lload (pc := 32) X 4 rfl dX12_adler_32 ?_
    refine g_lload_n (pc := 34) X 0 rfl rfl dX12_adler_34 ?_
    refine g_ladd (pc := 35) X dX12_adler_35 ?_
    refine g_ldc2 (pc := 36) X kc_X12_232 dX12_adler_36 ?_
    refine g_lrem (pc := 39) X dX12_adler_39 (by decide) ?_
    refine g_lstore (pc := 40) X (i := 5) (rest := [(3, Value.long y5), (0, rv w.2.2.2 x0), (1, Value.int x1), (2, Value.int x2), (7, Value.int x7)]) (by decide) rfl dX12_adler_40 (fun y7 e8 => ?_)
    have hV := hV y7 e8
    refine g_iinc (pc := 42) X 5 (v := (1 : Int32)) (rest := [(5, Value.long y7), (3, Value.long y5), (0, rv w.2.2.2 x0), (1, Value.int x1), (2, Value.int x2)]) rfl (by decide) rfl (by decide) dX12_adler_42 (fun y9 e10 => ?_)
    have hV := hV y9 e10
    refine g_goto (pc := 45) X 8 dX12_adler_45 (by decide) ?_
    refine g_lv [3, 4, 5, 2, 1, 0] rfl ?_
    exact hL8 x0 x1 x2 y5 y7 y9 h hV
def V_X12_adler_0 (w : Wd) (sh : List Sh) (x0 : Nat) (x1 : Int32) (x2 : Int32) (h : Hp) (L8 : Nat → Int32 → Int32 → Int64 → Int64 → Int32 → Hp → Prop) (RET : Int64 → Hp → Prop) : Prop :=
  ∀ y1 : Int64, y1 = (1 : Int64) → (∀ y3 : Int64, y3 = (0 : Int64) → (∀ y5 : Int32, y5 = (0 : Int32) → (L8 x0 x1 x2 y1 y3 y5 h)))
set_option maxRecDepth 20000 in
set_option maxHeartbeats 4000000 in
theorem W_X12_adler_0 {w : Wd} {E : GE} {sh : List Sh} {x0 : Nat} {x1 : Int32} {x2 : Int32} {h : Hp} {L8 : Nat → Int32 → Int32 → Int64 → Int64 → Int32 → Hp → Prop} {RET : Int64 → Hp → Prop} (X : Cx w E cX12_adler 8 RX12) (Tt : Rt w E (some .long) sh.length 0 0 (fun q sh9 h9 => ∃ v : Int64, q = some (Value.long v) ∧ sh9 = sh ∧ RET v h9)) (hR : gR E = { frames := 0, cells := 0, slots := 0, locals := 0 }) (hL8 : ∀ (x0 : Nat) (x1 : Int32) (x2 : Int32) (x3 : Int64) (x5 : Int64) (x7 : Int32) (h : Hp), L8 x0 x1 x2 x3 x5 x7 h → G w E 8 8 [(0, rv w.2.2.2 x0), (1, Value.int x1), (2, Value.int x2), (3, Value.long x3), (5, Value.long x5), (7, Value.int x7)] [] sh h 0 0) (hV : V_X12_adler_0 w sh x0 x1 x2 h L8 RET) : G w E 8 0 [(0, rv w.2.2.2 x0), (1, Value.int x1), (2, Value.int x2)] [] sh h 0 0 := by
  unfold V_X12_adler_0 at hV
  refine g_lconst (pc := 0) (v := (1 : Int64)) X dX12_adler_0 (by decide) ?_
  refine g_lstore_n (pc := 1) X (i := 3) (rest := [(0, rv w.2.2.2 x0), (1, Value.int x1), (2, Value.int x2)]) rfl (by decide) rfl dX12_adler_1 (fun y1 e2 => ?_)
  have hV := hV y1 e2
  refine g_lconst (pc := 2) (v := (0 : Int64)) X dX12_adler_2 (by decide) ?_
  refine g_lstore (pc := 3) X (i := 5) (rest := [(3, Value.long y1), (0, rv w.2.2.2 x0), (1, Value.int x1), (2, Value.int x2)]) (by decide) rfl dX12_adler_3 (fun y3 e4 => ?_)
  have hV := hV y3 e4
  refine g_iconst (pc := 5) (v := (0 : Int32)) X dX12_adler_5 (by decide) ?_
  refine g_istore (pc := 6) X (i := 7) (rest := [(5, Value.long y3), (3, Value.long y1), (0, rv w.2.2.2 x0), (1, Value.int x1), (2, Value.int x2)]) (by decide) rfl dX12_adler_6 (fun y5 e6 => ?_)
  have hV := hV y5 e6
  refine g_lv [3, 4, 5, 2, 1, 0] rfl ?_
  exact hL8 x0 x1 x2 y1 y3 y5 h hV
def C_X12_adler (w : Wd) (sh : List Sh) (x0 : Nat) (x1 : Int32) (x2 : Int32) (h : Hp) (RET : Int64 → Hp → Prop) : Prop := CJ w yX12_adler (.code yX12_adler cX12_adler 8 (some .long)) 0 0 [rv w.2.2.2 x0, Value.int x1, Value.int x2] sh h RET
set_option maxRecDepth 20000 in
theorem K_X12_adler {w : Wd} {sh : List Sh} {x0 : Nat} {x1 : Int32} {x2 : Int32} {h : Hp} {RET : Int64 → Hp → Prop} {α : Type} {r : α → α → Prop} (wf : WellFounded r) (I8 : α → Nat → Int32 → Int32 → Int64 → Int64 → Int32 → Hp → Prop) (hE : V_X12_adler_0 w sh x0 x1 x2 h (fun x0 x1 x2 x3 x5 x7 h => ∃ a, I8 a x0 x1 x2 x3 x5 x7 h) RET) (h8 : ∀ (b : α) (x0 : Nat) (x1 : Int32) (x2 : Int32) (x3 : Int64) (x5 : Int64) (x7 : Int32) (h : Hp), I8 b x0 x1 x2 x3 x5 x7 h → V_X12_adler_8 w sh x0 x1 x2 x3 x5 x7 h (fun x0 x1 x2 x3 x5 x7 h => ∃ a, r a b ∧ I8 a x0 x1 x2 x3 x5 x7 h) RET) : C_X12_adler w sh x0 x1 x2 h RET :=
  Ct_of (by decide +kernel) (by simp [lg_sl, rv_cat, cat_int, cat_long]) (fun E X Tt hR _ => by
    have key : ∀ a : α, (∀ (x0 : Nat) (x1 : Int32) (x2 : Int32) (x3 : Int64) (x5 : Int64) (x7 : Int32) (h : Hp), I8 a x0 x1 x2 x3 x5 x7 h → G w E 8 8 [(0, rv w.2.2.2 x0), (1, Value.int x1), (2, Value.int x2), (3, Value.long x3), (5, Value.long x5), (7, Value.int x7)] [] sh h 0 0) := by
      intro a
      induction a using wf.induction with
      | _ a ih =>
        exact (fun x0 x1 x2 x3 x5 x7 h hi => W_X12_adler_8 X Tt hR (fun x0 x1 x2 x3 x5 x7 h hx => by obtain ⟨a2, ha, hi⟩ := hx; exact (ih a2 ha) x0 x1 x2 x3 x5 x7 h hi) (h8 a x0 x1 x2 x3 x5 x7 h hi))
    rw [show lv_args 0 [rv w.2.2.2 x0, Value.int x1, Value.int x2] = [(0, rv w.2.2.2 x0), (1, Value.int x1), (2, Value.int x2)] from by simp [lv_args, rv_cat, cat_int, cat_long]]
    refine g_lv [0, 1, 2] rfl ?_
    exact W_X12_adler_0 X Tt hR (fun x0 x1 x2 x3 x5 x7 h hx => by obtain ⟨a2, hi⟩ := hx; exact (key a2) x0 x1 x2 x3 x5 x7 h hi) hE)
def V_X12_window_27 (w : Wd) (sh : List Sh) (x0 : Nat) (h : Hp) (L149 : Nat → Int32 → Int64 → Int32 → Hp → Prop) (L362 : Nat → Int32 → Int64 → Int32 → Int64 → Int64 → Int64 → Int64 → Int32 → Int32 → Int64 → Int32 → Hp → Prop) (L547 : Nat → Int64 → Int32 → Hp → Prop) (RET : Hp → Prop) : Prop :=
  shAt sh x0 = some (.inr 12) ∧ (∃ P2 : Int32 → Hp → Prop, C_X12_fails w sh x0 (6 : Int32) (h.1 x0 14) h P2 ∧ (∀ (v6 : Int32) (h5 : Hp), P2 v6 h5 → (RET h5)))
set_option maxRecDepth 20000 in
set_option maxHeartbeats 4000000 in
theorem W_X12_window_27 {w : Wd} {E : GE} {sh : List Sh} {x0 : Nat} {h : Hp} {L149 : Nat → Int32 → Int64 → Int32 → Hp → Prop} {L362 : Nat → Int32 → Int64 → Int32 → Int64 → Int64 → Int64 → Int64 → Int32 → Int32 → Int64 → Int32 → Hp → Prop} {L547 : Nat → Int64 → Int32 → Hp → Prop} {RET : Hp → Prop} (X : Cx w E cX12_window 20 RX12) (Tt : Rt w E none sh.length 0 0 (fun q sh9 h9 => q = none ∧ sh9 = sh ∧ RET h9)) (hR : gR E = { frames := 4, cells := 0, slots := 0, locals := 110 }) (hL149 : ∀ (x0 : Nat) (x1 : Int32) (x5 : Int64) (x7 : Int32) (h : Hp), L149 x0 x1 x5 x7 h → G w E 20 149 [(0, rv w.2.2.2 x0), (1, Value.int x1), (5, Value.long x5), (7, Value.int x7)] [] sh h 0 0) (hL362 : ∀ (x0 : Nat) (x2 : Int32) (x3 : Int64) (x5 : Int32) (x7 : Int64) (x9 : Int64) (x11 : Int64) (x13 : Int64) (x15 : Int32) (x16 : Int32) (x17 : Int64) (x19 : Int32) (h : Hp), L362 x0 x2 x3 x5 x7 x9 x11 x13 x15 x16 x17 x19 h → G w E 20 362 [(0, rv w.2.2.2 x0), (2, Value.int x2), (3, Value.long x3), (5, Value.int x5), (7, Value.long x7), (9, Value.long x9), (11, Value.long x11), (13, Value.long x13), (15, Value.int x15), (16, Value.int x16), (17, Value.long x17), (19, Value.int x19)] [] sh h 0 0) (hL547 : ∀ (x0 : Nat) (x7 : Int64) (x19 : Int32) (h : Hp), L547 x0 x7 x19 h → G w E 20 547 [(0, rv w.2.2.2 x0), (7, Value.long x7), (19, Value.int x19)] [] sh h 0 0) (hV : V_X12_window_27 w sh x0 h L149 L362 L547 RET) : G w E 20 27 [(0, rv w.2.2.2 x0)] [] sh h 0 0 := by
  unfold V_X12_window_27 at hV
  refine g_aload_n (pc := 27) X 0 rfl rfl dX12_window_27 ?_
  refine g_bipush (pc := 28) (v := (6 : Int32)) X dX12_window_28 (by decide) ?_
  refine g_aload_n (pc := 30) X 0 rfl rfl dX12_window_30 ?_
  obtain ⟨q1, hV⟩ := hV
  refine g_getI (pc := 31) X fl_X12_150 q1 dX12_window_31 ?_
  obtain ⟨P2, t3, hV⟩ := hV
  refine g_cVI (pc := 34) X (As := [Value.int (6 : Int32), Value.int (h.1 x0 14)]) ml_X12_153 rfl q1 t3 (by rw [hR]; exact ⟨by decide, by decide, by decide, by decide⟩) rfl rfl (Nat.zero_le _) dX12_window_34 (fun v6 h5 p4 => ?_)
  have hV := hV v6 h5 p4
  refine g_pop (pc := 37) X dX12_window_37 (rfl) ?_
  exact g_vret (pc := 38) X Tt ⟨rfl, rfl, hV⟩ dX12_window_38
def V_X12_window_547 (w : Wd) (sh : List Sh) (x0 : Nat) (x7 : Int64) (x19 : Int32) (h : Hp) (L149 : Nat → Int32 → Int64 → Int32 → Hp → Prop) (L362 : Nat → Int32 → Int64 → Int32 → Int64 → Int64 → Int64 → Int64 → Int32 → Int32 → Int64 → Int32 → Hp → Prop) (L547 : Nat → Int64 → Int32 → Hp → Prop) (RET : Hp → Prop) : Prop :=
  ((0 ≤ (lg_cmp (x19.toInt64) x7)) → (RET h)) ∧ ((¬ 0 ≤ (lg_cmp (x19.toInt64) x7)) → (shAt sh x0 = some (.inr 12) ∧ (((¬ (h.1 x0 6) = 0) → (RET h)) ∧ (((h.1 x0 6) = 0) → (∃ n5 : Nat, shAt sh (h.2.1 x0 24) = some (.inl (0, n5)) ∧ (vp_in ((h.1 x0 25) + x19) n5 ∧ (∃ n8 : Nat, shAt sh (h.2.1 x0 22) = some (.inl (0, n8)) ∧ (vp_in (h.1 x0 23) n8 ∧ (∀ h10 : Hp, h10 = wI h (h.2.1 x0 22) (h.1 x0 23).toNatClampNeg (b8 (h.1 (h.2.1 x0 24) ((h.1 x0 25) + x19).toNatClampNeg)) → (∀ h12 : Hp, h12 = wI h10 x0 23 ((h10.1 x0 23) + (1 : Int32)) → (∀ y14 : Int32, y14 = x19 + (1 : Int32) → (L547 x0 x7 y14 h12))))))))))))
set_option maxRecDepth 20000 in
set_option maxHeartbeats 4000000 in
theorem W_X12_window_547 {w : Wd} {E : GE} {sh : List Sh} {x0 : Nat} {x7 : Int64} {x19 : Int32} {h : Hp} {L149 : Nat → Int32 → Int64 → Int32 → Hp → Prop} {L362 : Nat → Int32 → Int64 → Int32 → Int64 → Int64 → Int64 → Int64 → Int32 → Int32 → Int64 → Int32 → Hp → Prop} {L547 : Nat → Int64 → Int32 → Hp → Prop} {RET : Hp → Prop} (X : Cx w E cX12_window 20 RX12) (Tt : Rt w E none sh.length 0 0 (fun q sh9 h9 => q = none ∧ sh9 = sh ∧ RET h9)) (hR : gR E = { frames := 4, cells := 0, slots := 0, locals := 110 }) (hL149 : ∀ (x0 : Nat) (x1 : Int32) (x5 : Int64) (x7 : Int32) (h : Hp), L149 x0 x1 x5 x7 h → G w E 20 149 [(0, rv w.2.2.2 x0), (1, Value.int x1), (5, Value.long x5), (7, Value.int x7)] [] sh h 0 0) (hL362 : ∀ (x0 : Nat) (x2 : Int32) (x3 : Int64) (x5 : Int32) (x7 : Int64) (x9 : Int64) (x11 : Int64) (x13 : Int64) (x15 : Int32) (x16 : Int32) (x17 : Int64) (x19 : Int32) (h : Hp), L362 x0 x2 x3 x5 x7 x9 x11 x13 x15 x16 x17 x19 h → G w E 20 362 [(0, rv w.2.2.2 x0), (2, Value.int x2), (3, Value.long x3), (5, Value.int x5), (7, Value.long x7), (9, Value.long x9), (11, Value.long x11), (13, Value.long x13), (15, Value.int x15), (16, Value.int x16), (17, Value.long x17), (19, Value.int x19)] [] sh h 0 0) (hL547 : ∀ (x0 : Nat) (x7 : Int64) (x19 : Int32) (h : Hp), L547 x0 x7 x19 h → G w E 20 547 [(0, rv w.2.2.2 x0), (7, Value.long x7), (19, Value.int x19)] [] sh h 0 0) (hV : V_X12_window_547 w sh x0 x7 x19 h L149 L362 L547 RET) : G w E 20 547 [(0, rv w.2.2.2 x0), (7, Value.long x7), (19, Value.int x19)] [] sh h 0 0 := by
  unfold V_X12_window_547 at hV
  refine g_iload (pc := 547) X 2 rfl dX12_window_547 ?_
  refine g_i2l (pc := 549) X dX12_window_549 ?_
  refine g_lload (pc := 550) X 1 rfl dX12_window_550 ?_
  refine g_lcmp (pc := 552) X dX12_window_552 ?_
  refine g_if_ge (pc := 553) X 600 dX12_window_553 (by decide) (fun c1 => ?_) (fun c1 => ?_)
  · have hV := hV.1 c1
    exact g_vret (pc := 600) X Tt ⟨rfl, rfl, hV⟩ dX12_window_600
  · have hV := hV.2 c1
    refine g_aload_n (pc := 556) X 0 rfl rfl dX12_window_556 ?_
    obtain ⟨q2, hV⟩ := hV
    refine g_getI (pc := 557) X fl_X12_141 q2 dX12_window_557 ?_
    refine g_if_ne (pc := 560) X 600 dX12_window_560 (by decide) (fun c3 => ?_) (fun c3 => ?_)
    · have hV := hV.1 c3
      exact g_vret (pc := 600) X Tt ⟨rfl, rfl, hV⟩ dX12_window_600
    · have hV := hV.2 c3
      refine g_aload_n (pc := 563) X 0 rfl rfl dX12_window_563 ?_
      refine g_getR (pc := 564) X fl_X12_48 q2 dX12_window_564 ?_
      refine g_aload_n (pc := 567) X 0 rfl rfl dX12_window_567 ?_
      refine g_getI (pc := 568) X fl_X12_204 q2 dX12_window_568 ?_
      refine g_aload_n (pc := 571) X 0 rfl rfl dX12_window_571 ?_
      refine g_getR (pc := 572) X fl_X12_51 q2 dX12_window_572 ?_
      refine g_aload_n (pc := 575) X 0 rfl rfl dX12_window_575 ?_
      refine g_getI (pc := 576) X fl_X12_219 q2 dX12_window_576 ?_
      refine g_iload (pc := 579) X 2 rfl dX12_window_579 ?_
      refine g_iadd (pc := 581) X dX12_window_581 ?_
      obtain ⟨n5, q4, hV⟩ := hV
      obtain ⟨q6, hV⟩ := hV
      refine g_bald (pc := 582) X q4 q6 dX12_window_582 ?_
      obtain ⟨n8, q7, hV⟩ := hV
      obtain ⟨q9, hV⟩ := hV
      refine g_bast (pc := 583) X q7 q9 dX12_window_583 (fun h10 e11 => ?_)
      have hV := hV h10 e11
      refine g_aload_n (pc := 584) X 0 rfl rfl dX12_window_584 ?_
      refine g_dup (pc := 585) X dX12_window_585 (rv_cat _ _) ?_
      refine g_getI (pc := 586) X fl_X12_204 q2 dX12_window_586 ?_
      refine g_iconst (pc := 589) (v := (1 : Int32)) X dX12_window_589 (by decide) ?_
      refine g_iadd (pc := 590) X dX12_window_590 ?_
      refine g_putI (pc := 591) X fl_X12_204 q2 rfl rfl dX12_window_591 (fun h12 e13 => ?_)
      have hV := hV h12 e13
      refine g_iinc (pc := 594) X 2 (v := (1 : Int32)) (rest := [(0, rv w.2.2.2 x0), (7, Value.long x7)]) rfl (by decide) rfl (by decide) dX12_window_594 (fun y14 e15 => ?_)
      have hV := hV y14 e15
      refine g_goto (pc := 597) X 547 dX12_window_597 (by decide) ?_
      refine g_lv [1, 2, 0] rfl ?_
      exact hL547 x0 x7 y14 h12 hV
def V_X12_window_544 (w : Wd) (sh : List Sh) (x0 : Nat) (x7 : Int64) (h : Hp) (L149 : Nat → Int32 → Int64 → Int32 → Hp → Prop) (L362 : Nat → Int32 → Int64 → Int32 → Int64 → Int64 → Int64 → Int64 → Int32 → Int32 → Int64 → Int32 → Hp → Prop) (L547 : Nat → Int64 → Int32 → Hp → Prop) (RET : Hp → Prop) : Prop :=
  ∀ y1 : Int32, y1 = (0 : Int32) → (L547 x0 x7 y1 h)
set_option maxRecDepth 20000 in
set_option maxHeartbeats 4000000 in
theorem W_X12_window_544 {w : Wd} {E : GE} {sh : List Sh} {x0 : Nat} {x7 : Int64} {h : Hp} {L149 : Nat → Int32 → Int64 → Int32 → Hp → Prop} {L362 : Nat → Int32 → Int64 → Int32 → Int64 → Int64 → Int64 → Int64 → Int32 → Int32 → Int64 → Int32 → Hp → Prop} {L547 : Nat → Int64 → Int32 → Hp → Prop} {RET : Hp → Prop} (X : Cx w E cX12_window 20 RX12) (Tt : Rt w E none sh.length 0 0 (fun q sh9 h9 => q = none ∧ sh9 = sh ∧ RET h9)) (hR : gR E = { frames := 4, cells := 0, slots := 0, locals := 110 }) (hL149 : ∀ (x0 : Nat) (x1 : Int32) (x5 : Int64) (x7 : Int32) (h : Hp), L149 x0 x1 x5 x7 h → G w E 20 149 [(0, rv w.2.2.2 x0), (1, Value.int x1), (5, Value.long x5), (7, Value.int x7)] [] sh h 0 0) (hL362 : ∀ (x0 : Nat) (x2 : Int32) (x3 : Int64) (x5 : Int32) (x7 : Int64) (x9 : Int64) (x11 : Int64) (x13 : Int64) (x15 : Int32) (x16 : Int32) (x17 : Int64) (x19 : Int32) (h : Hp), L362 x0 x2 x3 x5 x7 x9 x11 x13 x15 x16 x17 x19 h → G w E 20 362 [(0, rv w.2.2.2 x0), (2, Value.int x2), (3, Value.long x3), (5, Value.int x5), (7, Value.long x7), (9, Value.long x9), (11, Value.long x11), (13, Value.long x13), (15, Value.int x15), (16, Value.int x16), (17, Value.long x17), (19, Value.int x19)] [] sh h 0 0) (hL547 : ∀ (x0 : Nat) (x7 : Int64) (x19 : Int32) (h : Hp), L547 x0 x7 x19 h → G w E 20 547 [(0, rv w.2.2.2 x0), (7, Value.long x7), (19, Value.int x19)] [] sh h 0 0) (hV : V_X12_window_544 w sh x0 x7 h L149 L362 L547 RET) : G w E 20 544 [(0, rv w.2.2.2 x0), (7, Value.long x7)] [] sh h 0 0 := by
  unfold V_X12_window_544 at hV
  refine g_iconst (pc := 544) (v := (0 : Int32)) X dX12_window_544 (by decide) ?_
  refine g_istore (pc := 545) X (i := 19) (rest := [(0, rv w.2.2.2 x0), (7, Value.long x7)]) (by decide) rfl dX12_window_545 (fun y1 e2 => ?_)
  have hV := hV y1 e2
  refine g_lv [1, 2, 0] rfl ?_
  exact hL547 x0 x7 y1 h hV
def V_X12_window_443 (w : Wd) (sh : List Sh) (x0 : Nat) (x7 : Int64) (x9 : Int64) (x11 : Int64) (x13 : Int64) (x15 : Int32) (x16 : Int32) (x17 : Int64) (h : Hp) (L149 : Nat → Int32 → Int64 → Int32 → Hp → Prop) (L362 : Nat → Int32 → Int64 → Int32 → Int64 → Int64 → Int64 → Int64 → Int32 → Int32 → Int64 → Int32 → Hp → Prop) (L547 : Nat → Int64 → Int32 → Hp → Prop) (RET : Hp → Prop) : Prop :=
  shAt sh x0 = some (.inr 12) ∧ (∃ P2 : Int32 → Hp → Prop, C_X12_wants w sh x0 ((x9 + x11) + x13) h P2 ∧ (∀ (v6 : Int32) (h5 : Hp), P2 v6 h5 → (((¬ v6 = 0) → (∃ P8 : Hp → Prop, C_X12_target w sh x0 (x7.toInt32) (h5.1 x0 14) ((h5.1 x0 14) + (x9.toInt32)) ((h5.1 x0 14) + ((x9 + x11).toInt32)) ((h5.1 x0 14) + (((x9 + x11) + x13).toInt32)) h5 P8 ∧ (∀ h11 : Hp, P8 h11 → (((¬ (h11.1 x0 6) = 0) → (V_X12_window_544 w sh x0 x7 h11 L149 L362 L547 RET)) ∧ (((h11.1 x0 6) = 0) → (((x15 = 0) → (V_X12_window_544 w sh x0 x7 h11 L149 L362 L547 RET)) ∧ ((¬ x15 = 0) → (∃ P14 : Int64 → Hp → Prop, C_X12_adler w sh (h11.2.1 x0 24) (h11.1 x0 25) (x7.toInt32) h11 P14 ∧ (∀ (v18 : Int64) (h17 : Hp), P14 v18 h17 → ((((lg_cmp x17 v18) = 0) → (V_X12_window_544 w sh x0 x7 h17 L149 L362 L547 RET)) ∧ ((¬ (lg_cmp x17 v18) = 0) → (∃ P20 : Int32 → Hp → Prop, C_X12_fails w sh x0 (16 : Int32) x16 h17 P20 ∧ (∀ (v24 : Int32) (h23 : Hp), P20 v24 h23 → (V_X12_window_544 w sh x0 x7 h23 L149 L362 L547 RET)))))))))))))) ∧ ((v6 = 0) → (RET h5)))))
set_option maxRecDepth 20000 in
set_option maxHeartbeats 4000000 in
theorem W_X12_window_443 {w : Wd} {E : GE} {sh : List Sh} {x0 : Nat} {x7 : Int64} {x9 : Int64} {x11 : Int64} {x13 : Int64} {x15 : Int32} {x16 : Int32} {x17 : Int64} {h : Hp} {L149 : Nat → Int32 → Int64 → Int32 → Hp → Prop} {L362 : Nat → Int32 → Int64 → Int32 → Int64 → Int64 → Int64 → Int64 → Int32 → Int32 → Int64 → Int32 → Hp → Prop} {L547 : Nat → Int64 → Int32 → Hp → Prop} {RET : Hp → Prop} (X : Cx w E cX12_window 20 RX12) (Tt : Rt w E none sh.length 0 0 (fun q sh9 h9 => q = none ∧ sh9 = sh ∧ RET h9)) (hR : gR E = { frames := 4, cells := 0, slots := 0, locals := 110 }) (hL149 : ∀ (x0 : Nat) (x1 : Int32) (x5 : Int64) (x7 : Int32) (h : Hp), L149 x0 x1 x5 x7 h → G w E 20 149 [(0, rv w.2.2.2 x0), (1, Value.int x1), (5, Value.long x5), (7, Value.int x7)] [] sh h 0 0) (hL362 : ∀ (x0 : Nat) (x2 : Int32) (x3 : Int64) (x5 : Int32) (x7 : Int64) (x9 : Int64) (x11 : Int64) (x13 : Int64) (x15 : Int32) (x16 : Int32) (x17 : Int64) (x19 : Int32) (h : Hp), L362 x0 x2 x3 x5 x7 x9 x11 x13 x15 x16 x17 x19 h → G w E 20 362 [(0, rv w.2.2.2 x0), (2, Value.int x2), (3, Value.long x3), (5, Value.int x5), (7, Value.long x7), (9, Value.long x9), (11, Value.long x11), (13, Value.long x13), (15, Value.int x15), (16, Value.int x16), (17, Value.long x17), (19, Value.int x19)] [] sh h 0 0) (hL547 : ∀ (x0 : Nat) (x7 : Int64) (x19 : Int32) (h : Hp), L547 x0 x7 x19 h → G w E 20 547 [(0, rv w.2.2.2 x0), (7, Value.long x7), (19, Value.int x19)] [] sh h 0 0) (hV : V_X12_window_443 w sh x0 x7 x9 x11 x13 x15 x16 x17 h L149 L362 L547 RET) : G w E 20 443 [(0, rv w.2.2.2 x0), (7, Value.long x7), (9, Value.long x9), (11, Value.long x11), (13, Value.long x13), (15, Value.int x15), (16, Value.int x16), (17, Value.long x17)] [] sh h 0 0 := by
  unfold V_X12_window_443 at hV
  refine g_aload_n (pc := 443) X 0 rfl rfl dX12_window_443 ?_
  refine g_lload (pc := 444) X 2 rfl dX12_window_444 ?_
  refine g_lload (pc := 446) X 3 rfl dX12_window_446 ?_
  refine g_ladd (pc := 448) X dX12_window_448 ?_
  refine g_lload (pc := 449) X 4 rfl dX12_window_449 ?_
  refine g_ladd (pc := 451) X dX12_window_451 ?_
  obtain ⟨q1, hV⟩ := hV
  obtain ⟨P2, t3, hV⟩ := hV
  refine g_cVI (pc := 452) X (As := [Value.long ((x9 + x11) + x13)]) ml_X12_172 rfl q1 t3 (by rw [hR]; exact ⟨by decide, by decide, by decide, by decide⟩) rfl rfl (Nat.zero_le _) dX12_window_452 (fun v6 h5 p4 => ?_)
  have hV := hV v6 h5 p4
  refine g_if_ne (pc := 455) X 459 dX12_window_455 (by decide) (fun c7 => ?_) (fun c7 => ?_)
  · have hV := hV.1 c7
    refine g_aload_n (pc := 459) X 0 rfl rfl dX12_window_459 ?_
    refine g_lload (pc := 460) X 1 rfl dX12_window_460 ?_
    refine g_l2i (pc := 462) X dX12_window_462 ?_
    refine g_aload_n (pc := 463) X 0 rfl rfl dX12_window_463 ?_
    refine g_getI (pc := 464) X fl_X12_150 q1 dX12_window_464 ?_
    refine g_aload_n (pc := 467) X 0 rfl rfl dX12_window_467 ?_
    refine g_getI (pc := 468) X fl_X12_150 q1 dX12_window_468 ?_
    refine g_lload (pc := 471) X 2 rfl dX12_window_471 ?_
    refine g_l2i (pc := 473) X dX12_window_473 ?_
    refine g_iadd (pc := 474) X dX12_window_474 ?_
    refine g_aload_n (pc := 475) X 0 rfl rfl dX12_window_475 ?_
    refine g_getI (pc := 476) X fl_X12_150 q1 dX12_window_476 ?_
    refine g_lload (pc := 479) X 2 rfl dX12_window_479 ?_
    refine g_lload (pc := 481) X 3 rfl dX12_window_481 ?_
    refine g_ladd (pc := 483) X dX12_window_483 ?_
    refine g_l2i (pc := 484) X dX12_window_484 ?_
    refine g_iadd (pc := 485) X dX12_window_485 ?_
    refine g_aload_n (pc := 486) X 0 rfl rfl dX12_window_486 ?_
    refine g_getI (pc := 487) X fl_X12_150 q1 dX12_window_487 ?_
    refine g_lload (pc := 490) X 2 rfl dX12_window_490 ?_
    refine g_lload (pc := 492) X 3 rfl dX12_window_492 ?_
    refine g_ladd (pc := 494) X dX12_window_494 ?_
    refine g_lload (pc := 495) X 4 rfl dX12_window_495 ?_
    refine g_ladd (pc := 497) X dX12_window_497 ?_
    refine g_l2i (pc := 498) X dX12_window_498 ?_
    refine g_iadd (pc := 499) X dX12_window_499 ?_
    obtain ⟨P8, t9, hV⟩ := hV
    refine g_cVV (pc := 500) X (As := [Value.int (x7.toInt32), Value.int (h5.1 x0 14), Value.int ((h5.1 x0 14) + (x9.toInt32)), Value.int ((h5.1 x0 14) + ((x9 + x11).toInt32)), Value.int ((h5.1 x0 14) + (((x9 + x11) + x13).toInt32))]) ml_X12_224 rfl q1 t9 (by rw [hR]; exact ⟨by decide, by decide, by decide, by decide⟩) rfl rfl (Nat.zero_le _) dX12_window_500 (fun h11 p10 => ?_)
    have hV := hV h11 p10
    refine g_aload_n (pc := 503) X 0 rfl rfl dX12_window_503 ?_
    refine g_getI (pc := 504) X fl_X12_141 q1 dX12_window_504 ?_
    refine g_if_ne (pc := 507) X 544 dX12_window_507 (by decide) (fun c12 => ?_) (fun c12 => ?_)
    · have hV := hV.1 c12
      refine g_lv [0, 1] rfl ?_
      exact W_X12_window_544 X Tt hR hL149 hL362 hL547 hV
    · have hV := hV.2 c12
      refine g_iload (pc := 510) X 5 rfl dX12_window_510 ?_
      refine g_if_eq (pc := 512) X 544 dX12_window_512 (by decide) (fun c13 => ?_) (fun c13 => ?_)
      · have hV := hV.1 c13
        refine g_lv [0, 1] rfl ?_
        exact W_X12_window_544 X Tt hR hL149 hL362 hL547 hV
      · have hV := hV.2 c13
        refine g_lload (pc := 515) X 7 rfl dX12_window_515 ?_
        refine g_aload_n (pc := 517) X 0 rfl rfl dX12_window_517 ?_
        refine g_getR (pc := 518) X fl_X12_51 q1 dX12_window_518 ?_
        refine g_aload_n (pc := 521) X 0 rfl rfl dX12_window_521 ?_
        refine g_getI (pc := 522) X fl_X12_219 q1 dX12_window_522 ?_
        refine g_lload (pc := 525) X 1 rfl dX12_window_525 ?_
        refine g_l2i (pc := 527) X dX12_window_527 ?_
        obtain ⟨P14, t15, hV⟩ := hV
        refine g_cSJ (pc := 528) X (As := [rv w.2.2.2 (h11.2.1 x0 24), Value.int (h11.1 x0 25), Value.int (x7.toInt32)]) ml_X12_228 t15 (by rw [hR]; exact ⟨by decide, by decide, by decide, by decide⟩) rfl rfl (Nat.le_of_ble_eq_true rfl) dX12_window_528 (fun v18 h17 p16 => ?_)
        have hV := hV v18 h17 p16
        refine g_lcmp (pc := 531) X dX12_window_531 ?_
        refine g_if_eq (pc := 532) X 544 dX12_window_532 (by decide) (fun c19 => ?_) (fun c19 => ?_)
        · have hV := hV.1 c19
          refine g_lv [0, 1] rfl ?_
          exact W_X12_window_544 X Tt hR hL149 hL362 hL547 hV
        · have hV := hV.2 c19
          refine g_aload_n (pc := 535) X 0 rfl rfl dX12_window_535 ?_
          refine g_bipush (pc := 536) (v := (16 : Int32)) X dX12_window_536 (by decide) ?_
          refine g_iload (pc := 538) X 6 rfl dX12_window_538 ?_
          obtain ⟨P20, t21, hV⟩ := hV
          refine g_cVI (pc := 540) X (As := [Value.int (16 : Int32), Value.int x16]) ml_X12_153 rfl q1 t21 (by rw [hR]; exact ⟨by decide, by decide, by decide, by decide⟩) rfl rfl (Nat.zero_le _) dX12_window_540 (fun v24 h23 p22 => ?_)
          have hV := hV v24 h23 p22
          refine g_pop (pc := 543) X dX12_window_543 (rfl) ?_
          refine g_lv [0, 1] rfl ?_
          exact W_X12_window_544 X Tt hR hL149 hL362 hL547 hV
  · have hV := hV.2 c7
    exact g_vret (pc := 458) X Tt ⟨rfl, rfl, hV⟩ dX12_window_458
def V_X12_window_406 (w : Wd) (sh : List Sh) (x0 : Nat) (x2 : Int32) (x3 : Int64) (x5 : Int32) (x7 : Int64) (x9 : Int64) (x11 : Int64) (x13 : Int64) (x15 : Int32) (x16 : Int32) (x17 : Int64) (h : Hp) (L149 : Nat → Int32 → Int64 → Int32 → Hp → Prop) (L362 : Nat → Int32 → Int64 → Int32 → Int64 → Int64 → Int64 → Int64 → Int32 → Int32 → Int64 → Int32 → Hp → Prop) (L547 : Nat → Int64 → Int32 → Hp → Prop) (RET : Hp → Prop) : Prop :=
  shAt sh x0 = some (.inr 12) ∧ (((¬ (h.1 x0 6) = 0) → (V_X12_window_443 w sh x0 x7 x9 x11 x13 x15 x16 x17 h L149 L362 L547 RET)) ∧ (((h.1 x0 6) = 0) → ((((lg_cmp x3 ((((((h.1 x0 14) - x5).toInt64) + x9) + x11) + x13)) = 0) → (V_X12_window_443 w sh x0 x7 x9 x11 x13 x15 x16 x17 h L149 L362 L547 RET)) ∧ ((¬ (lg_cmp x3 ((((((h.1 x0 14) - x5).toInt64) + x9) + x11) + x13)) = 0) → (∃ P4 : Int32 → Hp → Prop, C_X12_fails w sh x0 (8 : Int32) x2 h P4 ∧ (∀ (v8 : Int32) (h7 : Hp), P4 v8 h7 → (V_X12_window_443 w sh x0 x7 x9 x11 x13 x15 x16 x17 h7 L149 L362 L547 RET)))))))
set_option maxRecDepth 20000 in
set_option maxHeartbeats 4000000 in
theorem W_X12_window_406 {w : Wd} {E : GE} {sh : List Sh} {x0 : Nat} {x2 : Int32} {x3 : Int64} {x5 : Int32} {x7 : Int64} {x9 : Int64} {x11 : Int64} {x13 : Int64} {x15 : Int32} {x16 : Int32} {x17 : Int64} {h : Hp} {L149 : Nat → Int32 → Int64 → Int32 → Hp → Prop} {L362 : Nat → Int32 → Int64 → Int32 → Int64 → Int64 → Int64 → Int64 → Int32 → Int32 → Int64 → Int32 → Hp → Prop} {L547 : Nat → Int64 → Int32 → Hp → Prop} {RET : Hp → Prop} (X : Cx w E cX12_window 20 RX12) (Tt : Rt w E none sh.length 0 0 (fun q sh9 h9 => q = none ∧ sh9 = sh ∧ RET h9)) (hR : gR E = { frames := 4, cells := 0, slots := 0, locals := 110 }) (hL149 : ∀ (x0 : Nat) (x1 : Int32) (x5 : Int64) (x7 : Int32) (h : Hp), L149 x0 x1 x5 x7 h → G w E 20 149 [(0, rv w.2.2.2 x0), (1, Value.int x1), (5, Value.long x5), (7, Value.int x7)] [] sh h 0 0) (hL362 : ∀ (x0 : Nat) (x2 : Int32) (x3 : Int64) (x5 : Int32) (x7 : Int64) (x9 : Int64) (x11 : Int64) (x13 : Int64) (x15 : Int32) (x16 : Int32) (x17 : Int64) (x19 : Int32) (h : Hp), L362 x0 x2 x3 x5 x7 x9 x11 x13 x15 x16 x17 x19 h → G w E 20 362 [(0, rv w.2.2.2 x0), (2, Value.int x2), (3, Value.long x3), (5, Value.int x5), (7, Value.long x7), (9, Value.long x9), (11, Value.long x11), (13, Value.long x13), (15, Value.int x15), (16, Value.int x16), (17, Value.long x17), (19, Value.int x19)] [] sh h 0 0) (hL547 : ∀ (x0 : Nat) (x7 : Int64) (x19 : Int32) (h : Hp), L547 x0 x7 x19 h → G w E 20 547 [(0, rv w.2.2.2 x0), (7, Value.long x7), (19, Value.int x19)] [] sh h 0 0) (hV : V_X12_window_406 w sh x0 x2 x3 x5 x7 x9 x11 x13 x15 x16 x17 h L149 L362 L547 RET) : G w E 20 406 [(0, rv w.2.2.2 x0), (2, Value.int x2), (3, Value.long x3), (5, Value.int x5), (7, Value.long x7), (9, Value.long x9), (11, Value.long x11), (13, Value.long x13), (15, Value.int x15), (16, Value.int x16), (17, Value.long x17)] [] sh h 0 0 := by
  unfold V_X12_window_406 at hV
  refine g_aload_n (pc := 406) X 0 rfl rfl dX12_window_406 ?_
  obtain ⟨q1, hV⟩ := hV
  refine g_getI (pc := 407) X fl_X12_141 q1 dX12_window_407 ?_
  refine g_if_ne (pc := 410) X 443 dX12_window_410 (by decide) (fun c2 => ?_) (fun c2 => ?_)
  · have hV := hV.1 c2
    refine g_lv [0, 4, 5, 6, 7, 8, 9, 10] rfl ?_
    exact W_X12_window_443 X Tt hR hL149 hL362 hL547 hV
  · have hV := hV.2 c2
    refine g_lload_n (pc := 413) X 2 rfl rfl dX12_window_413 ?_
    refine g_aload_n (pc := 414) X 0 rfl rfl dX12_window_414 ?_
    refine g_getI (pc := 415) X fl_X12_150 q1 dX12_window_415 ?_
    refine g_iload (pc := 418) X 3 rfl dX12_window_418 ?_
    refine g_isub (pc := 420) X dX12_window_420 ?_
    refine g_i2l (pc := 421) X dX12_window_421 ?_
    refine g_lload (pc := 422) X 5 rfl dX12_window_422 ?_
    refine g_ladd (pc := 424) X dX12_window_424 ?_
    refine g_lload (pc := 425) X 6 rfl dX12_window_425 ?_
    refine g_ladd (pc := 427) X dX12_window_427 ?_
    refine g_lload (pc := 428) X 7 rfl dX12_window_428 ?_
    refine g_ladd (pc := 430) X dX12_window_430 ?_
    refine g_lcmp (pc := 431) X dX12_window_431 ?_
    refine g_if_eq (pc := 432) X 443 dX12_window_432 (by decide) (fun c3 => ?_) (fun c3 => ?_)
    · have hV := hV.1 c3
      refine g_lv [0, 4, 5, 6, 7, 8, 9, 10] rfl ?_
      exact W_X12_window_443 X Tt hR hL149 hL362 hL547 hV
    · have hV := hV.2 c3
      refine g_aload_n (pc := 435) X 0 rfl rfl dX12_window_435 ?_
      refine g_bipush (pc := 436) (v := (8 : Int32)) X dX12_window_436 (by decide) ?_
      refine g_iload_n (pc := 438) X 1 rfl rfl dX12_window_438 ?_
      obtain ⟨P4, t5, hV⟩ := hV
      refine g_cVI (pc := 439) X (As := [Value.int (8 : Int32), Value.int x2]) ml_X12_153 rfl q1 t5 (by rw [hR]; exact ⟨by decide, by decide, by decide, by decide⟩) rfl rfl (Nat.zero_le _) dX12_window_439 (fun v8 h7 p6 => ?_)
      have hV := hV v8 h7 p6
      refine g_pop (pc := 442) X dX12_window_442 (rfl) ?_
      refine g_lv [0, 4, 5, 6, 7, 8, 9, 10] rfl ?_
      exact W_X12_window_443 X Tt hR hL149 hL362 hL547 hV
def V_X12_window_362 (w : Wd) (sh : List Sh) (x0 : Nat) (x2 : Int32) (x3 : Int64) (x5 : Int32) (x7 : Int64) (x9 : Int64) (x11 : Int64) (x13 : Int64) (x15 : Int32) (x16 : Int32) (x17 : Int64) (x19 : Int32) (h : Hp) (L149 : Nat → Int32 → Int64 → Int32 → Hp → Prop) (L362 : Nat → Int32 → Int64 → Int32 → Int64 → Int64 → Int64 → Int64 → Int32 → Int32 → Int64 → Int32 → Hp → Prop) (L547 : Nat → Int64 → Int32 → Hp → Prop) (RET : Hp → Prop) : Prop :=
  (((4 : Int32) ≤ x19) → (V_X12_window_406 w sh x0 x2 x3 x5 x7 x9 x11 x13 x15 x16 x17 h L149 L362 L547 RET)) ∧ ((¬ (4 : Int32) ≤ x19) → (shAt sh x0 = some (.inr 12) ∧ (∃ n4 : Nat, shAt sh (h.2.1 x0 13) = some (.inl (0, n4)) ∧ (vp_in (h.1 x0 14) n4 ∧ (∀ y6 : Int64, y6 = ((x17 <<< ((8 : Int32).toInt64 &&& 63)) ||| (((b8 (h.1 (h.2.1 x0 13) (h.1 x0 14).toNatClampNeg)) &&& (255 : Int32)).toInt64)) → (∀ h8 : Hp, h8 = wI h x0 14 ((h.1 x0 14) + (1 : Int32)) → (∀ y10 : Int32, y10 = x19 + (1 : Int32) → (L362 x0 x2 x3 x5 x7 x9 x11 x13 x15 x16 y6 y10 h8))))))))
set_option maxRecDepth 20000 in
set_option maxHeartbeats 4000000 in
theorem W_X12_window_362 {w : Wd} {E : GE} {sh : List Sh} {x0 : Nat} {x2 : Int32} {x3 : Int64} {x5 : Int32} {x7 : Int64} {x9 : Int64} {x11 : Int64} {x13 : Int64} {x15 : Int32} {x16 : Int32} {x17 : Int64} {x19 : Int32} {h : Hp} {L149 : Nat → Int32 → Int64 → Int32 → Hp → Prop} {L362 : Nat → Int32 → Int64 → Int32 → Int64 → Int64 → Int64 → Int64 → Int32 → Int32 → Int64 → Int32 → Hp → Prop} {L547 : Nat → Int64 → Int32 → Hp → Prop} {RET : Hp → Prop} (X : Cx w E cX12_window 20 RX12) (Tt : Rt w E none sh.length 0 0 (fun q sh9 h9 => q = none ∧ sh9 = sh ∧ RET h9)) (hR : gR E = { frames := 4, cells := 0, slots := 0, locals := 110 }) (hL149 : ∀ (x0 : Nat) (x1 : Int32) (x5 : Int64) (x7 : Int32) (h : Hp), L149 x0 x1 x5 x7 h → G w E 20 149 [(0, rv w.2.2.2 x0), (1, Value.int x1), (5, Value.long x5), (7, Value.int x7)] [] sh h 0 0) (hL362 : ∀ (x0 : Nat) (x2 : Int32) (x3 : Int64) (x5 : Int32) (x7 : Int64) (x9 : Int64) (x11 : Int64) (x13 : Int64) (x15 : Int32) (x16 : Int32) (x17 : Int64) (x19 : Int32) (h : Hp), L362 x0 x2 x3 x5 x7 x9 x11 x13 x15 x16 x17 x19 h → G w E 20 362 [(0, rv w.2.2.2 x0), (2, Value.int x2), (3, Value.long x3), (5, Value.int x5), (7, Value.long x7), (9, Value.long x9), (11, Value.long x11), (13, Value.long x13), (15, Value.int x15), (16, Value.int x16), (17, Value.long x17), (19, Value.int x19)] [] sh h 0 0) (hL547 : ∀ (x0 : Nat) (x7 : Int64) (x19 : Int32) (h : Hp), L547 x0 x7 x19 h → G w E 20 547 [(0, rv w.2.2.2 x0), (7, Value.long x7), (19, Value.int x19)] [] sh h 0 0) (hV : V_X12_window_362 w sh x0 x2 x3 x5 x7 x9 x11 x13 x15 x16 x17 x19 h L149 L362 L547 RET) : G w E 20 362 [(0, rv w.2.2.2 x0), (2, Value.int x2), (3, Value.long x3), (5, Value.int x5), (7, Value.long x7), (9, Value.long x9), (11, Value.long x11), (13, Value.long x13), (15, Value.int x15), (16, Value.int x16), (17, Value.long x17), (19, Value.int x19)] [] sh h 0 0 := by
  unfold V_X12_window_362 at hV
  refine g_iload (pc := 362) X 11 rfl dX12_window_362 ?_
  refine g_iconst (pc := 364) (v := (4 : Int32)) X dX12_window_364 (by decide) ?_
  refine g_icmp_ge (pc := 365) X 406 dX12_window_365 (by decide) (fun c1 => ?_) (fun c1 => ?_)
  · have hV := hV.1 c1
    refine g_lv [0, 1, 2, 3, 4, 5, 6, 7, 8, 9, 10] rfl ?_
    exact W_X12_window_406 X Tt hR hL149 hL362 hL547 hV
  · have hV := hV.2 c1
    refine g_lload (pc := 368) X 10 rfl dX12_window_368 ?_
    refine g_bipush (pc := 370) (v := (8 : Int32)) X dX12_window_370 (by decide) ?_
    refine g_lshl (pc := 372) X dX12_window_372 ?_
    refine g_aload_n (pc := 373) X 0 rfl rfl dX12_window_373 ?_
    obtain ⟨q2, hV⟩ := hV
    refine g_getR (pc := 374) X fl_X12_36 q2 dX12_window_374 ?_
    refine g_aload_n (pc := 377) X 0 rfl rfl dX12_window_377 ?_
    refine g_getI (pc := 378) X fl_X12_150 q2 dX12_window_378 ?_
    obtain ⟨n4, q3, hV⟩ := hV
    obtain ⟨q5, hV⟩ := hV
    refine g_bald (pc := 381) X q3 q5 dX12_window_381 ?_
    refine g_sipush (pc := 382) (v := (255 : Int32)) X dX12_window_382 (by decide) ?_
    refine g_iand (pc := 385) X dX12_window_385 ?_
    refine g_i2l (pc := 386) X dX12_window_386 ?_
    refine g_lor (pc := 387) X dX12_window_387 ?_
    refine g_lstore (pc := 388) X (i := 17) (rest := [(0, rv w.2.2.2 x0), (2, Value.int x2), (3, Value.long x3), (5, Value.int x5), (7, Value.long x7), (9, Value.long x9), (11, Value.long x11), (13, Value.long x13), (15, Value.int x15), (16, Value.int x16), (19, Value.int x19)]) (by decide) rfl dX12_window_388 (fun y6 e7 => ?_)
    have hV := hV y6 e7
    refine g_aload_n (pc := 390) X 1 rfl rfl dX12_window_390 ?_
    refine g_dup (pc := 391) X dX12_window_391 (rv_cat _ _) ?_
    refine g_getI (pc := 392) X fl_X12_150 q2 dX12_window_392 ?_
    refine g_iconst (pc := 395) (v := (1 : Int32)) X dX12_window_395 (by decide) ?_
    refine g_iadd (pc := 396) X dX12_window_396 ?_
    refine g_putI (pc := 397) X fl_X12_150 q2 rfl rfl dX12_window_397 (fun h8 e9 => ?_)
    have hV := hV h8 e9
    refine g_iinc (pc := 400) X 11 (v := (1 : Int32)) (rest := [(17, Value.long y6), (0, rv w.2.2.2 x0), (2, Value.int x2), (3, Value.long x3), (5, Value.int x5), (7, Value.long x7), (9, Value.long x9), (11, Value.long x11), (13, Value.long x13), (15, Value.int x15), (16, Value.int x16)]) rfl (by decide) rfl (by decide) dX12_window_400 (fun y10 e11 => ?_)
    have hV := hV y10 e11
    refine g_goto (pc := 403) X 362 dX12_window_403 (by decide) ?_
    refine g_lv [2, 3, 4, 5, 6, 7, 8, 9, 10, 11, 1, 0] rfl ?_
    exact hL362 x0 x2 x3 x5 x7 x9 x11 x13 x15 x16 y6 y10 h8 hV
def V_X12_window_333 (w : Wd) (sh : List Sh) (x0 : Nat) (x2 : Int32) (x3 : Int64) (x5 : Int32) (x7 : Int64) (x9 : Int64) (x11 : Int64) (x13 : Int64) (s0 : Int32) (h : Hp) (L149 : Nat → Int32 → Int64 → Int32 → Hp → Prop) (L362 : Nat → Int32 → Int64 → Int32 → Int64 → Int64 → Int64 → Int64 → Int32 → Int32 → Int64 → Int32 → Hp → Prop) (L547 : Nat → Int64 → Int32 → Hp → Prop) (RET : Hp → Prop) : Prop :=
  ∀ y1 : Int32, y1 = s0 → (shAt sh x0 = some (.inr 12) ∧ (∀ y4 : Int32, y4 = (h.1 x0 14) → (∀ y6 : Int64, y6 = (0 : Int64) → (((y1 = 0) → (V_X12_window_406 w sh x0 x2 x3 x5 x7 x9 x11 x13 y1 y4 y6 h L149 L362 L547 RET)) ∧ ((¬ y1 = 0) → (∃ P9 : Int32 → Hp → Prop, C_X12_wants w sh x0 (4 : Int64) h P9 ∧ (∀ (v13 : Int32) (h12 : Hp), P9 v13 h12 → (((v13 = 0) → (V_X12_window_406 w sh x0 x2 x3 x5 x7 x9 x11 x13 y1 y4 y6 h12 L149 L362 L547 RET)) ∧ ((¬ v13 = 0) → (∀ y15 : Int32, y15 = (0 : Int32) → (L362 x0 x2 x3 x5 x7 x9 x11 x13 y1 y4 y6 y15 h12)))))))))))
set_option maxRecDepth 20000 in
set_option maxHeartbeats 4000000 in
theorem W_X12_window_333 {w : Wd} {E : GE} {sh : List Sh} {x0 : Nat} {x2 : Int32} {x3 : Int64} {x5 : Int32} {x7 : Int64} {x9 : Int64} {x11 : Int64} {x13 : Int64} {s0 : Int32} {h : Hp} {L149 : Nat → Int32 → Int64 → Int32 → Hp → Prop} {L362 : Nat → Int32 → Int64 → Int32 → Int64 → Int64 → Int64 → Int64 → Int32 → Int32 → Int64 → Int32 → Hp → Prop} {L547 : Nat → Int64 → Int32 → Hp → Prop} {RET : Hp → Prop} (X : Cx w E cX12_window 20 RX12) (Tt : Rt w E none sh.length 0 0 (fun q sh9 h9 => q = none ∧ sh9 = sh ∧ RET h9)) (hR : gR E = { frames := 4, cells := 0, slots := 0, locals := 110 }) (hL149 : ∀ (x0 : Nat) (x1 : Int32) (x5 : Int64) (x7 : Int32) (h : Hp), L149 x0 x1 x5 x7 h → G w E 20 149 [(0, rv w.2.2.2 x0), (1, Value.int x1), (5, Value.long x5), (7, Value.int x7)] [] sh h 0 0) (hL362 : ∀ (x0 : Nat) (x2 : Int32) (x3 : Int64) (x5 : Int32) (x7 : Int64) (x9 : Int64) (x11 : Int64) (x13 : Int64) (x15 : Int32) (x16 : Int32) (x17 : Int64) (x19 : Int32) (h : Hp), L362 x0 x2 x3 x5 x7 x9 x11 x13 x15 x16 x17 x19 h → G w E 20 362 [(0, rv w.2.2.2 x0), (2, Value.int x2), (3, Value.long x3), (5, Value.int x5), (7, Value.long x7), (9, Value.long x9), (11, Value.long x11), (13, Value.long x13), (15, Value.int x15), (16, Value.int x16), (17, Value.long x17), (19, Value.int x19)] [] sh h 0 0) (hL547 : ∀ (x0 : Nat) (x7 : Int64) (x19 : Int32) (h : Hp), L547 x0 x7 x19 h → G w E 20 547 [(0, rv w.2.2.2 x0), (7, Value.long x7), (19, Value.int x19)] [] sh h 0 0) (hV : V_X12_window_333 w sh x0 x2 x3 x5 x7 x9 x11 x13 s0 h L149 L362 L547 RET) : G w E 20 333 [(0, rv w.2.2.2 x0), (2, Value.int x2), (3, Value.long x3), (5, Value.int x5), (7, Value.long x7), (9, Value.long x9), (11, Value.long x11), (13, Value.long x13)] [Value.int s0] sh h 0 0 := by
  unfold V_X12_window_333 at hV
  refine g_istore (pc := 333) X (i := 15) (rest := [(0, rv w.2.2.2 x0), (2, Value.int x2), (3, Value.long x3), (5, Value.int x5), (7, Value.long x7), (9, Value.long x9), (11, Value.long x11), (13, Value.long x13)]) (by decide) rfl dX12_window_333 (fun y1 e2 => ?_)
  have hV := hV y1 e2
  refine g_aload_n (pc := 335) X 1 rfl rfl dX12_window_335 ?_
  obtain ⟨q3, hV⟩ := hV
  refine g_getI (pc := 336) X fl_X12_150 q3 dX12_window_336 ?_
  refine g_istore (pc := 339) X (i := 16) (rest := [(15, Value.int y1), (0, rv w.2.2.2 x0), (2, Value.int x2), (3, Value.long x3), (5, Value.int x5), (7, Value.long x7), (9, Value.long x9), (11, Value.long x11), (13, Value.long x13)]) (by decide) rfl dX12_window_339 (fun y4 e5 => ?_)
  have hV := hV y4 e5
  refine g_lconst (pc := 341) (v := (0 : Int64)) X dX12_window_341 (by decide) ?_
  refine g_lstore (pc := 342) X (i := 17) (rest := [(16, Value.int y4), (15, Value.int y1), (0, rv w.2.2.2 x0), (2, Value.int x2), (3, Value.long x3), (5, Value.int x5), (7, Value.long x7), (9, Value.long x9), (11, Value.long x11), (13, Value.long x13)]) (by decide) rfl dX12_window_342 (fun y6 e7 => ?_)
  have hV := hV y6 e7
  refine g_iload (pc := 344) X 2 rfl dX12_window_344 ?_
  refine g_if_eq (pc := 346) X 406 dX12_window_346 (by decide) (fun c8 => ?_) (fun c8 => ?_)
  · have hV := hV.1 c8
    refine g_lv [3, 4, 5, 6, 7, 8, 9, 10, 2, 1, 0] rfl ?_
    exact W_X12_window_406 X Tt hR hL149 hL362 hL547 hV
  · have hV := hV.2 c8
    refine g_aload_n (pc := 349) X 3 rfl rfl dX12_window_349 ?_
    refine g_ldc2 (pc := 350) X kc_X12_170 dX12_window_350 ?_
    obtain ⟨P9, t10, hV⟩ := hV
    refine g_cVI (pc := 353) X (As := [Value.long (4 : Int64)]) ml_X12_172 rfl q3 t10 (by rw [hR]; exact ⟨by decide, by decide, by decide, by decide⟩) rfl rfl (Nat.zero_le _) dX12_window_353 (fun v13 h12 p11 => ?_)
    have hV := hV v13 h12 p11
    refine g_if_eq (pc := 356) X 406 dX12_window_356 (by decide) (fun c14 => ?_) (fun c14 => ?_)
    · have hV := hV.1 c14
      refine g_lv [3, 4, 5, 6, 7, 8, 9, 10, 2, 1, 0] rfl ?_
      exact W_X12_window_406 X Tt hR hL149 hL362 hL547 hV
    · have hV := hV.2 c14
      refine g_iconst (pc := 359) (v := (0 : Int32)) X dX12_window_359 (by decide) ?_
      refine g_istore (pc := 360) X (i := 19) (rest := [(17, Value.long y6), (16, Value.int y4), (15, Value.int y1), (0, rv w.2.2.2 x0), (2, Value.int x2), (3, Value.long x3), (5, Value.int x5), (7, Value.long x7), (9, Value.long x9), (11, Value.long x11), (13, Value.long x13)]) (by decide) rfl dX12_window_360 (fun y15 e16 => ?_)
      have hV := hV y15 e16
      refine g_lv [4, 5, 6, 7, 8, 9, 10, 11, 3, 2, 1, 0] rfl ?_
      exact hL362 x0 x2 x3 x5 x7 x9 x11 x13 y1 y4 y6 y15 h12 hV
def V_X12_window_261 (w : Wd) (sh : List Sh) (x0 : Nat) (x1 : Int32) (x2 : Int32) (x3 : Int64) (x5 : Int32) (x7 : Int64) (h : Hp) (L149 : Nat → Int32 → Int64 → Int32 → Hp → Prop) (L362 : Nat → Int32 → Int64 → Int32 → Int64 → Int64 → Int64 → Int64 → Int32 → Int32 → Int64 → Int32 → Hp → Prop) (L547 : Nat → Int64 → Int32 → Hp → Prop) (RET : Hp → Prop) : Prop :=
  shAt sh x0 = some (.inr 12) ∧ (∃ P2 : Int32 → Hp → Prop, C_X12_wants w sh x0 (1 : Int64) h P2 ∧ (∀ (v6 : Int32) (h5 : Hp), P2 v6 h5 → (((¬ v6 = 0) → (∃ n9 : Nat, shAt sh (h5.2.1 x0 13) = some (.inl (0, n9)) ∧ (vp_in (h5.1 x0 14) n9 ∧ ((((b8 (h5.1 (h5.2.1 x0 13) (h5.1 x0 14).toNatClampNeg)) = 0) → (∀ h12 : Hp, h12 = wI h5 x0 14 ((h5.1 x0 14) + (1 : Int32)) → (∃ P14 : Int64 → Hp → Prop, C_X12_headBig w sh x0 h12 P14 ∧ (∀ (v18 : Int64) (h17 : Hp), P14 v18 h17 → (∀ y19 : Int64, y19 = v18 → (∃ P21 : Int64 → Hp → Prop, C_X12_headBig w sh x0 h17 P21 ∧ (∀ (v25 : Int64) (h24 : Hp), P21 v25 h24 → (∀ y26 : Int64, y26 = v25 → (∃ P28 : Int64 → Hp → Prop, C_X12_headBig w sh x0 h24 P28 ∧ (∀ (v32 : Int64) (h31 : Hp), P28 v32 h31 → (∀ y33 : Int64, y33 = v32 → ((((x1 &&& (4 : Int32)) ≤ 0) → (V_X12_window_333 w sh x0 x2 x3 x5 x7 y19 y26 y33 (0 : Int32) h31 L149 L362 L547 RET)) ∧ ((¬ (x1 &&& (4 : Int32)) ≤ 0) → (V_X12_window_333 w sh x0 x2 x3 x5 x7 y19 y26 y33 (1 : Int32) h31 L149 L362 L547 RET)))))))))))))) ∧ ((¬ (b8 (h5.1 (h5.2.1 x0 13) (h5.1 x0 14).toNatClampNeg)) = 0) → (∃ P36 : Int32 → Hp → Prop, C_X12_fails w sh x0 (9 : Int32) (h5.1 x0 14) h5 P36 ∧ (∀ (v40 : Int32) (h39 : Hp), P36 v40 h39 → (RET h39)))))))) ∧ ((v6 = 0) → (RET h5)))))
set_option maxRecDepth 20000 in
set_option maxHeartbeats 4000000 in
theorem W_X12_window_261 {w : Wd} {E : GE} {sh : List Sh} {x0 : Nat} {x1 : Int32} {x2 : Int32} {x3 : Int64} {x5 : Int32} {x7 : Int64} {h : Hp} {L149 : Nat → Int32 → Int64 → Int32 → Hp → Prop} {L362 : Nat → Int32 → Int64 → Int32 → Int64 → Int64 → Int64 → Int64 → Int32 → Int32 → Int64 → Int32 → Hp → Prop} {L547 : Nat → Int64 → Int32 → Hp → Prop} {RET : Hp → Prop} (X : Cx w E cX12_window 20 RX12) (Tt : Rt w E none sh.length 0 0 (fun q sh9 h9 => q = none ∧ sh9 = sh ∧ RET h9)) (hR : gR E = { frames := 4, cells := 0, slots := 0, locals := 110 }) (hL149 : ∀ (x0 : Nat) (x1 : Int32) (x5 : Int64) (x7 : Int32) (h : Hp), L149 x0 x1 x5 x7 h → G w E 20 149 [(0, rv w.2.2.2 x0), (1, Value.int x1), (5, Value.long x5), (7, Value.int x7)] [] sh h 0 0) (hL362 : ∀ (x0 : Nat) (x2 : Int32) (x3 : Int64) (x5 : Int32) (x7 : Int64) (x9 : Int64) (x11 : Int64) (x13 : Int64) (x15 : Int32) (x16 : Int32) (x17 : Int64) (x19 : Int32) (h : Hp), L362 x0 x2 x3 x5 x7 x9 x11 x13 x15 x16 x17 x19 h → G w E 20 362 [(0, rv w.2.2.2 x0), (2, Value.int x2), (3, Value.long x3), (5, Value.int x5), (7, Value.long x7), (9, Value.long x9), (11, Value.long x11), (13, Value.long x13), (15, Value.int x15), (16, Value.int x16), (17, Value.long x17), (19, Value.int x19)] [] sh h 0 0) (hL547 : ∀ (x0 : Nat) (x7 : Int64) (x19 : Int32) (h : Hp), L547 x0 x7 x19 h → G w E 20 547 [(0, rv w.2.2.2 x0), (7, Value.long x7), (19, Value.int x19)] [] sh h 0 0) (hV : V_X12_window_261 w sh x0 x1 x2 x3 x5 x7 h L149 L362 L547 RET) : G w E 20 261 [(0, rv w.2.2.2 x0), (1, Value.int x1), (2, Value.int x2), (3, Value.long x3), (5, Value.int x5), (7, Value.long x7)] [] sh h 0 0 := by
  unfold V_X12_window_261 at hV
  refine g_aload_n (pc := 261) X 0 rfl rfl dX12_window_261 ?_
  refine g_lconst (pc := 262) (v := (1 : Int64)) X dX12_window_262 (by decide) ?_
  obtain ⟨q1, hV⟩ := hV
  obtain ⟨P2, t3, hV⟩ := hV
  refine g_cVI (pc := 263) X (As := [Value.long (1 : Int64)]) ml_X12_172 rfl q1 t3 (by rw [hR]; exact ⟨by decide, by decide, by decide, by decide⟩) rfl rfl (Nat.zero_le _) dX12_window_263 (fun v6 h5 p4 => ?_)
  have hV := hV v6 h5 p4
  refine g_if_ne (pc := 266) X 270 dX12_window_266 (by decide) (fun c7 => ?_) (fun c7 => ?_)
  · have hV := hV.1 c7
    refine g_aload_n (pc := 270) X 0 rfl rfl dX12_window_270 ?_
    refine g_getR (pc := 271) X fl_X12_36 q1 dX12_window_271 ?_
    refine g_aload_n (pc := 274) X 0 rfl rfl dX12_window_274 ?_
    refine g_getI (pc := 275) X fl_X12_150 q1 dX12_window_275 ?_
    obtain ⟨n9, q8, hV⟩ := hV
    obtain ⟨q10, hV⟩ := hV
    refine g_bald (pc := 278) X q8 q10 dX12_window_278 ?_
    refine g_if_eq (pc := 279) X 294 dX12_window_279 (by decide) (fun c11 => ?_) (fun c11 => ?_)
    · have hV := hV.1 c11
      refine g_aload_n (pc := 294) X 0 rfl rfl dX12_window_294 ?_
      refine g_dup (pc := 295) X dX12_window_295 (rv_cat _ _) ?_
      refine g_getI (pc := 296) X fl_X12_150 q1 dX12_window_296 ?_
      refine g_iconst (pc := 299) (v := (1 : Int32)) X dX12_window_299 (by decide) ?_
      refine g_iadd (pc := 300) X dX12_window_300 ?_
      refine g_putI (pc := 301) X fl_X12_150 q1 rfl rfl dX12_window_301 (fun h12 e13 => ?_)
      have hV := hV h12 e13
      refine g_aload_n (pc := 304) X 0 rfl rfl dX12_window_304 ?_
      obtain ⟨P14, t15, hV⟩ := hV
      refine g_cVJ (pc := 305) X (As := []) ml_X12_176 rfl q1 t15 (by rw [hR]; exact ⟨by decide, by decide, by decide, by decide⟩) rfl rfl (Nat.zero_le _) dX12_window_305 (fun v18 h17 p16 => ?_)
      have hV := hV v18 h17 p16
      refine g_lstore (pc := 308) X (i := 9) (rest := [(0, rv w.2.2.2 x0), (1, Value.int x1), (2, Value.int x2), (3, Value.long x3), (5, Value.int x5), (7, Value.long x7)]) (by decide) rfl dX12_window_308 (fun y19 e20 => ?_)
      have hV := hV y19 e20
      refine g_aload_n (pc := 310) X 1 rfl rfl dX12_window_310 ?_
      obtain ⟨P21, t22, hV⟩ := hV
      refine g_cVJ (pc := 311) X (As := []) ml_X12_176 rfl q1 t22 (by rw [hR]; exact ⟨by decide, by decide, by decide, by decide⟩) rfl rfl (Nat.zero_le _) dX12_window_311 (fun v25 h24 p23 => ?_)
      have hV := hV v25 h24 p23
      refine g_lstore (pc := 314) X (i := 11) (rest := [(9, Value.long y19), (0, rv w.2.2.2 x0), (1, Value.int x1), (2, Value.int x2), (3, Value.long x3), (5, Value.int x5), (7, Value.long x7)]) (by decide) rfl dX12_window_314 (fun y26 e27 => ?_)
      have hV := hV y26 e27
      refine g_aload_n (pc := 316) X 2 rfl rfl dX12_window_316 ?_
      obtain ⟨P28, t29, hV⟩ := hV
      refine g_cVJ (pc := 317) X (As := []) ml_X12_176 rfl q1 t29 (by rw [hR]; exact ⟨by decide, by decide, by decide, by decide⟩) rfl rfl (Nat.zero_le _) dX12_window_317 (fun v32 h31 p30 => ?_)
      have hV := hV v32 h31 p30
      refine g_lstore (pc := 320) X (i := 13) (rest := [(11, Value.long y26), (9, Value.long y19), (0, rv w.2.2.2 x0), (1, Value.int x1), (2, Value.int x2), (3, Value.long x3), (5, Value.int x5), (7, Value.long x7)]) (by decide) rfl dX12_window_320 (fun y33 e34 => ?_)
      have hV := hV y33 e34
      refine g_iload_n (pc := 322) X 4 rfl rfl dX12_window_322 ?_
      refine g_iconst (pc := 323) (v := (4 : Int32)) X dX12_window_323 (by decide) ?_
      refine g_iand (pc := 324) X dX12_window_324 ?_
      refine g_if_le (pc := 325) X 332 dX12_window_325 (by decide) (fun c35 => ?_) (fun c35 => ?_)
      · have hV := hV.1 c35
        refine g_iconst (pc := 332) (v := (0 : Int32)) X dX12_window_332 (by decide) ?_
        refine g_lv [3, 5, 6, 7, 8, 2, 1, 0] rfl ?_
        exact W_X12_window_333 X Tt hR hL149 hL362 hL547 hV
      · have hV := hV.2 c35
        refine g_iconst (pc := 328) (v := (1 : Int32)) X dX12_window_328 (by decide) ?_
        refine g_goto (pc := 329) X 333 dX12_window_329 (by decide) ?_
        refine g_lv [3, 5, 6, 7, 8, 2, 1, 0] rfl ?_
        exact W_X12_window_333 X Tt hR hL149 hL362 hL547 hV
    · have hV := hV.2 c11
      refine g_aload_n (pc := 282) X 0 rfl rfl dX12_window_282 ?_
      refine g_bipush (pc := 283) (v := (9 : Int32)) X dX12_window_283 (by decide) ?_
      refine g_aload_n (pc := 285) X 0 rfl rfl dX12_window_285 ?_
      refine g_getI (pc := 286) X fl_X12_150 q1 dX12_window_286 ?_
      obtain ⟨P36, t37, hV⟩ := hV
      refine g_cVI (pc := 289) X (As := [Value.int (9 : Int32), Value.int (h5.1 x0 14)]) ml_X12_153 rfl q1 t37 (by rw [hR]; exact ⟨by decide, by decide, by decide, by decide⟩) rfl rfl (Nat.zero_le _) dX12_window_289 (fun v40 h39 p38 => ?_)
      have hV := hV v40 h39 p38
      refine g_pop (pc := 292) X dX12_window_292 (rfl) ?_
      exact g_vret (pc := 293) X Tt ⟨rfl, rfl, hV⟩ dX12_window_293
  · have hV := hV.2 c7
    exact g_vret (pc := 269) X Tt ⟨rfl, rfl, hV⟩ dX12_window_269
def V_X12_window_202 (w : Wd) (sh : List Sh) (x0 : Nat) (x1 : Int32) (h : Hp) (L149 : Nat → Int32 → Int64 → Int32 → Hp → Prop) (L362 : Nat → Int32 → Int64 → Int32 → Int64 → Int64 → Int64 → Int64 → Int32 → Int32 → Int64 → Int32 → Hp → Prop) (L547 : Nat → Int64 → Int32 → Hp → Prop) (RET : Hp → Prop) : Prop :=
  shAt sh x0 = some (.inr 12) ∧ (∀ y2 : Int32, y2 = (h.1 x0 14) → (∃ P4 : Int64 → Hp → Prop, C_X12_headBig w sh x0 h P4 ∧ (∀ (v8 : Int64) (h7 : Hp), P4 v8 h7 → (∀ y9 : Int64, y9 = v8 → (∀ y11 : Int32, y11 = (h7.1 x0 14) → (∀ y13 : Int32, y13 = (h7.1 x0 14) → (∃ P15 : Int64 → Hp → Prop, C_X12_headBig w sh x0 h7 P15 ∧ (∀ (v19 : Int64) (h18 : Hp), P15 v19 h18 → (∀ y20 : Int64, y20 = v19 → (((¬ (h18.1 x0 6) = 0) → (V_X12_window_261 w sh x0 x1 y2 y9 y11 y20 h18 L149 L362 L547 RET)) ∧ (((h18.1 x0 6) = 0) → ((((lg_cmp (((h18.1 x0 23).toInt64) + y20) (8000 : Int64)) ≤ 0) → (V_X12_window_261 w sh x0 x1 y2 y9 y11 y20 h18 L149 L362 L547 RET)) ∧ ((¬ (lg_cmp (((h18.1 x0 23).toInt64) + y20) (8000 : Int64)) ≤ 0) → (∃ P24 : Int32 → Hp → Prop, C_X12_fails w sh x0 (10 : Int32) y13 h18 P24 ∧ (∀ (v28 : Int32) (h27 : Hp), P24 v28 h27 → (V_X12_window_261 w sh x0 x1 y2 y9 y11 y20 h27 L149 L362 L547 RET))))))))))))))))
set_option maxRecDepth 20000 in
set_option maxHeartbeats 4000000 in
theorem W_X12_window_202 {w : Wd} {E : GE} {sh : List Sh} {x0 : Nat} {x1 : Int32} {h : Hp} {L149 : Nat → Int32 → Int64 → Int32 → Hp → Prop} {L362 : Nat → Int32 → Int64 → Int32 → Int64 → Int64 → Int64 → Int64 → Int32 → Int32 → Int64 → Int32 → Hp → Prop} {L547 : Nat → Int64 → Int32 → Hp → Prop} {RET : Hp → Prop} (X : Cx w E cX12_window 20 RX12) (Tt : Rt w E none sh.length 0 0 (fun q sh9 h9 => q = none ∧ sh9 = sh ∧ RET h9)) (hR : gR E = { frames := 4, cells := 0, slots := 0, locals := 110 }) (hL149 : ∀ (x0 : Nat) (x1 : Int32) (x5 : Int64) (x7 : Int32) (h : Hp), L149 x0 x1 x5 x7 h → G w E 20 149 [(0, rv w.2.2.2 x0), (1, Value.int x1), (5, Value.long x5), (7, Value.int x7)] [] sh h 0 0) (hL362 : ∀ (x0 : Nat) (x2 : Int32) (x3 : Int64) (x5 : Int32) (x7 : Int64) (x9 : Int64) (x11 : Int64) (x13 : Int64) (x15 : Int32) (x16 : Int32) (x17 : Int64) (x19 : Int32) (h : Hp), L362 x0 x2 x3 x5 x7 x9 x11 x13 x15 x16 x17 x19 h → G w E 20 362 [(0, rv w.2.2.2 x0), (2, Value.int x2), (3, Value.long x3), (5, Value.int x5), (7, Value.long x7), (9, Value.long x9), (11, Value.long x11), (13, Value.long x13), (15, Value.int x15), (16, Value.int x16), (17, Value.long x17), (19, Value.int x19)] [] sh h 0 0) (hL547 : ∀ (x0 : Nat) (x7 : Int64) (x19 : Int32) (h : Hp), L547 x0 x7 x19 h → G w E 20 547 [(0, rv w.2.2.2 x0), (7, Value.long x7), (19, Value.int x19)] [] sh h 0 0) (hV : V_X12_window_202 w sh x0 x1 h L149 L362 L547 RET) : G w E 20 202 [(0, rv w.2.2.2 x0), (1, Value.int x1)] [] sh h 0 0 := by
  unfold V_X12_window_202 at hV
  refine g_aload_n (pc := 202) X 0 rfl rfl dX12_window_202 ?_
  obtain ⟨q1, hV⟩ := hV
  refine g_getI (pc := 203) X fl_X12_150 q1 dX12_window_203 ?_
  refine g_istore_n (pc := 206) X (i := 2) (rest := [(0, rv w.2.2.2 x0), (1, Value.int x1)]) rfl (by decide) rfl dX12_window_206 (fun y2 e3 => ?_)
  have hV := hV y2 e3
  refine g_aload_n (pc := 207) X 1 rfl rfl dX12_window_207 ?_
  obtain ⟨P4, t5, hV⟩ := hV
  refine g_cVJ (pc := 208) X (As := []) ml_X12_176 rfl q1 t5 (by rw [hR]; exact ⟨by decide, by decide, by decide, by decide⟩) rfl rfl (Nat.zero_le _) dX12_window_208 (fun v8 h7 p6 => ?_)
  have hV := hV v8 h7 p6
  refine g_lstore_n (pc := 211) X (i := 3) (rest := [(2, Value.int y2), (0, rv w.2.2.2 x0), (1, Value.int x1)]) rfl (by decide) rfl dX12_window_211 (fun y9 e10 => ?_)
  have hV := hV y9 e10
  refine g_aload_n (pc := 212) X 2 rfl rfl dX12_window_212 ?_
  refine g_getI (pc := 213) X fl_X12_150 q1 dX12_window_213 ?_
  refine g_istore (pc := 216) X (i := 5) (rest := [(3, Value.long y9), (2, Value.int y2), (0, rv w.2.2.2 x0), (1, Value.int x1)]) (by decide) rfl dX12_window_216 (fun y11 e12 => ?_)
  have hV := hV y11 e12
  refine g_aload_n (pc := 218) X 3 rfl rfl dX12_window_218 ?_
  refine g_getI (pc := 219) X fl_X12_150 q1 dX12_window_219 ?_
  refine g_istore (pc := 222) X (i := 6) (rest := [(5, Value.int y11), (3, Value.long y9), (2, Value.int y2), (0, rv w.2.2.2 x0), (1, Value.int x1)]) (by decide) rfl dX12_window_222 (fun y13 e14 => ?_)
  have hV := hV y13 e14
  refine g_aload_n (pc := 224) X 4 rfl rfl dX12_window_224 ?_
  obtain ⟨P15, t16, hV⟩ := hV
  refine g_cVJ (pc := 225) X (As := []) ml_X12_176 rfl q1 t16 (by rw [hR]; exact ⟨by decide, by decide, by decide, by decide⟩) rfl rfl (Nat.zero_le _) dX12_window_225 (fun v19 h18 p17 => ?_)
  have hV := hV v19 h18 p17
  refine g_lstore (pc := 228) X (i := 7) (rest := [(6, Value.int y13), (5, Value.int y11), (3, Value.long y9), (2, Value.int y2), (0, rv w.2.2.2 x0), (1, Value.int x1)]) (by decide) rfl dX12_window_228 (fun y20 e21 => ?_)
  have hV := hV y20 e21
  refine g_aload_n (pc := 230) X 5 rfl rfl dX12_window_230 ?_
  refine g_getI (pc := 231) X fl_X12_141 q1 dX12_window_231 ?_
  refine g_if_ne (pc := 234) X 261 dX12_window_234 (by decide) (fun c22 => ?_) (fun c22 => ?_)
  · have hV := hV.1 c22
    refine g_lv [5, 6, 4, 3, 2, 0] rfl ?_
    exact W_X12_window_261 X Tt hR hL149 hL362 hL547 hV
  · have hV := hV.2 c22
    refine g_aload_n (pc := 237) X 5 rfl rfl dX12_window_237 ?_
    refine g_getI (pc := 238) X fl_X12_204 q1 dX12_window_238 ?_
    refine g_i2l (pc := 241) X dX12_window_241 ?_
    refine g_lload (pc := 242) X 0 rfl dX12_window_242 ?_
    refine g_ladd (pc := 244) X dX12_window_244 ?_
    refine g_ldc2 (pc := 245) X kc_X12_222 dX12_window_245 ?_
    refine g_lcmp (pc := 248) X dX12_window_248 ?_
    refine g_if_le (pc := 249) X 261 dX12_window_249 (by decide) (fun c23 => ?_) (fun c23 => ?_)
    · have hV := hV.1 c23
      refine g_lv [5, 6, 4, 3, 2, 0] rfl ?_
      exact W_X12_window_261 X Tt hR hL149 hL362 hL547 hV
    · have hV := hV.2 c23
      refine g_aload_n (pc := 252) X 5 rfl rfl dX12_window_252 ?_
      refine g_bipush (pc := 253) (v := (10 : Int32)) X dX12_window_253 (by decide) ?_
      refine g_iload (pc := 255) X 1 rfl dX12_window_255 ?_
      obtain ⟨P24, t25, hV⟩ := hV
      refine g_cVI (pc := 257) X (As := [Value.int (10 : Int32), Value.int y13]) ml_X12_153 rfl q1 t25 (by rw [hR]; exact ⟨by decide, by decide, by decide, by decide⟩) rfl rfl (Nat.zero_le _) dX12_window_257 (fun v28 h27 p26 => ?_)
      have hV := hV v28 h27 p26
      refine g_pop (pc := 260) X dX12_window_260 (rfl) ?_
      refine g_lv [5, 6, 4, 3, 2, 0] rfl ?_
      exact W_X12_window_261 X Tt hR hL149 hL362 hL547 hV
def V_X12_window_195 (w : Wd) (sh : List Sh) (x0 : Nat) (x1 : Int32) (x5 : Int64) (x7 : Int32) (s0 : Int32) (s1 : Int32) (s2 : Nat) (h : Hp) (L149 : Nat → Int32 → Int64 → Int32 → Hp → Prop) (L362 : Nat → Int32 → Int64 → Int32 → Int64 → Int64 → Int64 → Int64 → Int32 → Int32 → Int64 → Int32 → Hp → Prop) (L547 : Nat → Int64 → Int32 → Hp → Prop) (RET : Hp → Prop) : Prop :=
  ∃ n2 : Nat, shAt sh s2 = some (.inl (0, n2)) ∧ (vp_in s1 n2 ∧ (∀ h4 : Hp, h4 = wI h s2 s1.toNatClampNeg s0 → (∀ y6 : Int32, y6 = x7 + (1 : Int32) → (L149 x0 x1 x5 y6 h4))))
set_option maxRecDepth 20000 in
set_option maxHeartbeats 4000000 in
theorem W_X12_window_195 {w : Wd} {E : GE} {sh : List Sh} {x0 : Nat} {x1 : Int32} {x5 : Int64} {x7 : Int32} {s0 : Int32} {s1 : Int32} {s2 : Nat} {h : Hp} {L149 : Nat → Int32 → Int64 → Int32 → Hp → Prop} {L362 : Nat → Int32 → Int64 → Int32 → Int64 → Int64 → Int64 → Int64 → Int32 → Int32 → Int64 → Int32 → Hp → Prop} {L547 : Nat → Int64 → Int32 → Hp → Prop} {RET : Hp → Prop} (X : Cx w E cX12_window 20 RX12) (Tt : Rt w E none sh.length 0 0 (fun q sh9 h9 => q = none ∧ sh9 = sh ∧ RET h9)) (hR : gR E = { frames := 4, cells := 0, slots := 0, locals := 110 }) (hL149 : ∀ (x0 : Nat) (x1 : Int32) (x5 : Int64) (x7 : Int32) (h : Hp), L149 x0 x1 x5 x7 h → G w E 20 149 [(0, rv w.2.2.2 x0), (1, Value.int x1), (5, Value.long x5), (7, Value.int x7)] [] sh h 0 0) (hL362 : ∀ (x0 : Nat) (x2 : Int32) (x3 : Int64) (x5 : Int32) (x7 : Int64) (x9 : Int64) (x11 : Int64) (x13 : Int64) (x15 : Int32) (x16 : Int32) (x17 : Int64) (x19 : Int32) (h : Hp), L362 x0 x2 x3 x5 x7 x9 x11 x13 x15 x16 x17 x19 h → G w E 20 362 [(0, rv w.2.2.2 x0), (2, Value.int x2), (3, Value.long x3), (5, Value.int x5), (7, Value.long x7), (9, Value.long x9), (11, Value.long x11), (13, Value.long x13), (15, Value.int x15), (16, Value.int x16), (17, Value.long x17), (19, Value.int x19)] [] sh h 0 0) (hL547 : ∀ (x0 : Nat) (x7 : Int64) (x19 : Int32) (h : Hp), L547 x0 x7 x19 h → G w E 20 547 [(0, rv w.2.2.2 x0), (7, Value.long x7), (19, Value.int x19)] [] sh h 0 0) (hV : V_X12_window_195 w sh x0 x1 x5 x7 s0 s1 s2 h L149 L362 L547 RET) : G w E 20 195 [(0, rv w.2.2.2 x0), (1, Value.int x1), (5, Value.long x5), (7, Value.int x7)] [Value.int s0, Value.int s1, rv w.2.2.2 s2] sh h 0 0 := by
  unfold V_X12_window_195 at hV
  obtain ⟨n2, q1, hV⟩ := hV
  obtain ⟨q3, hV⟩ := hV
  refine g_bast (pc := 195) X q1 q3 dX12_window_195 (fun h4 e5 => ?_)
  have hV := hV h4 e5
  refine g_iinc (pc := 196) X 3 (v := (1 : Int32)) (rest := [(0, rv w.2.2.2 x0), (1, Value.int x1), (5, Value.long x5)]) rfl (by decide) rfl (by decide) dX12_window_196 (fun y6 e7 => ?_)
  have hV := hV y6 e7
  refine g_goto (pc := 199) X 149 dX12_window_199 (by decide) ?_
  refine g_lv [1, 2, 3, 0] rfl ?_
  exact hL149 x0 x1 x5 y6 h4 hV
def V_X12_window_149 (w : Wd) (sh : List Sh) (x0 : Nat) (x1 : Int32) (x5 : Int64) (x7 : Int32) (h : Hp) (L149 : Nat → Int32 → Int64 → Int32 → Hp → Prop) (L362 : Nat → Int32 → Int64 → Int32 → Int64 → Int64 → Int64 → Int64 → Int32 → Int32 → Int64 → Int32 → Hp → Prop) (L547 : Nat → Int64 → Int32 → Hp → Prop) (RET : Hp → Prop) : Prop :=
  shAt sh x0 = some (.inr 12) ∧ ((((h.1 x0 25) ≤ x7) → (V_X12_window_202 w sh x0 x1 h L149 L362 L547 RET)) ∧ ((¬ (h.1 x0 25) ≤ x7) → ((((x1 &&& (1 : Int32)) ≤ 0) → (∃ n5 : Nat, shAt sh (h.2.1 x0 22) = some (.inl (0, n5)) ∧ (vp_in ((x5.toInt32) + x7) n5 ∧ (V_X12_window_195 w sh x0 x1 x5 x7 (b8 (h.1 (h.2.1 x0 22) ((x5.toInt32) + x7).toNatClampNeg)) x7 (h.2.1 x0 24) h L149 L362 L547 RET)))) ∧ ((¬ (x1 &&& (1 : Int32)) ≤ 0) → (∃ n8 : Nat, shAt sh (h.2.1 x0 16) = some (.inl (0, n8)) ∧ (vp_in ((x5.toInt32) + x7) n8 ∧ (V_X12_window_195 w sh x0 x1 x5 x7 (b8 (h.1 (h.2.1 x0 16) ((x5.toInt32) + x7).toNatClampNeg)) x7 (h.2.1 x0 24) h L149 L362 L547 RET)))))))
set_option maxRecDepth 20000 in
set_option maxHeartbeats 4000000 in
theorem W_X12_window_149 {w : Wd} {E : GE} {sh : List Sh} {x0 : Nat} {x1 : Int32} {x5 : Int64} {x7 : Int32} {h : Hp} {L149 : Nat → Int32 → Int64 → Int32 → Hp → Prop} {L362 : Nat → Int32 → Int64 → Int32 → Int64 → Int64 → Int64 → Int64 → Int32 → Int32 → Int64 → Int32 → Hp → Prop} {L547 : Nat → Int64 → Int32 → Hp → Prop} {RET : Hp → Prop} (X : Cx w E cX12_window 20 RX12) (Tt : Rt w E none sh.length 0 0 (fun q sh9 h9 => q = none ∧ sh9 = sh ∧ RET h9)) (hR : gR E = { frames := 4, cells := 0, slots := 0, locals := 110 }) (hL149 : ∀ (x0 : Nat) (x1 : Int32) (x5 : Int64) (x7 : Int32) (h : Hp), L149 x0 x1 x5 x7 h → G w E 20 149 [(0, rv w.2.2.2 x0), (1, Value.int x1), (5, Value.long x5), (7, Value.int x7)] [] sh h 0 0) (hL362 : ∀ (x0 : Nat) (x2 : Int32) (x3 : Int64) (x5 : Int32) (x7 : Int64) (x9 : Int64) (x11 : Int64) (x13 : Int64) (x15 : Int32) (x16 : Int32) (x17 : Int64) (x19 : Int32) (h : Hp), L362 x0 x2 x3 x5 x7 x9 x11 x13 x15 x16 x17 x19 h → G w E 20 362 [(0, rv w.2.2.2 x0), (2, Value.int x2), (3, Value.long x3), (5, Value.int x5), (7, Value.long x7), (9, Value.long x9), (11, Value.long x11), (13, Value.long x13), (15, Value.int x15), (16, Value.int x16), (17, Value.long x17), (19, Value.int x19)] [] sh h 0 0) (hL547 : ∀ (x0 : Nat) (x7 : Int64) (x19 : Int32) (h : Hp), L547 x0 x7 x19 h → G w E 20 547 [(0, rv w.2.2.2 x0), (7, Value.long x7), (19, Value.int x19)] [] sh h 0 0) (hV : V_X12_window_149 w sh x0 x1 x5 x7 h L149 L362 L547 RET) : G w E 20 149 [(0, rv w.2.2.2 x0), (1, Value.int x1), (5, Value.long x5), (7, Value.int x7)] [] sh h 0 0 := by
  unfold V_X12_window_149 at hV
  refine g_iload (pc := 149) X 3 rfl dX12_window_149 ?_
  refine g_aload_n (pc := 151) X 0 rfl rfl dX12_window_151 ?_
  obtain ⟨q1, hV⟩ := hV
  refine g_getI (pc := 152) X fl_X12_219 q1 dX12_window_152 ?_
  refine g_icmp_ge (pc := 155) X 202 dX12_window_155 (by decide) (fun c2 => ?_) (fun c2 => ?_)
  · have hV := hV.1 c2
    refine g_lv [0, 1] rfl ?_
    exact W_X12_window_202 X Tt hR hL149 hL362 hL547 hV
  · have hV := hV.2 c2
    refine g_aload_n (pc := 158) X 0 rfl rfl dX12_window_158 ?_
    refine g_getR (pc := 159) X fl_X12_51 q1 dX12_window_159 ?_
    refine g_iload (pc := 162) X 3 rfl dX12_window_162 ?_
    refine g_iload_n (pc := 164) X 1 rfl rfl dX12_window_164 ?_
    refine g_iconst (pc := 165) (v := (1 : Int32)) X dX12_window_165 (by decide) ?_
    refine g_iand (pc := 166) X dX12_window_166 ?_
    refine g_if_le (pc := 167) X 184 dX12_window_167 (by decide) (fun c3 => ?_) (fun c3 => ?_)
    · have hV := hV.1 c3
      refine g_aload_n (pc := 184) X 0 rfl rfl dX12_window_184 ?_
      refine g_getR (pc := 185) X fl_X12_48 q1 dX12_window_185 ?_
      refine g_lload (pc := 188) X 2 rfl dX12_window_188 ?_
      refine g_l2i (pc := 190) X dX12_window_190 ?_
      refine g_iload (pc := 191) X 3 rfl dX12_window_191 ?_
      refine g_iadd (pc := 193) X dX12_window_193 ?_
      obtain ⟨n5, q4, hV⟩ := hV
      obtain ⟨q6, hV⟩ := hV
      refine g_bald (pc := 194) X q4 q6 dX12_window_194 ?_
      exact W_X12_window_195 X Tt hR hL149 hL362 hL547 hV
    · have hV := hV.2 c3
      refine g_aload_n (pc := 170) X 0 rfl rfl dX12_window_170 ?_
      refine g_getR (pc := 171) X fl_X12_39 q1 dX12_window_171 ?_
      refine g_lload (pc := 174) X 2 rfl dX12_window_174 ?_
      refine g_l2i (pc := 176) X dX12_window_176 ?_
      refine g_iload (pc := 177) X 3 rfl dX12_window_177 ?_
      refine g_iadd (pc := 179) X dX12_window_179 ?_
      obtain ⟨n8, q7, hV⟩ := hV
      obtain ⟨q9, hV⟩ := hV
      refine g_bald (pc := 180) X q7 q9 dX12_window_180 ?_
      refine g_goto (pc := 181) X 195 dX12_window_181 (by decide) ?_
      exact W_X12_window_195 X Tt hR hL149 hL362 hL547 hV
def V_X12_window_126 (w : Wd) (sh : List Sh) (x0 : Nat) (x1 : Int32) (x2 : Int32) (x3 : Int64) (x5 : Int64) (s0 : Int32) (s1 : Int64) (h : Hp) (L149 : Nat → Int32 → Int64 → Int32 → Hp → Prop) (L362 : Nat → Int32 → Int64 → Int32 → Int64 → Int64 → Int64 → Int64 → Int32 → Int32 → Int64 → Int32 → Hp → Prop) (L547 : Nat → Int64 → Int32 → Hp → Prop) (RET : Hp → Prop) : Prop :=
  (((lg_cmp s1 (s0.toInt64)) ≤ 0) → (shAt sh x0 = some (.inr 12) ∧ (∀ h3 : Hp, h3 = wI h x0 25 (x3.toInt32) → (∀ y5 : Int32, y5 = (0 : Int32) → (L149 x0 x1 x5 y5 h3))))) ∧ ((¬ (lg_cmp s1 (s0.toInt64)) ≤ 0) → (shAt sh x0 = some (.inr 12) ∧ (∃ P8 : Int32 → Hp → Prop, C_X12_fails w sh x0 (7 : Int32) x2 h P8 ∧ (∀ (v12 : Int32) (h11 : Hp), P8 v12 h11 → (RET h11)))))
set_option maxRecDepth 20000 in
set_option maxHeartbeats 4000000 in
theorem W_X12_window_126 {w : Wd} {E : GE} {sh : List Sh} {x0 : Nat} {x1 : Int32} {x2 : Int32} {x3 : Int64} {x5 : Int64} {s0 : Int32} {s1 : Int64} {h : Hp} {L149 : Nat → Int32 → Int64 → Int32 → Hp → Prop} {L362 : Nat → Int32 → Int64 → Int32 → Int64 → Int64 → Int64 → Int64 → Int32 → Int32 → Int64 → Int32 → Hp → Prop} {L547 : Nat → Int64 → Int32 → Hp → Prop} {RET : Hp → Prop} (X : Cx w E cX12_window 20 RX12) (Tt : Rt w E none sh.length 0 0 (fun q sh9 h9 => q = none ∧ sh9 = sh ∧ RET h9)) (hR : gR E = { frames := 4, cells := 0, slots := 0, locals := 110 }) (hL149 : ∀ (x0 : Nat) (x1 : Int32) (x5 : Int64) (x7 : Int32) (h : Hp), L149 x0 x1 x5 x7 h → G w E 20 149 [(0, rv w.2.2.2 x0), (1, Value.int x1), (5, Value.long x5), (7, Value.int x7)] [] sh h 0 0) (hL362 : ∀ (x0 : Nat) (x2 : Int32) (x3 : Int64) (x5 : Int32) (x7 : Int64) (x9 : Int64) (x11 : Int64) (x13 : Int64) (x15 : Int32) (x16 : Int32) (x17 : Int64) (x19 : Int32) (h : Hp), L362 x0 x2 x3 x5 x7 x9 x11 x13 x15 x16 x17 x19 h → G w E 20 362 [(0, rv w.2.2.2 x0), (2, Value.int x2), (3, Value.long x3), (5, Value.int x5), (7, Value.long x7), (9, Value.long x9), (11, Value.long x11), (13, Value.long x13), (15, Value.int x15), (16, Value.int x16), (17, Value.long x17), (19, Value.int x19)] [] sh h 0 0) (hL547 : ∀ (x0 : Nat) (x7 : Int64) (x19 : Int32) (h : Hp), L547 x0 x7 x19 h → G w E 20 547 [(0, rv w.2.2.2 x0), (7, Value.long x7), (19, Value.int x19)] [] sh h 0 0) (hV : V_X12_window_126 w sh x0 x1 x2 x3 x5 s0 s1 h L149 L362 L547 RET) : G w E 20 126 [(0, rv w.2.2.2 x0), (1, Value.int x1), (2, Value.int x2), (3, Value.long x3), (5, Value.long x5)] [Value.int s0, Value.long s1] sh h 0 0 := by
  unfold V_X12_window_126 at hV
  refine g_i2l (pc := 126) X dX12_window_126 ?_
  refine g_lcmp (pc := 127) X dX12_window_127 ?_
  refine g_if_le (pc := 128) X 140 dX12_window_128 (by decide) (fun c1 => ?_) (fun c1 => ?_)
  · have hV := hV.1 c1
    refine g_aload_n (pc := 140) X 0 rfl rfl dX12_window_140 ?_
    refine g_lload_n (pc := 141) X 3 rfl rfl dX12_window_141 ?_
    refine g_l2i (pc := 142) X dX12_window_142 ?_
    obtain ⟨q2, hV⟩ := hV
    refine g_putI (pc := 143) X fl_X12_219 q2 rfl rfl dX12_window_143 (fun h3 e4 => ?_)
    have hV := hV h3 e4
    refine g_iconst (pc := 146) (v := (0 : Int32)) X dX12_window_146 (by decide) ?_
    refine g_istore (pc := 147) X (i := 7) (rest := [(0, rv w.2.2.2 x0), (1, Value.int x1), (2, Value.int x2), (3, Value.long x3), (5, Value.long x5)]) (by decide) rfl dX12_window_147 (fun y5 e6 => ?_)
    have hV := hV y5 e6
    refine g_lv [1, 2, 5, 0] rfl ?_
    exact hL149 x0 x1 x5 y5 h3 hV
  · have hV := hV.2 c1
    refine g_aload_n (pc := 131) X 0 rfl rfl dX12_window_131 ?_
    refine g_bipush (pc := 132) (v := (7 : Int32)) X dX12_window_132 (by decide) ?_
    refine g_iload_n (pc := 134) X 2 rfl rfl dX12_window_134 ?_
    obtain ⟨q7, hV⟩ := hV
    obtain ⟨P8, t9, hV⟩ := hV
    refine g_cVI (pc := 135) X (As := [Value.int (7 : Int32), Value.int x2]) ml_X12_153 rfl q7 t9 (by rw [hR]; exact ⟨by decide, by decide, by decide, by decide⟩) rfl rfl (Nat.zero_le _) dX12_window_135 (fun v12 h11 p10 => ?_)
    have hV := hV v12 h11 p10
    refine g_pop (pc := 138) X dX12_window_138 (rfl) ?_
    exact g_vret (pc := 139) X Tt ⟨rfl, rfl, hV⟩ dX12_window_139
def V_X12_window_68 (w : Wd) (sh : List Sh) (x0 : Nat) (x1 : Int32) (s0 : Int32) (s1 : Int32) (s2 : Int32) (s3 : Nat) (h : Hp) (L149 : Nat → Int32 → Int64 → Int32 → Hp → Prop) (L362 : Nat → Int32 → Int64 → Int32 → Int64 → Int64 → Int64 → Int64 → Int32 → Int32 → Int64 → Int32 → Hp → Prop) (L547 : Nat → Int64 → Int32 → Hp → Prop) (RET : Hp → Prop) : Prop :=
  ∃ n2 : Nat, shAt sh s3 = some (.inl (1, n2)) ∧ (vp_in s2 n2 ∧ (∀ h4 : Hp, h4 = wI h s3 s2.toNatClampNeg (s1 + s0) → (shAt sh x0 = some (.inr 12) ∧ (∀ h7 : Hp, h7 = wI h4 x0 25 (0 : Int32) → ((((x1 &&& (3 : Int32)) ≤ 0) → (V_X12_window_202 w sh x0 x1 h7 L149 L362 L547 RET)) ∧ ((¬ (x1 &&& (3 : Int32)) ≤ 0) → (∀ y10 : Int32, y10 = (h7.1 x0 14) → (∃ P12 : Int64 → Hp → Prop, C_X12_headBig w sh x0 h7 P12 ∧ (∀ (v16 : Int64) (h15 : Hp), P12 v16 h15 → (∀ y17 : Int64, y17 = v16 → (∃ P19 : Int64 → Hp → Prop, C_X12_headBig w sh x0 h15 P19 ∧ (∀ (v23 : Int64) (h22 : Hp), P19 v23 h22 → (∀ y24 : Int64, y24 = v23 → ((((h22.1 x0 6) ≤ 0) → ((((x1 &&& (1 : Int32)) ≤ 0) → (V_X12_window_126 w sh x0 x1 y10 y17 y24 (h22.1 x0 23) (y17 + y24) h22 L149 L362 L547 RET)) ∧ ((¬ (x1 &&& (1 : Int32)) ≤ 0) → (V_X12_window_126 w sh x0 x1 y10 y17 y24 (h22.1 x0 17) (y17 + y24) h22 L149 L362 L547 RET)))) ∧ ((¬ (h22.1 x0 6) ≤ 0) → (RET h22))))))))))))))))
set_option maxRecDepth 20000 in
set_option maxHeartbeats 4000000 in
theorem W_X12_window_68 {w : Wd} {E : GE} {sh : List Sh} {x0 : Nat} {x1 : Int32} {s0 : Int32} {s1 : Int32} {s2 : Int32} {s3 : Nat} {h : Hp} {L149 : Nat → Int32 → Int64 → Int32 → Hp → Prop} {L362 : Nat → Int32 → Int64 → Int32 → Int64 → Int64 → Int64 → Int64 → Int32 → Int32 → Int64 → Int32 → Hp → Prop} {L547 : Nat → Int64 → Int32 → Hp → Prop} {RET : Hp → Prop} (X : Cx w E cX12_window 20 RX12) (Tt : Rt w E none sh.length 0 0 (fun q sh9 h9 => q = none ∧ sh9 = sh ∧ RET h9)) (hR : gR E = { frames := 4, cells := 0, slots := 0, locals := 110 }) (hL149 : ∀ (x0 : Nat) (x1 : Int32) (x5 : Int64) (x7 : Int32) (h : Hp), L149 x0 x1 x5 x7 h → G w E 20 149 [(0, rv w.2.2.2 x0), (1, Value.int x1), (5, Value.long x5), (7, Value.int x7)] [] sh h 0 0) (hL362 : ∀ (x0 : Nat) (x2 : Int32) (x3 : Int64) (x5 : Int32) (x7 : Int64) (x9 : Int64) (x11 : Int64) (x13 : Int64) (x15 : Int32) (x16 : Int32) (x17 : Int64) (x19 : Int32) (h : Hp), L362 x0 x2 x3 x5 x7 x9 x11 x13 x15 x16 x17 x19 h → G w E 20 362 [(0, rv w.2.2.2 x0), (2, Value.int x2), (3, Value.long x3), (5, Value.int x5), (7, Value.long x7), (9, Value.long x9), (11, Value.long x11), (13, Value.long x13), (15, Value.int x15), (16, Value.int x16), (17, Value.long x17), (19, Value.int x19)] [] sh h 0 0) (hL547 : ∀ (x0 : Nat) (x7 : Int64) (x19 : Int32) (h : Hp), L547 x0 x7 x19 h → G w E 20 547 [(0, rv w.2.2.2 x0), (7, Value.long x7), (19, Value.int x19)] [] sh h 0 0) (hV : V_X12_window_68 w sh x0 x1 s0 s1 s2 s3 h L149 L362 L547 RET) : G w E 20 68 [(0, rv w.2.2.2 x0), (1, Value.int x1)] [Value.int s0, Value.int s1, Value.int s2, rv w.2.2.2 s3] sh h 0 0 := by
  unfold V_X12_window_68 at hV
  refine g_iadd (pc := 68) X dX12_window_68 ?_
  obtain ⟨n2, q1, hV⟩ := hV
  obtain ⟨q3, hV⟩ := hV
  refine g_iast (pc := 69) X q1 q3 dX12_window_69 (fun h4 e5 => ?_)
  have hV := hV h4 e5
  refine g_aload_n (pc := 70) X 0 rfl rfl dX12_window_70 ?_
  refine g_iconst (pc := 71) (v := (0 : Int32)) X dX12_window_71 (by decide) ?_
  obtain ⟨q6, hV⟩ := hV
  refine g_putI (pc := 72) X fl_X12_219 q6 rfl rfl dX12_window_72 (fun h7 e8 => ?_)
  have hV := hV h7 e8
  refine g_iload_n (pc := 75) X 1 rfl rfl dX12_window_75 ?_
  refine g_iconst (pc := 76) (v := (3 : Int32)) X dX12_window_76 (by decide) ?_
  refine g_iand (pc := 77) X dX12_window_77 ?_
  refine g_if_le (pc := 78) X 202 dX12_window_78 (by decide) (fun c9 => ?_) (fun c9 => ?_)
  · have hV := hV.1 c9
    exact W_X12_window_202 X Tt hR hL149 hL362 hL547 hV
  · have hV := hV.2 c9
    refine g_aload_n (pc := 81) X 0 rfl rfl dX12_window_81 ?_
    refine g_getI (pc := 82) X fl_X12_150 q6 dX12_window_82 ?_
    refine g_istore_n (pc := 85) X (i := 2) (rest := [(0, rv w.2.2.2 x0), (1, Value.int x1)]) rfl (by decide) rfl dX12_window_85 (fun y10 e11 => ?_)
    have hV := hV y10 e11
    refine g_aload_n (pc := 86) X 1 rfl rfl dX12_window_86 ?_
    obtain ⟨P12, t13, hV⟩ := hV
    refine g_cVJ (pc := 87) X (As := []) ml_X12_176 rfl q6 t13 (by rw [hR]; exact ⟨by decide, by decide, by decide, by decide⟩) rfl rfl (Nat.zero_le _) dX12_window_87 (fun v16 h15 p14 => ?_)
    have hV := hV v16 h15 p14
    refine g_lstore_n (pc := 90) X (i := 3) (rest := [(2, Value.int y10), (0, rv w.2.2.2 x0), (1, Value.int x1)]) rfl (by decide) rfl dX12_window_90 (fun y17 e18 => ?_)
    have hV := hV y17 e18
    refine g_aload_n (pc := 91) X 2 rfl rfl dX12_window_91 ?_
    obtain ⟨P19, t20, hV⟩ := hV
    refine g_cVJ (pc := 92) X (As := []) ml_X12_176 rfl q6 t20 (by rw [hR]; exact ⟨by decide, by decide, by decide, by decide⟩) rfl rfl (Nat.zero_le _) dX12_window_92 (fun v23 h22 p21 => ?_)
    have hV := hV v23 h22 p21
    refine g_lstore (pc := 95) X (i := 5) (rest := [(3, Value.long y17), (2, Value.int y10), (0, rv w.2.2.2 x0), (1, Value.int x1)]) (by decide) rfl dX12_window_95 (fun y24 e25 => ?_)
    have hV := hV y24 e25
    refine g_aload_n (pc := 97) X 3 rfl rfl dX12_window_97 ?_
    refine g_getI (pc := 98) X fl_X12_141 q6 dX12_window_98 ?_
    refine g_if_le (pc := 101) X 105 dX12_window_101 (by decide) (fun c26 => ?_) (fun c26 => ?_)
    · have hV := hV.1 c26
      refine g_lload_n (pc := 105) X 1 rfl rfl dX12_window_105 ?_
      refine g_lload (pc := 106) X 0 rfl dX12_window_106 ?_
      refine g_ladd (pc := 108) X dX12_window_108 ?_
      refine g_iload_n (pc := 109) X 4 rfl rfl dX12_window_109 ?_
      refine g_iconst (pc := 110) (v := (1 : Int32)) X dX12_window_110 (by decide) ?_
      refine g_iand (pc := 111) X dX12_window_111 ?_
      refine g_if_le (pc := 112) X 122 dX12_window_112 (by decide) (fun c27 => ?_) (fun c27 => ?_)
      · have hV := hV.1 c27
        refine g_aload_n (pc := 122) X 3 rfl rfl dX12_window_122 ?_
        refine g_getI (pc := 123) X fl_X12_204 q6 dX12_window_123 ?_
        refine g_lv [3, 4, 2, 1, 0] rfl ?_
        exact W_X12_window_126 X Tt hR hL149 hL362 hL547 hV
      · have hV := hV.2 c27
        refine g_aload_n (pc := 115) X 3 rfl rfl dX12_window_115 ?_
        refine g_getI (pc := 116) X fl_X12_201 q6 dX12_window_116 ?_
        refine g_goto (pc := 119) X 126 dX12_window_119 (by decide) ?_
        refine g_lv [3, 4, 2, 1, 0] rfl ?_
        exact W_X12_window_126 X Tt hR hL149 hL362 hL547 hV
    · have hV := hV.2 c26
      exact g_vret (pc := 104) X Tt ⟨rfl, rfl, hV⟩ dX12_window_104
def V_X12_window_0 (w : Wd) (sh : List Sh) (x0 : Nat) (h : Hp) (L149 : Nat → Int32 → Int64 → Int32 → Hp → Prop) (L362 : Nat → Int32 → Int64 → Int32 → Int64 → Int64 → Int64 → Int64 → Int32 → Int32 → Int64 → Int32 → Hp → Prop) (L547 : Nat → Int64 → Int32 → Hp → Prop) (RET : Hp → Prop) : Prop :=
  shAt sh x0 = some (.inr 12) ∧ (∃ n3 : Nat, shAt sh (h.2.1 x0 13) = some (.inl (0, n3)) ∧ (vp_in (h.1 x0 14) n3 ∧ (∀ y5 : Int32, y5 = ((b8 (h.1 (h.2.1 x0 13) (h.1 x0 14).toNatClampNeg)) &&& (255 : Int32)) → ((((7 : Int32) < y5) → (V_X12_window_27 w sh x0 h L149 L362 L547 RET)) ∧ ((¬ (7 : Int32) < y5) → (((¬ (y5 &&& (3 : Int32)) = (3 : Int32)) → (∀ h9 : Hp, h9 = wI h x0 14 ((h.1 x0 14) + (1 : Int32)) → (∃ n12 : Nat, shAt sh (h.2.1 x0 30) = some (.inl (1, n12)) ∧ (vp_in (0 : Int32) n12 ∧ ((((h9.1 x0 19) = 0) → (V_X12_window_68 w sh x0 y5 (0 : Int32) (h9.1 (h.2.1 x0 30) (0 : Int32).toNatClampNeg) (0 : Int32) (h.2.1 x0 30) h9 L149 L362 L547 RET)) ∧ ((¬ (h9.1 x0 19) = 0) → (V_X12_window_68 w sh x0 y5 (1 : Int32) (h9.1 (h.2.1 x0 30) (0 : Int32).toNatClampNeg) (0 : Int32) (h.2.1 x0 30) h9 L149 L362 L547 RET))))))) ∧ (((y5 &&& (3 : Int32)) = (3 : Int32)) → (V_X12_window_27 w sh x0 h L149 L362 L547 RET))))))))
set_option maxRecDepth 20000 in
set_option maxHeartbeats 4000000 in
theorem W_X12_window_0 {w : Wd} {E : GE} {sh : List Sh} {x0 : Nat} {h : Hp} {L149 : Nat → Int32 → Int64 → Int32 → Hp → Prop} {L362 : Nat → Int32 → Int64 → Int32 → Int64 → Int64 → Int64 → Int64 → Int32 → Int32 → Int64 → Int32 → Hp → Prop} {L547 : Nat → Int64 → Int32 → Hp → Prop} {RET : Hp → Prop} (X : Cx w E cX12_window 20 RX12) (Tt : Rt w E none sh.length 0 0 (fun q sh9 h9 => q = none ∧ sh9 = sh ∧ RET h9)) (hR : gR E = { frames := 4, cells := 0, slots := 0, locals := 110 }) (hL149 : ∀ (x0 : Nat) (x1 : Int32) (x5 : Int64) (x7 : Int32) (h : Hp), L149 x0 x1 x5 x7 h → G w E 20 149 [(0, rv w.2.2.2 x0), (1, Value.int x1), (5, Value.long x5), (7, Value.int x7)] [] sh h 0 0) (hL362 : ∀ (x0 : Nat) (x2 : Int32) (x3 : Int64) (x5 : Int32) (x7 : Int64) (x9 : Int64) (x11 : Int64) (x13 : Int64) (x15 : Int32) (x16 : Int32) (x17 : Int64) (x19 : Int32) (h : Hp), L362 x0 x2 x3 x5 x7 x9 x11 x13 x15 x16 x17 x19 h → G w E 20 362 [(0, rv w.2.2.2 x0), (2, Value.int x2), (3, Value.long x3), (5, Value.int x5), (7, Value.long x7), (9, Value.long x9), (11, Value.long x11), (13, Value.long x13), (15, Value.int x15), (16, Value.int x16), (17, Value.long x17), (19, Value.int x19)] [] sh h 0 0) (hL547 : ∀ (x0 : Nat) (x7 : Int64) (x19 : Int32) (h : Hp), L547 x0 x7 x19 h → G w E 20 547 [(0, rv w.2.2.2 x0), (7, Value.long x7), (19, Value.int x19)] [] sh h 0 0) (hV : V_X12_window_0 w sh x0 h L149 L362 L547 RET) : G w E 20 0 [(0, rv w.2.2.2 x0)] [] sh h 0 0 := by
  unfold V_X12_window_0 at hV
  refine g_aload_n (pc := 0) X 0 rfl rfl dX12_window_0 ?_
  obtain ⟨q1, hV⟩ := hV
  refine g_getR (pc := 1) X fl_X12_36 q1 dX12_window_1 ?_
  refine g_aload_n (pc := 4) X 0 rfl rfl dX12_window_4 ?_
  refine g_getI (pc := 5) X fl_X12_150 q1 dX12_window_5 ?_
  obtain ⟨n3, q2, hV⟩ := hV
  obtain ⟨q4, hV⟩ := hV
  refine g_bald (pc := 8) X q2 q4 dX12_window_8 ?_
  refine g_sipush (pc := 9) (v := (255 : Int32)) X dX12_window_9 (by decide) ?_
  refine g_iand (pc := 12) X dX12_window_12 ?_
  refine g_istore_n (pc := 13) X (i := 1) (rest := [(0, rv w.2.2.2 x0)]) rfl (by decide) (by simp [flt1, flt2, rv_cat, cat_int, cat_long]) dX12_window_13 (fun y5 e6 => ?_)
  have hV := hV y5 e6
  refine g_iload_n (pc := 14) X 0 rfl rfl dX12_window_14 ?_
  refine g_bipush (pc := 15) (v := (7 : Int32)) X dX12_window_15 (by decide) ?_
  refine g_icmp_gt (pc := 17) X 27 dX12_window_17 (by decide) (fun c7 => ?_) (fun c7 => ?_)
  · have hV := hV.1 c7
    refine g_lv [1] rfl ?_
    exact W_X12_window_27 X Tt hR hL149 hL362 hL547 hV
  · have hV := hV.2 c7
    refine g_iload_n (pc := 20) X 0 rfl rfl dX12_window_20 ?_
    refine g_iconst (pc := 21) (v := (3 : Int32)) X dX12_window_21 (by decide) ?_
    refine g_iand (pc := 22) X dX12_window_22 ?_
    refine g_iconst (pc := 23) (v := (3 : Int32)) X dX12_window_23 (by decide) ?_
    refine g_icmp_ne (pc := 24) X 39 dX12_window_24 (by decide) (fun c8 => ?_) (fun c8 => ?_)
    · have hV := hV.1 c8
      refine g_aload_n (pc := 39) X 1 rfl rfl dX12_window_39 ?_
      refine g_dup (pc := 40) X dX12_window_40 (rv_cat _ _) ?_
      refine g_getI (pc := 41) X fl_X12_150 q1 dX12_window_41 ?_
      refine g_iconst (pc := 44) (v := (1 : Int32)) X dX12_window_44 (by decide) ?_
      refine g_iadd (pc := 45) X dX12_window_45 ?_
      refine g_putI (pc := 46) X fl_X12_150 q1 rfl rfl dX12_window_46 (fun h9 e10 => ?_)
      have hV := hV h9 e10
      refine g_aload_n (pc := 49) X 1 rfl rfl dX12_window_49 ?_
      refine g_getRe (pc := 50) X fl_X12_61 q1 (congrFun (congrFun (rfI e10) _) _) dX12_window_50 ?_
      refine g_iconst (pc := 53) (v := (0 : Int32)) X dX12_window_53 (by decide) ?_
      refine g_dup2_11 (pc := 54) X dX12_window_54 (rfl) (rv_cat _ _) ?_
      obtain ⟨n12, q11, hV⟩ := hV
      obtain ⟨q13, hV⟩ := hV
      refine g_iald (pc := 55) X q11 q13 dX12_window_55 ?_
      refine g_aload_n (pc := 56) X 1 rfl rfl dX12_window_56 ?_
      refine g_getI (pc := 57) X fl_X12_180 q1 dX12_window_57 ?_
      refine g_if_eq (pc := 60) X 67 dX12_window_60 (by decide) (fun c14 => ?_) (fun c14 => ?_)
      · have hV := hV.1 c14
        refine g_iconst (pc := 67) (v := (0 : Int32)) X dX12_window_67 (by decide) ?_
        refine g_lv [1, 0] rfl ?_
        exact W_X12_window_68 X Tt hR hL149 hL362 hL547 hV
      · have hV := hV.2 c14
        refine g_iconst (pc := 63) (v := (1 : Int32)) X dX12_window_63 (by decide) ?_
        refine g_goto (pc := 64) X 68 dX12_window_64 (by decide) ?_
        refine g_lv [1, 0] rfl ?_
        exact W_X12_window_68 X Tt hR hL149 hL362 hL547 hV
    · have hV := hV.2 c8
      refine g_lv [1] rfl ?_
      exact W_X12_window_27 X Tt hR hL149 hL362 hL547 hV
def C_X12_window (w : Wd) (sh : List Sh) (x0 : Nat) (h : Hp) (RET : Hp → Prop) : Prop := CV w yX12_window (.code yX12_window cX12_window 20 none) 4 110 [rv w.2.2.2 x0] sh h RET
set_option maxRecDepth 20000 in
theorem K_X12_window {w : Wd} {sh : List Sh} {x0 : Nat} {h : Hp} {RET : Hp → Prop} {α : Type} {r : α → α → Prop} (wf : WellFounded r) (I149 : α → Nat → Int32 → Int64 → Int32 → Hp → Prop) (I362 : α → Nat → Int32 → Int64 → Int32 → Int64 → Int64 → Int64 → Int64 → Int32 → Int32 → Int64 → Int32 → Hp → Prop) (I547 : α → Nat → Int64 → Int32 → Hp → Prop) (hE : V_X12_window_0 w sh x0 h (fun x0 x1 x5 x7 h => ∃ a, I149 a x0 x1 x5 x7 h) (fun x0 x2 x3 x5 x7 x9 x11 x13 x15 x16 x17 x19 h => ∃ a, I362 a x0 x2 x3 x5 x7 x9 x11 x13 x15 x16 x17 x19 h) (fun x0 x7 x19 h => ∃ a, I547 a x0 x7 x19 h) RET) (h149 : ∀ (b : α) (x0 : Nat) (x1 : Int32) (x5 : Int64) (x7 : Int32) (h : Hp), I149 b x0 x1 x5 x7 h → V_X12_window_149 w sh x0 x1 x5 x7 h (fun x0 x1 x5 x7 h => ∃ a, r a b ∧ I149 a x0 x1 x5 x7 h) (fun x0 x2 x3 x5 x7 x9 x11 x13 x15 x16 x17 x19 h => ∃ a, r a b ∧ I362 a x0 x2 x3 x5 x7 x9 x11 x13 x15 x16 x17 x19 h) (fun x0 x7 x19 h => ∃ a, r a b ∧ I547 a x0 x7 x19 h) RET) (h362 : ∀ (b : α) (x0 : Nat) (x2 : Int32) (x3 : Int64) (x5 : Int32) (x7 : Int64) (x9 : Int64) (x11 : Int64) (x13 : Int64) (x15 : Int32) (x16 : Int32) (x17 : Int64) (x19 : Int32) (h : Hp), I362 b x0 x2 x3 x5 x7 x9 x11 x13 x15 x16 x17 x19 h → V_X12_window_362 w sh x0 x2 x3 x5 x7 x9 x11 x13 x15 x16 x17 x19 h (fun x0 x1 x5 x7 h => ∃ a, r a b ∧ I149 a x0 x1 x5 x7 h) (fun x0 x2 x3 x5 x7 x9 x11 x13 x15 x16 x17 x19 h => ∃ a, r a b ∧ I362 a x0 x2 x3 x5 x7 x9 x11 x13 x15 x16 x17 x19 h) (fun x0 x7 x19 h => ∃ a, r a b ∧ I547 a x0 x7 x19 h) RET) (h547 : ∀ (b : α) (x0 : Nat) (x7 : Int64) (x19 : Int32) (h : Hp), I547 b x0 x7 x19 h → V_X12_window_547 w sh x0 x7 x19 h (fun x0 x1 x5 x7 h => ∃ a, r a b ∧ I149 a x0 x1 x5 x7 h) (fun x0 x2 x3 x5 x7 x9 x11 x13 x15 x16 x17 x19 h => ∃ a, r a b ∧ I362 a x0 x2 x3 x5 x7 x9 x11 x13 x15 x16 x17 x19 h) (fun x0 x7 x19 h => ∃ a, r a b ∧ I547 a x0 x7 x19 h) RET) : C_X12_window w sh x0 h RET :=
  Ct_of (by decide +kernel) (by simp [lg_sl, rv_cat, cat_int, cat_long]) (fun E X Tt hR _ => by
    have key : ∀ a : α, (∀ (x0 : Nat) (x1 : Int32) (x5 : Int64) (x7 : Int32) (h : Hp), I149 a x0 x1 x5 x7 h → G w E 20 149 [(0, rv w.2.2.2 x0), (1, Value.int x1), (5, Value.long x5), (7, Value.int x7)] [] sh h 0 0) ∧ (∀ (x0 : Nat) (x2 : Int32) (x3 : Int64) (x5 : Int32) (x7 : Int64) (x9 : Int64) (x11 : Int64) (x13 : Int64) (x15 : Int32) (x16 : Int32) (x17 : Int64) (x19 : Int32) (h : Hp), I362 a x0 x2 x3 x5 x7 x9 x11 x13 x15 x16 x17 x19 h → G w E 20 362 [(0, rv w.2.2.2 x0), (2, Value.int x2), (3, Value.long x3), (5, Value.int x5), (7, Value.long x7), (9, Value.long x9), (11, Value.long x11), (13, Value.long x13), (15, Value.int x15), (16, Value.int x16), (17, Value.long x17), (19, Value.int x19)] [] sh h 0 0) ∧ (∀ (x0 : Nat) (x7 : Int64) (x19 : Int32) (h : Hp), I547 a x0 x7 x19 h → G w E 20 547 [(0, rv w.2.2.2 x0), (7, Value.long x7), (19, Value.int x19)] [] sh h 0 0) := by
      intro a
      induction a using wf.induction with
      | _ a ih =>
        exact ⟨(fun x0 x1 x5 x7 h hi => W_X12_window_149 X Tt hR (fun x0 x1 x5 x7 h hx => by obtain ⟨a2, ha, hi⟩ := hx; exact ((ih a2 ha)).1 x0 x1 x5 x7 h hi) (fun x0 x2 x3 x5 x7 x9 x11 x13 x15 x16 x17 x19 h hx => by obtain ⟨a2, ha, hi⟩ := hx; exact (((ih a2 ha)).2).1 x0 x2 x3 x5 x7 x9 x11 x13 x15 x16 x17 x19 h hi) (fun x0 x7 x19 h hx => by obtain ⟨a2, ha, hi⟩ := hx; exact (((ih a2 ha)).2).2 x0 x7 x19 h hi) (h149 a x0 x1 x5 x7 h hi)), (fun x0 x2 x3 x5 x7 x9 x11 x13 x15 x16 x17 x19 h hi => W_X12_window_362 X Tt hR (fun x0 x1 x5 x7 h hx => by obtain ⟨a2, ha, hi⟩ := hx; exact ((ih a2 ha)).1 x0 x1 x5 x7 h hi) (fun x0 x2 x3 x5 x7 x9 x11 x13 x15 x16 x17 x19 h hx => by obtain ⟨a2, ha, hi⟩ := hx; exact (((ih a2 ha)).2).1 x0 x2 x3 x5 x7 x9 x11 x13 x15 x16 x17 x19 h hi) (fun x0 x7 x19 h hx => by obtain ⟨a2, ha, hi⟩ := hx; exact (((ih a2 ha)).2).2 x0 x7 x19 h hi) (h362 a x0 x2 x3 x5 x7 x9 x11 x13 x15 x16 x17 x19 h hi)), (fun x0 x7 x19 h hi => W_X12_window_547 X Tt hR (fun x0 x1 x5 x7 h hx => by obtain ⟨a2, ha, hi⟩ := hx; exact ((ih a2 ha)).1 x0 x1 x5 x7 h hi) (fun x0 x2 x3 x5 x7 x9 x11 x13 x15 x16 x17 x19 h hx => by obtain ⟨a2, ha, hi⟩ := hx; exact (((ih a2 ha)).2).1 x0 x2 x3 x5 x7 x9 x11 x13 x15 x16 x17 x19 h hi) (fun x0 x7 x19 h hx => by obtain ⟨a2, ha, hi⟩ := hx; exact (((ih a2 ha)).2).2 x0 x7 x19 h hi) (h547 a x0 x7 x19 h hi))⟩
    rw [show lv_args 0 [rv w.2.2.2 x0] = [(0, rv w.2.2.2 x0)] from by simp [lv_args, rv_cat, cat_int, cat_long]]
    refine g_lv [0] rfl ?_
    exact W_X12_window_0 X Tt hR (fun x0 x1 x5 x7 h hx => by obtain ⟨a2, hi⟩ := hx; exact ((key a2)).1 x0 x1 x5 x7 h hi) (fun x0 x2 x3 x5 x7 x9 x11 x13 x15 x16 x17 x19 h hx => by obtain ⟨a2, hi⟩ := hx; exact (((key a2)).2).1 x0 x2 x3 x5 x7 x9 x11 x13 x15 x16 x17 x19 h hi) (fun x0 x7 x19 h hx => by obtain ⟨a2, hi⟩ := hx; exact (((key a2)).2).2 x0 x7 x19 h hi) hE)
def V_X12_givenTable_80 (w : Wd) (sh : List Sh) (x0 : Nat) (x3 : Int32) (h : Hp) (L207 : Nat → Int32 → Int32 → Int32 → Hp → Prop) (L259 : Nat → Int32 → Int32 → Int32 → Int32 → Int32 → Hp → Prop) (RET : Hp → Prop) : Prop :=
  shAt sh x0 = some (.inr 12) ∧ (∃ P2 : Int32 → Hp → Prop, C_X12_fails w sh x0 (5 : Int32) x3 h P2 ∧ (∀ (v6 : Int32) (h5 : Hp), P2 v6 h5 → (RET h5)))
set_option maxRecDepth 20000 in
set_option maxHeartbeats 4000000 in
theorem W_X12_givenTable_80 {w : Wd} {E : GE} {sh : List Sh} {x0 : Nat} {x3 : Int32} {h : Hp} {L207 : Nat → Int32 → Int32 → Int32 → Hp → Prop} {L259 : Nat → Int32 → Int32 → Int32 → Int32 → Int32 → Hp → Prop} {RET : Hp → Prop} (X : Cx w E cX12_givenTable 9 RX12) (Tt : Rt w E none sh.length 0 0 (fun q sh9 h9 => q = none ∧ sh9 = sh ∧ RET h9)) (hR : gR E = { frames := 5, cells := 0, slots := 0, locals := 149 }) (hL207 : ∀ (x0 : Nat) (x3 : Int32) (x4 : Int32) (x5 : Int32) (h : Hp), L207 x0 x3 x4 x5 h → G w E 9 207 [(0, rv w.2.2.2 x0), (3, Value.int x3), (4, Value.int x4), (5, Value.int x5)] [] sh h 0 0) (hL259 : ∀ (x0 : Nat) (x3 : Int32) (x4 : Int32) (x5 : Int32) (x7 : Int32) (x8 : Int32) (h : Hp), L259 x0 x3 x4 x5 x7 x8 h → G w E 9 259 [(0, rv w.2.2.2 x0), (3, Value.int x3), (4, Value.int x4), (5, Value.int x5), (7, Value.int x7), (8, Value.int x8)] [] sh h 0 0) (hV : V_X12_givenTable_80 w sh x0 x3 h L207 L259 RET) : G w E 9 80 [(0, rv w.2.2.2 x0), (3, Value.int x3)] [] sh h 0 0 := by
  unfold V_X12_givenTable_80 at hV
  refine g_aload_n (pc := 80) X 0 rfl rfl dX12_givenTable_80 ?_
  refine g_iconst (pc := 81) (v := (5 : Int32)) X dX12_givenTable_81 (by decide) ?_
  refine g_iload_n (pc := 82) X 1 rfl rfl dX12_givenTable_82 ?_
  obtain ⟨q1, hV⟩ := hV
  obtain ⟨P2, t3, hV⟩ := hV
  refine g_cVI (pc := 83) X (As := [Value.int (5 : Int32), Value.int x3]) ml_X12_153 rfl q1 t3 (by rw [hR]; exact ⟨by decide, by decide, by decide, by decide⟩) rfl rfl (Nat.zero_le _) dX12_givenTable_83 (fun v6 h5 p4 => ?_)
  have hV := hV v6 h5 p4
  refine g_pop (pc := 86) X dX12_givenTable_86 (rfl) ?_
  exact g_vret (pc := 87) X Tt ⟨rfl, rfl, hV⟩ dX12_givenTable_87
def V_X12_givenTable_336 (w : Wd) (sh : List Sh) (x0 : Nat) (x3 : Int32) (x4 : Int32) (x5 : Int32) (s0 : Int32) (h : Hp) (L207 : Nat → Int32 → Int32 → Int32 → Hp → Prop) (L259 : Nat → Int32 → Int32 → Int32 → Int32 → Int32 → Hp → Prop) (RET : Hp → Prop) : Prop :=
  ∀ y1 : Int32, y1 = s0 → (shAt sh x0 = some (.inr 12) ∧ (∀ h4 : Hp, h4 = wI h x0 6 (0 : Int32) → (∀ h6 : Hp, h6 = wI h4 x0 19 (1 : Int32) → (∀ h8 : Hp, h8 = wI h6 x0 18 (1 : Int32) → (∀ h10 : Hp, h10 = wI h8 x0 15 x5 → (∀ h12 : Hp, h12 = wI h10 x0 14 x4 → (∃ P14 : Hp → Prop, C_X12_noCaches w sh x0 h12 P14 ∧ (∀ h17 : Hp, P14 h17 → (((¬ y1 = 0) → (∃ P19 : Hp → Prop, C_X12_takeTable w sh x0 (3 : Int32) (1 : Int32) h17 P19 ∧ (∀ h22 : Hp, P19 h22 → (∃ n24 : Nat, shAt sh (h22.2.1 x0 30) = some (.inl (1, n24)) ∧ (vp_in (7 : Int32) n24 ∧ (∀ h26 : Hp, h26 = wI h22 (h22.2.1 x0 30) (7 : Int32).toNatClampNeg (1 : Int32) → (RET h26))))))) ∧ ((y1 = 0) → (∃ P28 : Int32 → Hp → Prop, C_X12_fails w sh x0 (5 : Int32) x3 h17 P28 ∧ (∀ (v32 : Int32) (h31 : Hp), P28 v32 h31 → (RET h31)))))))))))))
set_option maxRecDepth 20000 in
set_option maxHeartbeats 4000000 in
theorem W_X12_givenTable_336 {w : Wd} {E : GE} {sh : List Sh} {x0 : Nat} {x3 : Int32} {x4 : Int32} {x5 : Int32} {s0 : Int32} {h : Hp} {L207 : Nat → Int32 → Int32 → Int32 → Hp → Prop} {L259 : Nat → Int32 → Int32 → Int32 → Int32 → Int32 → Hp → Prop} {RET : Hp → Prop} (X : Cx w E cX12_givenTable 9 RX12) (Tt : Rt w E none sh.length 0 0 (fun q sh9 h9 => q = none ∧ sh9 = sh ∧ RET h9)) (hR : gR E = { frames := 5, cells := 0, slots := 0, locals := 149 }) (hL207 : ∀ (x0 : Nat) (x3 : Int32) (x4 : Int32) (x5 : Int32) (h : Hp), L207 x0 x3 x4 x5 h → G w E 9 207 [(0, rv w.2.2.2 x0), (3, Value.int x3), (4, Value.int x4), (5, Value.int x5)] [] sh h 0 0) (hL259 : ∀ (x0 : Nat) (x3 : Int32) (x4 : Int32) (x5 : Int32) (x7 : Int32) (x8 : Int32) (h : Hp), L259 x0 x3 x4 x5 x7 x8 h → G w E 9 259 [(0, rv w.2.2.2 x0), (3, Value.int x3), (4, Value.int x4), (5, Value.int x5), (7, Value.int x7), (8, Value.int x8)] [] sh h 0 0) (hV : V_X12_givenTable_336 w sh x0 x3 x4 x5 s0 h L207 L259 RET) : G w E 9 336 [(0, rv w.2.2.2 x0), (3, Value.int x3), (4, Value.int x4), (5, Value.int x5)] [Value.int s0] sh h 0 0 := by
  unfold V_X12_givenTable_336 at hV
  refine g_istore (pc := 336) X (i := 7) (rest := [(0, rv w.2.2.2 x0), (3, Value.int x3), (4, Value.int x4), (5, Value.int x5)]) (by decide) rfl dX12_givenTable_336 (fun y1 e2 => ?_)
  have hV := hV y1 e2
  refine g_aload_n (pc := 338) X 1 rfl rfl dX12_givenTable_338 ?_
  refine g_iconst (pc := 339) (v := (0 : Int32)) X dX12_givenTable_339 (by decide) ?_
  obtain ⟨q3, hV⟩ := hV
  refine g_putI (pc := 340) X fl_X12_141 q3 rfl rfl dX12_givenTable_340 (fun h4 e5 => ?_)
  have hV := hV h4 e5
  refine g_aload_n (pc := 343) X 1 rfl rfl dX12_givenTable_343 ?_
  refine g_iconst (pc := 344) (v := (1 : Int32)) X dX12_givenTable_344 (by decide) ?_
  refine g_putI (pc := 345) X fl_X12_180 q3 rfl rfl dX12_givenTable_345 (fun h6 e7 => ?_)
  have hV := hV h6 e7
  refine g_aload_n (pc := 348) X 1 rfl rfl dX12_givenTable_348 ?_
  refine g_iconst (pc := 349) (v := (1 : Int32)) X dX12_givenTable_349 (by decide) ?_
  refine g_putI (pc := 350) X fl_X12_183 q3 rfl rfl dX12_givenTable_350 (fun h8 e9 => ?_)
  have hV := hV h8 e9
  refine g_aload_n (pc := 353) X 1 rfl rfl dX12_givenTable_353 ?_
  refine g_iload (pc := 354) X 4 rfl dX12_givenTable_354 ?_
  refine g_putI (pc := 356) X fl_X12_147 q3 rfl rfl dX12_givenTable_356 (fun h10 e11 => ?_)
  have hV := hV h10 e11
  refine g_aload_n (pc := 359) X 1 rfl rfl dX12_givenTable_359 ?_
  refine g_iload (pc := 360) X 3 rfl dX12_givenTable_360 ?_
  refine g_putI (pc := 362) X fl_X12_150 q3 rfl rfl dX12_givenTable_362 (fun h12 e13 => ?_)
  have hV := hV h12 e13
  refine g_aload_n (pc := 365) X 1 rfl rfl dX12_givenTable_365 ?_
  obtain ⟨P14, t15, hV⟩ := hV
  refine g_cVV (pc := 366) X (As := []) ml_X12_189 rfl q3 t15 (by rw [hR]; exact ⟨by decide, by decide, by decide, by decide⟩) rfl rfl (Nat.zero_le _) dX12_givenTable_366 (fun h17 p16 => ?_)
  have hV := hV h17 p16
  refine g_iload (pc := 369) X 0 rfl dX12_givenTable_369 ?_
  refine g_if_ne (pc := 371) X 382 dX12_givenTable_371 (by decide) (fun c18 => ?_) (fun c18 => ?_)
  · have hV := hV.1 c18
    refine g_aload_n (pc := 382) X 1 rfl rfl dX12_givenTable_382 ?_
    refine g_iconst (pc := 383) (v := (3 : Int32)) X dX12_givenTable_383 (by decide) ?_
    refine g_iconst (pc := 384) (v := (1 : Int32)) X dX12_givenTable_384 (by decide) ?_
    obtain ⟨P19, t20, hV⟩ := hV
    refine g_cVV (pc := 385) X (As := [Value.int (3 : Int32), Value.int (1 : Int32)]) ml_X12_114 rfl q3 t20 (by rw [hR]; exact ⟨by decide, by decide, by decide, by decide⟩) rfl rfl (Nat.zero_le _) dX12_givenTable_385 (fun h22 p21 => ?_)
    have hV := hV h22 p21
    refine g_aload_n (pc := 388) X 1 rfl rfl dX12_givenTable_388 ?_
    refine g_getR (pc := 389) X fl_X12_61 q3 dX12_givenTable_389 ?_
    refine g_bipush (pc := 392) (v := (7 : Int32)) X dX12_givenTable_392 (by decide) ?_
    refine g_iconst (pc := 394) (v := (1 : Int32)) X dX12_givenTable_394 (by decide) ?_
    obtain ⟨n24, q23, hV⟩ := hV
    obtain ⟨q25, hV⟩ := hV
    refine g_iast (pc := 395) X q23 q25 dX12_givenTable_395 (fun h26 e27 => ?_)
    have hV := hV h26 e27
    exact g_vret (pc := 396) X Tt ⟨rfl, rfl, hV⟩ dX12_givenTable_396
  · have hV := hV.2 c18
    refine g_aload_n (pc := 374) X 1 rfl rfl dX12_givenTable_374 ?_
    refine g_iconst (pc := 375) (v := (5 : Int32)) X dX12_givenTable_375 (by decide) ?_
    refine g_iload_n (pc := 376) X 2 rfl rfl dX12_givenTable_376 ?_
    obtain ⟨P28, t29, hV⟩ := hV
    refine g_cVI (pc := 377) X (As := [Value.int (5 : Int32), Value.int x3]) ml_X12_153 rfl q3 t29 (by rw [hR]; exact ⟨by decide, by decide, by decide, by decide⟩) rfl rfl (Nat.zero_le _) dX12_givenTable_377 (fun v32 h31 p30 => ?_)
    have hV := hV v32 h31 p30
    refine g_pop (pc := 380) X dX12_givenTable_380 (rfl) ?_
    exact g_vret (pc := 381) X Tt ⟨rfl, rfl, hV⟩ dX12_givenTable_381
def V_X12_givenTable_335 (w : Wd) (sh : List Sh) (x0 : Nat) (x3 : Int32) (x4 : Int32) (x5 : Int32) (h : Hp) (L207 : Nat → Int32 → Int32 → Int32 → Hp → Prop) (L259 : Nat → Int32 → Int32 → Int32 → Int32 → Int32 → Hp → Prop) (RET : Hp → Prop) : Prop :=
  V_X12_givenTable_336 w sh x0 x3 x4 x5 (0 : Int32) h L207 L259 RET
set_option maxRecDepth 20000 in
set_option maxHeartbeats 4000000 in
theorem W_X12_givenTable_335 {w : Wd} {E : GE} {sh : List Sh} {x0 : Nat} {x3 : Int32} {x4 : Int32} {x5 : Int32} {h : Hp} {L207 : Nat → Int32 → Int32 → Int32 → Hp → Prop} {L259 : Nat → Int32 → Int32 → Int32 → Int32 → Int32 → Hp → Prop} {RET : Hp → Prop} (X : Cx w E cX12_givenTable 9 RX12) (Tt : Rt w E none sh.length 0 0 (fun q sh9 h9 => q = none ∧ sh9 = sh ∧ RET h9)) (hR : gR E = { frames := 5, cells := 0, slots := 0, locals := 149 }) (hL207 : ∀ (x0 : Nat) (x3 : Int32) (x4 : Int32) (x5 : Int32) (h : Hp), L207 x0 x3 x4 x5 h → G w E 9 207 [(0, rv w.2.2.2 x0), (3, Value.int x3), (4, Value.int x4), (5, Value.int x5)] [] sh h 0 0) (hL259 : ∀ (x0 : Nat) (x3 : Int32) (x4 : Int32) (x5 : Int32) (x7 : Int32) (x8 : Int32) (h : Hp), L259 x0 x3 x4 x5 x7 x8 h → G w E 9 259 [(0, rv w.2.2.2 x0), (3, Value.int x3), (4, Value.int x4), (5, Value.int x5), (7, Value.int x7), (8, Value.int x8)] [] sh h 0 0) (hV : V_X12_givenTable_335 w sh x0 x3 x4 x5 h L207 L259 RET) : G w E 9 335 [(0, rv w.2.2.2 x0), (3, Value.int x3), (4, Value.int x4), (5, Value.int x5)] [] sh h 0 0 := by
  unfold V_X12_givenTable_335 at hV
  refine g_iconst (pc := 335) (v := (0 : Int32)) X dX12_givenTable_335 (by decide) ?_
  exact W_X12_givenTable_336 X Tt hR hL207 hL259 hV
def V_X12_givenTable_318 (w : Wd) (sh : List Sh) (x0 : Nat) (x3 : Int32) (x4 : Int32) (x5 : Int32) (x7 : Int32) (h : Hp) (L207 : Nat → Int32 → Int32 → Int32 → Hp → Prop) (L259 : Nat → Int32 → Int32 → Int32 → Int32 → Int32 → Hp → Prop) (RET : Hp → Prop) : Prop :=
  ((x7 = 0) → (V_X12_givenTable_335 w sh x0 x3 x4 x5 h L207 L259 RET)) ∧ ((¬ x7 = 0) → (shAt sh x0 = some (.inr 12) ∧ (∃ P3 : Int32 → Hp → Prop, C_X12_isGood w sh x0 (3 : Int32) h P3 ∧ (∀ (v7 : Int32) (h6 : Hp), P3 v7 h6 → (((v7 = 0) → (V_X12_givenTable_335 w sh x0 x3 x4 x5 h6 L207 L259 RET)) ∧ ((¬ v7 = 0) → (V_X12_givenTable_336 w sh x0 x3 x4 x5 (1 : Int32) h6 L207 L259 RET)))))))
set_option maxRecDepth 20000 in
set_option maxHeartbeats 4000000 in
theorem W_X12_givenTable_318 {w : Wd} {E : GE} {sh : List Sh} {x0 : Nat} {x3 : Int32} {x4 : Int32} {x5 : Int32} {x7 : Int32} {h : Hp} {L207 : Nat → Int32 → Int32 → Int32 → Hp → Prop} {L259 : Nat → Int32 → Int32 → Int32 → Int32 → Int32 → Hp → Prop} {RET : Hp → Prop} (X : Cx w E cX12_givenTable 9 RX12) (Tt : Rt w E none sh.length 0 0 (fun q sh9 h9 => q = none ∧ sh9 = sh ∧ RET h9)) (hR : gR E = { frames := 5, cells := 0, slots := 0, locals := 149 }) (hL207 : ∀ (x0 : Nat) (x3 : Int32) (x4 : Int32) (x5 : Int32) (h : Hp), L207 x0 x3 x4 x5 h → G w E 9 207 [(0, rv w.2.2.2 x0), (3, Value.int x3), (4, Value.int x4), (5, Value.int x5)] [] sh h 0 0) (hL259 : ∀ (x0 : Nat) (x3 : Int32) (x4 : Int32) (x5 : Int32) (x7 : Int32) (x8 : Int32) (h : Hp), L259 x0 x3 x4 x5 x7 x8 h → G w E 9 259 [(0, rv w.2.2.2 x0), (3, Value.int x3), (4, Value.int x4), (5, Value.int x5), (7, Value.int x7), (8, Value.int x8)] [] sh h 0 0) (hV : V_X12_givenTable_318 w sh x0 x3 x4 x5 x7 h L207 L259 RET) : G w E 9 318 [(0, rv w.2.2.2 x0), (3, Value.int x3), (4, Value.int x4), (5, Value.int x5), (7, Value.int x7)] [] sh h 0 0 := by
  unfold V_X12_givenTable_318 at hV
  refine g_iload (pc := 318) X 4 rfl dX12_givenTable_318 ?_
  refine g_if_eq (pc := 320) X 335 dX12_givenTable_320 (by decide) (fun c1 => ?_) (fun c1 => ?_)
  · have hV := hV.1 c1
    refine g_lv [0, 1, 2, 3] rfl ?_
    exact W_X12_givenTable_335 X Tt hR hL207 hL259 hV
  · have hV := hV.2 c1
    refine g_aload_n (pc := 323) X 0 rfl rfl dX12_givenTable_323 ?_
    refine g_iconst (pc := 324) (v := (3 : Int32)) X dX12_givenTable_324 (by decide) ?_
    obtain ⟨q2, hV⟩ := hV
    obtain ⟨P3, t4, hV⟩ := hV
    refine g_cVI (pc := 325) X (As := [Value.int (3 : Int32)]) ml_X12_212 rfl q2 t4 (by rw [hR]; exact ⟨by decide, by decide, by decide, by decide⟩) rfl rfl (Nat.zero_le _) dX12_givenTable_325 (fun v7 h6 p5 => ?_)
    have hV := hV v7 h6 p5
    refine g_if_eq (pc := 328) X 335 dX12_givenTable_328 (by decide) (fun c8 => ?_) (fun c8 => ?_)
    · have hV := hV.1 c8
      refine g_lv [0, 1, 2, 3] rfl ?_
      exact W_X12_givenTable_335 X Tt hR hL207 hL259 hV
    · have hV := hV.2 c8
      refine g_iconst (pc := 331) (v := (1 : Int32)) X dX12_givenTable_331 (by decide) ?_
      refine g_goto (pc := 332) X 336 dX12_givenTable_332 (by decide) ?_
      refine g_lv [0, 1, 2, 3] rfl ?_
      exact W_X12_givenTable_336 X Tt hR hL207 hL259 hV
def V_X12_givenTable_259 (w : Wd) (sh : List Sh) (x0 : Nat) (x3 : Int32) (x4 : Int32) (x5 : Int32) (x7 : Int32) (x8 : Int32) (h : Hp) (L207 : Nat → Int32 → Int32 → Int32 → Hp → Prop) (L259 : Nat → Int32 → Int32 → Int32 → Int32 → Int32 → Hp → Prop) (RET : Hp → Prop) : Prop :=
  (((1536 : Int32) ≤ x8) → (V_X12_givenTable_318 w sh x0 x3 x4 x5 x7 h L207 L259 RET)) ∧ ((¬ (1536 : Int32) ≤ x8) → (((x7 = 0) → (V_X12_givenTable_318 w sh x0 x3 x4 x5 x7 h L207 L259 RET)) ∧ ((¬ x7 = 0) → (shAt sh x0 = some (.inr 12) ∧ (∃ P4 : Int32 → Hp → Prop, C_X12_rowOf w sh (x8 / (256 : Int32)) h P4 ∧ (∀ (v8 : Int32) (h7 : Hp), P4 v8 h7 → (∃ n10 : Nat, shAt sh (h7.2.1 x0 21) = some (.inl (0, n10)) ∧ (vp_in x8 n10 ∧ (∃ n13 : Nat, shAt sh (h.2.1 x0 9) = some (.inl (1, n13)) ∧ (vp_in (((4608 : Int32) + ((256 : Int32) * v8)) + (x8 - x8 / (256 : Int32) * (256 : Int32))) n13 ∧ (∀ h15 : Hp, h15 = wI h7 (h.2.1 x0 9) (((4608 : Int32) + ((256 : Int32) * v8)) + (x8 - x8 / (256 : Int32) * (256 : Int32))).toNatClampNeg ((b8 (h7.1 (h7.2.1 x0 21) x8.toNatClampNeg)) &&& (255 : Int32)) → (∀ y17 : Int32, y17 = x8 + (1 : Int32) → (L259 x0 x3 x4 x5 x7 y17 h15)))))))))))))
set_option maxRecDepth 20000 in
set_option maxHeartbeats 4000000 in
theorem W_X12_givenTable_259 {w : Wd} {E : GE} {sh : List Sh} {x0 : Nat} {x3 : Int32} {x4 : Int32} {x5 : Int32} {x7 : Int32} {x8 : Int32} {h : Hp} {L207 : Nat → Int32 → Int32 → Int32 → Hp → Prop} {L259 : Nat → Int32 → Int32 → Int32 → Int32 → Int32 → Hp → Prop} {RET : Hp → Prop} (X : Cx w E cX12_givenTable 9 RX12) (Tt : Rt w E none sh.length 0 0 (fun q sh9 h9 => q = none ∧ sh9 = sh ∧ RET h9)) (hR : gR E = { frames := 5, cells := 0, slots := 0, locals := 149 }) (hL207 : ∀ (x0 : Nat) (x3 : Int32) (x4 : Int32) (x5 : Int32) (h : Hp), L207 x0 x3 x4 x5 h → G w E 9 207 [(0, rv w.2.2.2 x0), (3, Value.int x3), (4, Value.int x4), (5, Value.int x5)] [] sh h 0 0) (hL259 : ∀ (x0 : Nat) (x3 : Int32) (x4 : Int32) (x5 : Int32) (x7 : Int32) (x8 : Int32) (h : Hp), L259 x0 x3 x4 x5 x7 x8 h → G w E 9 259 [(0, rv w.2.2.2 x0), (3, Value.int x3), (4, Value.int x4), (5, Value.int x5), (7, Value.int x7), (8, Value.int x8)] [] sh h 0 0) (hV : V_X12_givenTable_259 w sh x0 x3 x4 x5 x7 x8 h L207 L259 RET) : G w E 9 259 [(0, rv w.2.2.2 x0), (3, Value.int x3), (4, Value.int x4), (5, Value.int x5), (7, Value.int x7), (8, Value.int x8)] [] sh h 0 0 := by
  unfold V_X12_givenTable_259 at hV
  refine g_iload (pc := 259) X 5 rfl dX12_givenTable_259 ?_
  refine g_sipush (pc := 261) (v := (1536 : Int32)) X dX12_givenTable_261 (by decide) ?_
  refine g_icmp_ge (pc := 264) X 318 dX12_givenTable_264 (by decide) (fun c1 => ?_) (fun c1 => ?_)
  · have hV := hV.1 c1
    refine g_lv [0, 1, 2, 3, 4] rfl ?_
    exact W_X12_givenTable_318 X Tt hR hL207 hL259 hV
  · have hV := hV.2 c1
    refine g_iload (pc := 267) X 4 rfl dX12_givenTable_267 ?_
    refine g_if_eq (pc := 269) X 318 dX12_givenTable_269 (by decide) (fun c2 => ?_) (fun c2 => ?_)
    · have hV := hV.1 c2
      refine g_lv [0, 1, 2, 3, 4] rfl ?_
      exact W_X12_givenTable_318 X Tt hR hL207 hL259 hV
    · have hV := hV.2 c2
      refine g_aload_n (pc := 272) X 0 rfl rfl dX12_givenTable_272 ?_
      obtain ⟨q3, hV⟩ := hV
      refine g_getR (pc := 273) X fl_X12_23 q3 dX12_givenTable_273 ?_
      refine g_sipush (pc := 276) (v := (4608 : Int32)) X dX12_givenTable_276 (by decide) ?_
      refine g_sipush (pc := 279) (v := (256 : Int32)) X dX12_givenTable_279 (by decide) ?_
      refine g_iload (pc := 282) X 5 rfl dX12_givenTable_282 ?_
      refine g_sipush (pc := 284) (v := (256 : Int32)) X dX12_givenTable_284 (by decide) ?_
      refine g_idiv (pc := 287) X dX12_givenTable_287 (by decide) ?_
      obtain ⟨P4, t5, hV⟩ := hV
      refine g_cSI (pc := 288) X (As := [Value.int (x8 / (256 : Int32))]) ml_X12_122 t5 (by rw [hR]; exact ⟨by decide, by decide, by decide, by decide⟩) rfl rfl (by simp [rv_cat, cat_int, cat_long]) dX12_givenTable_288 (fun v8 h7 p6 => ?_)
      have hV := hV v8 h7 p6
      refine g_imul (pc := 291) X dX12_givenTable_291 ?_
      refine g_iadd (pc := 292) X dX12_givenTable_292 ?_
      refine g_iload (pc := 293) X 5 rfl dX12_givenTable_293 ?_
      refine g_sipush (pc := 295) (v := (256 : Int32)) X dX12_givenTable_295 (by decide) ?_
      refine g_irem (pc := 298) X dX12_givenTable_298 (by decide) ?_
      refine g_iadd (pc := 299) X dX12_givenTable_299 ?_
      refine g_aload_n (pc := 300) X 0 rfl rfl dX12_givenTable_300 ?_
      refine g_getR (pc := 301) X fl_X12_45 q3 dX12_givenTable_301 ?_
      refine g_iload (pc := 304) X 5 rfl dX12_givenTable_304 ?_
      obtain ⟨n10, q9, hV⟩ := hV
      obtain ⟨q11, hV⟩ := hV
      refine g_bald (pc := 306) X q9 q11 dX12_givenTable_306 ?_
      refine g_sipush (pc := 307) (v := (255 : Int32)) X dX12_givenTable_307 (by decide) ?_
      refine g_iand (pc := 310) X dX12_givenTable_310 ?_
      obtain ⟨n13, q12, hV⟩ := hV
      obtain ⟨q14, hV⟩ := hV
      refine g_iast (pc := 311) X q12 q14 dX12_givenTable_311 (fun h15 e16 => ?_)
      have hV := hV h15 e16
      refine g_iinc (pc := 312) X 5 (v := (1 : Int32)) (rest := [(0, rv w.2.2.2 x0), (3, Value.int x3), (4, Value.int x4), (5, Value.int x5), (7, Value.int x7)]) rfl (by decide) rfl (by decide) dX12_givenTable_312 (fun y17 e18 => ?_)
      have hV := hV y17 e18
      refine g_goto (pc := 315) X 259 dX12_givenTable_315 (by decide) ?_
      refine g_lv [1, 2, 3, 4, 5, 0] rfl ?_
      exact hL259 x0 x3 x4 x5 x7 y17 h15 hV
def V_X12_givenTable_254 (w : Wd) (sh : List Sh) (x0 : Nat) (x3 : Int32) (x4 : Int32) (x5 : Int32) (s0 : Int32) (h : Hp) (L207 : Nat → Int32 → Int32 → Int32 → Hp → Prop) (L259 : Nat → Int32 → Int32 → Int32 → Int32 → Int32 → Hp → Prop) (RET : Hp → Prop) : Prop :=
  ∀ y1 : Int32, y1 = s0 → (∀ y3 : Int32, y3 = (0 : Int32) → (L259 x0 x3 x4 x5 y1 y3 h))
set_option maxRecDepth 20000 in
set_option maxHeartbeats 4000000 in
theorem W_X12_givenTable_254 {w : Wd} {E : GE} {sh : List Sh} {x0 : Nat} {x3 : Int32} {x4 : Int32} {x5 : Int32} {s0 : Int32} {h : Hp} {L207 : Nat → Int32 → Int32 → Int32 → Hp → Prop} {L259 : Nat → Int32 → Int32 → Int32 → Int32 → Int32 → Hp → Prop} {RET : Hp → Prop} (X : Cx w E cX12_givenTable 9 RX12) (Tt : Rt w E none sh.length 0 0 (fun q sh9 h9 => q = none ∧ sh9 = sh ∧ RET h9)) (hR : gR E = { frames := 5, cells := 0, slots := 0, locals := 149 }) (hL207 : ∀ (x0 : Nat) (x3 : Int32) (x4 : Int32) (x5 : Int32) (h : Hp), L207 x0 x3 x4 x5 h → G w E 9 207 [(0, rv w.2.2.2 x0), (3, Value.int x3), (4, Value.int x4), (5, Value.int x5)] [] sh h 0 0) (hL259 : ∀ (x0 : Nat) (x3 : Int32) (x4 : Int32) (x5 : Int32) (x7 : Int32) (x8 : Int32) (h : Hp), L259 x0 x3 x4 x5 x7 x8 h → G w E 9 259 [(0, rv w.2.2.2 x0), (3, Value.int x3), (4, Value.int x4), (5, Value.int x5), (7, Value.int x7), (8, Value.int x8)] [] sh h 0 0) (hV : V_X12_givenTable_254 w sh x0 x3 x4 x5 s0 h L207 L259 RET) : G w E 9 254 [(0, rv w.2.2.2 x0), (3, Value.int x3), (4, Value.int x4), (5, Value.int x5)] [Value.int s0] sh h 0 0 := by
  unfold V_X12_givenTable_254 at hV
  refine g_istore (pc := 254) X (i := 7) (rest := [(0, rv w.2.2.2 x0), (3, Value.int x3), (4, Value.int x4), (5, Value.int x5)]) (by decide) rfl dX12_givenTable_254 (fun y1 e2 => ?_)
  have hV := hV y1 e2
  refine g_iconst (pc := 256) (v := (0 : Int32)) X dX12_givenTable_256 (by decide) ?_
  refine g_istore (pc := 257) X (i := 8) (rest := [(7, Value.int y1), (0, rv w.2.2.2 x0), (3, Value.int x3), (4, Value.int x4), (5, Value.int x5)]) (by decide) rfl dX12_givenTable_257 (fun y3 e4 => ?_)
  have hV := hV y3 e4
  refine g_lv [2, 3, 4, 5, 1, 0] rfl ?_
  exact hL259 x0 x3 x4 x5 y1 y3 h hV
def V_X12_givenTable_253 (w : Wd) (sh : List Sh) (x0 : Nat) (x3 : Int32) (x4 : Int32) (x5 : Int32) (h : Hp) (L207 : Nat → Int32 → Int32 → Int32 → Hp → Prop) (L259 : Nat → Int32 → Int32 → Int32 → Int32 → Int32 → Hp → Prop) (RET : Hp → Prop) : Prop :=
  V_X12_givenTable_254 w sh x0 x3 x4 x5 (0 : Int32) h L207 L259 RET
set_option maxRecDepth 20000 in
set_option maxHeartbeats 4000000 in
theorem W_X12_givenTable_253 {w : Wd} {E : GE} {sh : List Sh} {x0 : Nat} {x3 : Int32} {x4 : Int32} {x5 : Int32} {h : Hp} {L207 : Nat → Int32 → Int32 → Int32 → Hp → Prop} {L259 : Nat → Int32 → Int32 → Int32 → Int32 → Int32 → Hp → Prop} {RET : Hp → Prop} (X : Cx w E cX12_givenTable 9 RX12) (Tt : Rt w E none sh.length 0 0 (fun q sh9 h9 => q = none ∧ sh9 = sh ∧ RET h9)) (hR : gR E = { frames := 5, cells := 0, slots := 0, locals := 149 }) (hL207 : ∀ (x0 : Nat) (x3 : Int32) (x4 : Int32) (x5 : Int32) (h : Hp), L207 x0 x3 x4 x5 h → G w E 9 207 [(0, rv w.2.2.2 x0), (3, Value.int x3), (4, Value.int x4), (5, Value.int x5)] [] sh h 0 0) (hL259 : ∀ (x0 : Nat) (x3 : Int32) (x4 : Int32) (x5 : Int32) (x7 : Int32) (x8 : Int32) (h : Hp), L259 x0 x3 x4 x5 x7 x8 h → G w E 9 259 [(0, rv w.2.2.2 x0), (3, Value.int x3), (4, Value.int x4), (5, Value.int x5), (7, Value.int x7), (8, Value.int x8)] [] sh h 0 0) (hV : V_X12_givenTable_253 w sh x0 x3 x4 x5 h L207 L259 RET) : G w E 9 253 [(0, rv w.2.2.2 x0), (3, Value.int x3), (4, Value.int x4), (5, Value.int x5)] [] sh h 0 0 := by
  unfold V_X12_givenTable_253 at hV
  refine g_iconst (pc := 253) (v := (0 : Int32)) X dX12_givenTable_253 (by decide) ?_
  exact W_X12_givenTable_254 X Tt hR hL207 hL259 hV
def V_X12_givenTable_232 (w : Wd) (sh : List Sh) (x0 : Nat) (x3 : Int32) (x4 : Int32) (x5 : Int32) (h : Hp) (L207 : Nat → Int32 → Int32 → Int32 → Hp → Prop) (L259 : Nat → Int32 → Int32 → Int32 → Int32 → Int32 → Hp → Prop) (RET : Hp → Prop) : Prop :=
  shAt sh x0 = some (.inr 12) ∧ (((¬ (h.1 x0 6) = 0) → (V_X12_givenTable_253 w sh x0 x3 x4 x5 h L207 L259 RET)) ∧ (((h.1 x0 6) = 0) → (((¬ (h.1 x0 23) = (1536 : Int32)) → (V_X12_givenTable_253 w sh x0 x3 x4 x5 h L207 L259 RET)) ∧ (((h.1 x0 23) = (1536 : Int32)) → (V_X12_givenTable_254 w sh x0 x3 x4 x5 (1 : Int32) h L207 L259 RET)))))
set_option maxRecDepth 20000 in
set_option maxHeartbeats 4000000 in
theorem W_X12_givenTable_232 {w : Wd} {E : GE} {sh : List Sh} {x0 : Nat} {x3 : Int32} {x4 : Int32} {x5 : Int32} {h : Hp} {L207 : Nat → Int32 → Int32 → Int32 → Hp → Prop} {L259 : Nat → Int32 → Int32 → Int32 → Int32 → Int32 → Hp → Prop} {RET : Hp → Prop} (X : Cx w E cX12_givenTable 9 RX12) (Tt : Rt w E none sh.length 0 0 (fun q sh9 h9 => q = none ∧ sh9 = sh ∧ RET h9)) (hR : gR E = { frames := 5, cells := 0, slots := 0, locals := 149 }) (hL207 : ∀ (x0 : Nat) (x3 : Int32) (x4 : Int32) (x5 : Int32) (h : Hp), L207 x0 x3 x4 x5 h → G w E 9 207 [(0, rv w.2.2.2 x0), (3, Value.int x3), (4, Value.int x4), (5, Value.int x5)] [] sh h 0 0) (hL259 : ∀ (x0 : Nat) (x3 : Int32) (x4 : Int32) (x5 : Int32) (x7 : Int32) (x8 : Int32) (h : Hp), L259 x0 x3 x4 x5 x7 x8 h → G w E 9 259 [(0, rv w.2.2.2 x0), (3, Value.int x3), (4, Value.int x4), (5, Value.int x5), (7, Value.int x7), (8, Value.int x8)] [] sh h 0 0) (hV : V_X12_givenTable_232 w sh x0 x3 x4 x5 h L207 L259 RET) : G w E 9 232 [(0, rv w.2.2.2 x0), (3, Value.int x3), (4, Value.int x4), (5, Value.int x5)] [] sh h 0 0 := by
  unfold V_X12_givenTable_232 at hV
  refine g_aload_n (pc := 232) X 0 rfl rfl dX12_givenTable_232 ?_
  obtain ⟨q1, hV⟩ := hV
  refine g_getI (pc := 233) X fl_X12_141 q1 dX12_givenTable_233 ?_
  refine g_if_ne (pc := 236) X 253 dX12_givenTable_236 (by decide) (fun c2 => ?_) (fun c2 => ?_)
  · have hV := hV.1 c2
    exact W_X12_givenTable_253 X Tt hR hL207 hL259 hV
  · have hV := hV.2 c2
    refine g_aload_n (pc := 239) X 0 rfl rfl dX12_givenTable_239 ?_
    refine g_getI (pc := 240) X fl_X12_204 q1 dX12_givenTable_240 ?_
    refine g_sipush (pc := 243) (v := (1536 : Int32)) X dX12_givenTable_243 (by decide) ?_
    refine g_icmp_ne (pc := 246) X 253 dX12_givenTable_246 (by decide) (fun c3 => ?_) (fun c3 => ?_)
    · have hV := hV.1 c3
      exact W_X12_givenTable_253 X Tt hR hL207 hL259 hV
    · have hV := hV.2 c3
      refine g_iconst (pc := 249) (v := (1 : Int32)) X dX12_givenTable_249 (by decide) ?_
      refine g_goto (pc := 250) X 254 dX12_givenTable_250 (by decide) ?_
      exact W_X12_givenTable_254 X Tt hR hL207 hL259 hV
def V_X12_givenTable_207 (w : Wd) (sh : List Sh) (x0 : Nat) (x3 : Int32) (x4 : Int32) (x5 : Int32) (h : Hp) (L207 : Nat → Int32 → Int32 → Int32 → Hp → Prop) (L259 : Nat → Int32 → Int32 → Int32 → Int32 → Int32 → Hp → Prop) (RET : Hp → Prop) : Prop :=
  shAt sh x0 = some (.inr 12) ∧ (((¬ (h.1 x0 6) = 0) → (V_X12_givenTable_232 w sh x0 x3 x4 x5 h L207 L259 RET)) ∧ (((h.1 x0 6) = 0) → ((((h.1 x0 15) ≤ (h.1 x0 14)) → (V_X12_givenTable_232 w sh x0 x3 x4 x5 h L207 L259 RET)) ∧ ((¬ (h.1 x0 15) ≤ (h.1 x0 14)) → (∃ P4 : Hp → Prop, C_X12_window w sh x0 h P4 ∧ (∀ h7 : Hp, P4 h7 → (L207 x0 x3 x4 x5 h7)))))))
set_option maxRecDepth 20000 in
set_option maxHeartbeats 4000000 in
theorem W_X12_givenTable_207 {w : Wd} {E : GE} {sh : List Sh} {x0 : Nat} {x3 : Int32} {x4 : Int32} {x5 : Int32} {h : Hp} {L207 : Nat → Int32 → Int32 → Int32 → Hp → Prop} {L259 : Nat → Int32 → Int32 → Int32 → Int32 → Int32 → Hp → Prop} {RET : Hp → Prop} (X : Cx w E cX12_givenTable 9 RX12) (Tt : Rt w E none sh.length 0 0 (fun q sh9 h9 => q = none ∧ sh9 = sh ∧ RET h9)) (hR : gR E = { frames := 5, cells := 0, slots := 0, locals := 149 }) (hL207 : ∀ (x0 : Nat) (x3 : Int32) (x4 : Int32) (x5 : Int32) (h : Hp), L207 x0 x3 x4 x5 h → G w E 9 207 [(0, rv w.2.2.2 x0), (3, Value.int x3), (4, Value.int x4), (5, Value.int x5)] [] sh h 0 0) (hL259 : ∀ (x0 : Nat) (x3 : Int32) (x4 : Int32) (x5 : Int32) (x7 : Int32) (x8 : Int32) (h : Hp), L259 x0 x3 x4 x5 x7 x8 h → G w E 9 259 [(0, rv w.2.2.2 x0), (3, Value.int x3), (4, Value.int x4), (5, Value.int x5), (7, Value.int x7), (8, Value.int x8)] [] sh h 0 0) (hV : V_X12_givenTable_207 w sh x0 x3 x4 x5 h L207 L259 RET) : G w E 9 207 [(0, rv w.2.2.2 x0), (3, Value.int x3), (4, Value.int x4), (5, Value.int x5)] [] sh h 0 0 := by
  unfold V_X12_givenTable_207 at hV
  refine g_aload_n (pc := 207) X 0 rfl rfl dX12_givenTable_207 ?_
  obtain ⟨q1, hV⟩ := hV
  refine g_getI (pc := 208) X fl_X12_141 q1 dX12_givenTable_208 ?_
  refine g_if_ne (pc := 211) X 232 dX12_givenTable_211 (by decide) (fun c2 => ?_) (fun c2 => ?_)
  · have hV := hV.1 c2
    exact W_X12_givenTable_232 X Tt hR hL207 hL259 hV
  · have hV := hV.2 c2
    refine g_aload_n (pc := 214) X 0 rfl rfl dX12_givenTable_214 ?_
    refine g_getI (pc := 215) X fl_X12_150 q1 dX12_givenTable_215 ?_
    refine g_aload_n (pc := 218) X 0 rfl rfl dX12_givenTable_218 ?_
    refine g_getI (pc := 219) X fl_X12_147 q1 dX12_givenTable_219 ?_
    refine g_icmp_ge (pc := 222) X 232 dX12_givenTable_222 (by decide) (fun c3 => ?_) (fun c3 => ?_)
    · have hV := hV.1 c3
      exact W_X12_givenTable_232 X Tt hR hL207 hL259 hV
    · have hV := hV.2 c3
      refine g_aload_n (pc := 225) X 0 rfl rfl dX12_givenTable_225 ?_
      obtain ⟨P4, t5, hV⟩ := hV
      refine g_cVV (pc := 226) X (As := []) ml_X12_207 rfl q1 t5 (by rw [hR]; exact ⟨by decide, by decide, by decide, by decide⟩) rfl rfl (Nat.zero_le _) dX12_givenTable_226 (fun h7 p6 => ?_)
      have hV := hV h7 p6
      refine g_goto (pc := 229) X 207 dX12_givenTable_229 (by decide) ?_
      exact hL207 x0 x3 x4 x5 h7 hV
def V_X12_givenTable_0 (w : Wd) (sh : List Sh) (x0 : Nat) (h : Hp) (L207 : Nat → Int32 → Int32 → Int32 → Hp → Prop) (L259 : Nat → Int32 → Int32 → Int32 → Int32 → Int32 → Hp → Prop) (RET : Hp → Prop) : Prop :=
  shAt sh x0 = some (.inr 12) ∧ (∃ P2 : Int64 → Hp → Prop, C_X12_headBig w sh x0 h P2 ∧ (∀ (v6 : Int64) (h5 : Hp), P2 v6 h5 → (∀ y7 : Int64, y7 = v6 → (∀ y9 : Int32, y9 = (h5.1 x0 14) → (∃ P11 : Int32 → Hp → Prop, C_X12_wants w sh x0 y7 h5 P11 ∧ (∀ (v15 : Int32) (h14 : Hp), P11 v15 h14 → (((¬ v15 = 0) → (∀ y17 : Int32, y17 = ((h14.1 x0 14) + (y7.toInt32)) → (∀ y19 : Int32, y19 = (h14.1 x0 15) → ((((lg_cmp y7 (2 : Int64)) < 0) → (V_X12_givenTable_80 w sh x0 y9 h14 L207 L259 RET)) ∧ ((¬ (lg_cmp y7 (2 : Int64)) < 0) → (∃ n23 : Nat, shAt sh (h14.2.1 x0 13) = some (.inl (0, n23)) ∧ (vp_in (h14.1 x0 14) n23 ∧ ((((32 : Int32) < ((b8 (h14.1 (h14.2.1 x0 13) (h14.1 x0 14).toNatClampNeg)) &&& (255 : Int32))) → (V_X12_givenTable_80 w sh x0 y9 h14 L207 L259 RET)) ∧ ((¬ (32 : Int32) < ((b8 (h14.1 (h14.2.1 x0 13) (h14.1 x0 14).toNatClampNeg)) &&& (255 : Int32))) → (vp_in ((h14.1 x0 14) + (1 : Int32)) n23 ∧ (((((b8 (h14.1 (h14.2.1 x0 13) ((h14.1 x0 14) + (1 : Int32)).toNatClampNeg)) &&& (255 : Int32)) ≤ (16 : Int32)) → (vp_in (h14.1 x0 14) n23 ∧ (∃ n30 : Nat, shAt sh (h14.2.1 x0 10) = some (.inl (1, n30)) ∧ (vp_in (3 : Int32) n30 ∧ (∀ h32 : Hp, h32 = wI h14 (h14.2.1 x0 10) (3 : Int32).toNatClampNeg ((b8 (h14.1 (h14.2.1 x0 13) (h14.1 x0 14).toNatClampNeg)) &&& (255 : Int32)) → (vp_in ((h32.1 x0 14) + (1 : Int32)) n23 ∧ (∃ n36 : Nat, shAt sh (h14.2.1 x0 11) = some (.inl (1, n36)) ∧ (vp_in (3 : Int32) n36 ∧ (∀ h38 : Hp, h38 = wI h32 (h14.2.1 x0 11) (3 : Int32).toNatClampNeg ((b8 (h32.1 (h14.2.1 x0 13) ((h32.1 x0 14) + (1 : Int32)).toNatClampNeg)) &&& (255 : Int32)) → (∀ h40 : Hp, h40 = wI h38 x0 14 ((h38.1 x0 14) + (2 : Int32)) → (∀ h42 : Hp, h42 = wI h40 x0 15 y17 → (∀ h44 : Hp, h44 = wR h42 x0 16 (h14.2.1 x0 12) → (∀ h46 : Hp, h46 = wI h44 x0 17 (1536 : Int32) → (∀ h48 : Hp, h48 = wR h46 x0 22 (h44.2.1 x0 21) → (∀ h50 : Hp, h50 = wI h48 x0 23 (0 : Int32) → (∀ h52 : Hp, h52 = wI h50 x0 18 (0 : Int32) → (∀ h54 : Hp, h54 = wI h52 x0 19 (0 : Int32) → (∃ P56 : Int32 → Hp → Prop, C_X12_head w sh x0 (4 : Int32) h54 P56 ∧ (∀ (v60 : Int32) (h59 : Hp), P56 v60 h59 → (∀ y61 : Int32, y61 = v60 → (((¬ (h59.1 x0 6) = 0) → (L207 x0 y9 y17 y19 h59)) ∧ (((h59.1 x0 6) = 0) → ((((y61 &&& (4 : Int32)) ≤ 0) → (L207 x0 y9 y17 y19 h59)) ∧ ((¬ (y61 &&& (4 : Int32)) ≤ 0) → (∃ P65 : Hp → Prop, C_X12_appendix w sh x0 h59 P65 ∧ (∀ h68 : Hp, P65 h68 → (L207 x0 y9 y17 y19 h68))))))))))))))))))))))))))) ∧ ((¬ ((b8 (h14.1 (h14.2.1 x0 13) ((h14.1 x0 14) + (1 : Int32)).toNatClampNeg)) &&& (255 : Int32)) ≤ (16 : Int32)) → (V_X12_givenTable_80 w sh x0 y9 h14 L207 L259 RET))))))))))))) ∧ ((v15 = 0) → (RET h14)))))))))
set_option maxRecDepth 20000 in
set_option maxHeartbeats 4000000 in
theorem W_X12_givenTable_0 {w : Wd} {E : GE} {sh : List Sh} {x0 : Nat} {h : Hp} {L207 : Nat → Int32 → Int32 → Int32 → Hp → Prop} {L259 : Nat → Int32 → Int32 → Int32 → Int32 → Int32 → Hp → Prop} {RET : Hp → Prop} (X : Cx w E cX12_givenTable 9 RX12) (Tt : Rt w E none sh.length 0 0 (fun q sh9 h9 => q = none ∧ sh9 = sh ∧ RET h9)) (hR : gR E = { frames := 5, cells := 0, slots := 0, locals := 149 }) (hL207 : ∀ (x0 : Nat) (x3 : Int32) (x4 : Int32) (x5 : Int32) (h : Hp), L207 x0 x3 x4 x5 h → G w E 9 207 [(0, rv w.2.2.2 x0), (3, Value.int x3), (4, Value.int x4), (5, Value.int x5)] [] sh h 0 0) (hL259 : ∀ (x0 : Nat) (x3 : Int32) (x4 : Int32) (x5 : Int32) (x7 : Int32) (x8 : Int32) (h : Hp), L259 x0 x3 x4 x5 x7 x8 h → G w E 9 259 [(0, rv w.2.2.2 x0), (3, Value.int x3), (4, Value.int x4), (5, Value.int x5), (7, Value.int x7), (8, Value.int x8)] [] sh h 0 0) (hV : V_X12_givenTable_0 w sh x0 h L207 L259 RET) : G w E 9 0 [(0, rv w.2.2.2 x0)] [] sh h 0 0 := by
  unfold V_X12_givenTable_0 at hV
  refine g_aload_n (pc := 0) X 0 rfl rfl dX12_givenTable_0 ?_
  obtain ⟨q1, hV⟩ := hV
  obtain ⟨P2, t3, hV⟩ := hV
  refine g_cVJ (pc := 1) X (As := []) ml_X12_176 rfl q1 t3 (by rw [hR]; exact ⟨by decide, by decide, by decide, by decide⟩) rfl rfl (Nat.zero_le _) dX12_givenTable_1 (fun v6 h5 p4 => ?_)
  have hV := hV v6 h5 p4
  refine g_lstore_n (pc := 4) X (i := 1) (rest := [(0, rv w.2.2.2 x0)]) rfl (by decide) (by simp [flt1, flt2, rv_cat, cat_int, cat_long]) dX12_givenTable_4 (fun y7 e8 => ?_)
  have hV := hV y7 e8
  refine g_aload_n (pc := 5) X 1 rfl rfl dX12_givenTable_5 ?_
  refine g_getI (pc := 6) X fl_X12_150 q1 dX12_givenTable_6 ?_
  refine g_istore_n (pc := 9) X (i := 3) (rest := [(1, Value.long y7), (0, rv w.2.2.2 x0)]) rfl (by decide) rfl dX12_givenTable_9 (fun y9 e10 => ?_)
  have hV := hV y9 e10
  refine g_aload_n (pc := 10) X 2 rfl rfl dX12_givenTable_10 ?_
  refine g_lload_n (pc := 11) X 1 rfl rfl dX12_givenTable_11 ?_
  obtain ⟨P11, t12, hV⟩ := hV
  refine g_cVI (pc := 12) X (As := [Value.long y7]) ml_X12_172 rfl q1 t12 (by rw [hR]; exact ⟨by decide, by decide, by decide, by decide⟩) rfl rfl (Nat.zero_le _) dX12_givenTable_12 (fun v15 h14 p13 => ?_)
  have hV := hV v15 h14 p13
  refine g_if_ne (pc := 15) X 19 dX12_givenTable_15 (by decide) (fun c16 => ?_) (fun c16 => ?_)
  · have hV := hV.1 c16
    refine g_aload_n (pc := 19) X 2 rfl rfl dX12_givenTable_19 ?_
    refine g_getI (pc := 20) X fl_X12_150 q1 dX12_givenTable_20 ?_
    refine g_lload_n (pc := 23) X 1 rfl rfl dX12_givenTable_23 ?_
    refine g_l2i (pc := 24) X dX12_givenTable_24 ?_
    refine g_iadd (pc := 25) X dX12_givenTable_25 ?_
    refine g_istore (pc := 26) X (i := 4) (rest := [(3, Value.int y9), (1, Value.long y7), (0, rv w.2.2.2 x0)]) (by decide) rfl dX12_givenTable_26 (fun y17 e18 => ?_)
    have hV := hV y17 e18
    refine g_aload_n (pc := 28) X 3 rfl rfl dX12_givenTable_28 ?_
    refine g_getI (pc := 29) X fl_X12_147 q1 dX12_givenTable_29 ?_
    refine g_istore (pc := 32) X (i := 5) (rest := [(4, Value.int y17), (3, Value.int y9), (1, Value.long y7), (0, rv w.2.2.2 x0)]) (by decide) rfl dX12_givenTable_32 (fun y19 e20 => ?_)
    have hV := hV y19 e20
    refine g_lload_n (pc := 34) X 3 rfl rfl dX12_givenTable_34 ?_
    refine g_ldc2 (pc := 35) X kc_X12_210 dX12_givenTable_35 ?_
    refine g_lcmp (pc := 38) X dX12_givenTable_38 ?_
    refine g_if_lt (pc := 39) X 80 dX12_givenTable_39 (by decide) (fun c21 => ?_) (fun c21 => ?_)
    · have hV := hV.1 c21
      refine g_lv [4, 2] rfl ?_
      exact W_X12_givenTable_80 X Tt hR hL207 hL259 hV
    · have hV := hV.2 c21
      refine g_aload_n (pc := 42) X 4 rfl rfl dX12_givenTable_42 ?_
      refine g_getR (pc := 43) X fl_X12_36 q1 dX12_givenTable_43 ?_
      refine g_aload_n (pc := 46) X 4 rfl rfl dX12_givenTable_46 ?_
      refine g_getI (pc := 47) X fl_X12_150 q1 dX12_givenTable_47 ?_
      obtain ⟨n23, q22, hV⟩ := hV
      obtain ⟨q24, hV⟩ := hV
      refine g_bald (pc := 50) X q22 q24 dX12_givenTable_50 ?_
      refine g_sipush (pc := 51) (v := (255 : Int32)) X dX12_givenTable_51 (by decide) ?_
      refine g_iand (pc := 54) X dX12_givenTable_54 ?_
      refine g_bipush (pc := 55) (v := (32 : Int32)) X dX12_givenTable_55 (by decide) ?_
      refine g_icmp_gt (pc := 57) X 80 dX12_givenTable_57 (by decide) (fun c25 => ?_) (fun c25 => ?_)
      · have hV := hV.1 c25
        refine g_lv [4, 2] rfl ?_
        exact W_X12_givenTable_80 X Tt hR hL207 hL259 hV
      · have hV := hV.2 c25
        refine g_aload_n (pc := 60) X 4 rfl rfl dX12_givenTable_60 ?_
        refine g_getR (pc := 61) X fl_X12_36 q1 dX12_givenTable_61 ?_
        refine g_aload_n (pc := 64) X 4 rfl rfl dX12_givenTable_64 ?_
        refine g_getI (pc := 65) X fl_X12_150 q1 dX12_givenTable_65 ?_
        refine g_iconst (pc := 68) (v := (1 : Int32)) X dX12_givenTable_68 (by decide) ?_
        refine g_iadd (pc := 69) X dX12_givenTable_69 ?_
        obtain ⟨q26, hV⟩ := hV
        refine g_bald (pc := 70) X q22 q26 dX12_givenTable_70 ?_
        refine g_sipush (pc := 71) (v := (255 : Int32)) X dX12_givenTable_71 (by decide) ?_
        refine g_iand (pc := 74) X dX12_givenTable_74 ?_
        refine g_bipush (pc := 75) (v := (16 : Int32)) X dX12_givenTable_75 (by decide) ?_
        refine g_icmp_le (pc := 77) X 88 dX12_givenTable_77 (by decide) (fun c27 => ?_) (fun c27 => ?_)
        · have hV := hV.1 c27
          refine g_aload_n (pc := 88) X 4 rfl rfl dX12_givenTable_88 ?_
          refine g_getR (pc := 89) X fl_X12_27 q1 dX12_givenTable_89 ?_
          refine g_iconst (pc := 92) (v := (3 : Int32)) X dX12_givenTable_92 (by decide) ?_
          refine g_aload_n (pc := 93) X 4 rfl rfl dX12_givenTable_93 ?_
          refine g_getR (pc := 94) X fl_X12_36 q1 dX12_givenTable_94 ?_
          refine g_aload_n (pc := 97) X 4 rfl rfl dX12_givenTable_97 ?_
          refine g_getI (pc := 98) X fl_X12_150 q1 dX12_givenTable_98 ?_
          obtain ⟨q28, hV⟩ := hV
          refine g_bald (pc := 101) X q22 q28 dX12_givenTable_101 ?_
          refine g_sipush (pc := 102) (v := (255 : Int32)) X dX12_givenTable_102 (by decide) ?_
          refine g_iand (pc := 105) X dX12_givenTable_105 ?_
          obtain ⟨n30, q29, hV⟩ := hV
          obtain ⟨q31, hV⟩ := hV
          refine g_iast (pc := 106) X q29 q31 dX12_givenTable_106 (fun h32 e33 => ?_)
          have hV := hV h32 e33
          refine g_aload_n (pc := 107) X 4 rfl rfl dX12_givenTable_107 ?_
          refine g_getRe (pc := 108) X fl_X12_30 q1 (congrFun (congrFun (rfI e33) _) _) dX12_givenTable_108 ?_
          refine g_iconst (pc := 111) (v := (3 : Int32)) X dX12_givenTable_111 (by decide) ?_
          refine g_aload_n (pc := 112) X 4 rfl rfl dX12_givenTable_112 ?_
          refine g_getRe (pc := 113) X fl_X12_36 q1 (congrFun (congrFun (rfI e33) _) _) dX12_givenTable_113 ?_
          refine g_aload_n (pc := 116) X 4 rfl rfl dX12_givenTable_116 ?_
          refine g_getI (pc := 117) X fl_X12_150 q1 dX12_givenTable_117 ?_
          refine g_iconst (pc := 120) (v := (1 : Int32)) X dX12_givenTable_120 (by decide) ?_
          refine g_iadd (pc := 121) X dX12_givenTable_121 ?_
          obtain ⟨q34, hV⟩ := hV
          refine g_bald (pc := 122) X q22 q34 dX12_givenTable_122 ?_
          refine g_sipush (pc := 123) (v := (255 : Int32)) X dX12_givenTable_123 (by decide) ?_
          refine g_iand (pc := 126) X dX12_givenTable_126 ?_
          obtain ⟨n36, q35, hV⟩ := hV
          obtain ⟨q37, hV⟩ := hV
          refine g_iast (pc := 127) X q35 q37 dX12_givenTable_127 (fun h38 e39 => ?_)
          have hV := hV h38 e39
          refine g_aload_n (pc := 128) X 4 rfl rfl dX12_givenTable_128 ?_
          refine g_dup (pc := 129) X dX12_givenTable_129 (rv_cat _ _) ?_
          refine g_getI (pc := 130) X fl_X12_150 q1 dX12_givenTable_130 ?_
          refine g_iconst (pc := 133) (v := (2 : Int32)) X dX12_givenTable_133 (by decide) ?_
          refine g_iadd (pc := 134) X dX12_givenTable_134 ?_
          refine g_putI (pc := 135) X fl_X12_150 q1 rfl rfl dX12_givenTable_135 (fun h40 e41 => ?_)
          have hV := hV h40 e41
          refine g_aload_n (pc := 138) X 4 rfl rfl dX12_givenTable_138 ?_
          refine g_iload (pc := 139) X 1 rfl dX12_givenTable_139 ?_
          refine g_putI (pc := 141) X fl_X12_147 q1 rfl rfl dX12_givenTable_141 (fun h42 e43 => ?_)
          have hV := hV h42 e43
          refine g_aload_n (pc := 144) X 4 rfl rfl dX12_givenTable_144 ?_
          refine g_aload_n (pc := 145) X 4 rfl rfl dX12_givenTable_145 ?_
          refine g_getRe (pc := 146) X fl_X12_33 q1 (congrFun (congrFun ((rfI e43).trans ((rfI e41).trans ((rfI e39).trans (rfI e33)))) _) _) dX12_givenTable_146 ?_
          refine g_putR (pc := 149) X fl_X12_39 q1 rfl dX12_givenTable_149 (fun h44 e45 => ?_)
          have hV := hV h44 e45
          refine g_aload_n (pc := 152) X 4 rfl rfl dX12_givenTable_152 ?_
          refine g_sipush (pc := 153) (v := (1536 : Int32)) X dX12_givenTable_153 (by decide) ?_
          refine g_putI (pc := 156) X fl_X12_201 q1 rfl rfl dX12_givenTable_156 (fun h46 e47 => ?_)
          have hV := hV h46 e47
          refine g_aload_n (pc := 159) X 4 rfl rfl dX12_givenTable_159 ?_
          refine g_aload_n (pc := 160) X 4 rfl rfl dX12_givenTable_160 ?_
          refine g_getRe (pc := 161) X fl_X12_45 q1 (congrFun (congrFun (rfI e47) _) _) dX12_givenTable_161 ?_
          refine g_putR (pc := 164) X fl_X12_48 q1 rfl dX12_givenTable_164 (fun h48 e49 => ?_)
          have hV := hV h48 e49
          refine g_aload_n (pc := 167) X 4 rfl rfl dX12_givenTable_167 ?_
          refine g_iconst (pc := 168) (v := (0 : Int32)) X dX12_givenTable_168 (by decide) ?_
          refine g_putI (pc := 169) X fl_X12_204 q1 rfl rfl dX12_givenTable_169 (fun h50 e51 => ?_)
          have hV := hV h50 e51
          refine g_aload_n (pc := 172) X 4 rfl rfl dX12_givenTable_172 ?_
          refine g_iconst (pc := 173) (v := (0 : Int32)) X dX12_givenTable_173 (by decide) ?_
          refine g_putI (pc := 174) X fl_X12_183 q1 rfl rfl dX12_givenTable_174 (fun h52 e53 => ?_)
          have hV := hV h52 e53
          refine g_aload_n (pc := 177) X 4 rfl rfl dX12_givenTable_177 ?_
          refine g_iconst (pc := 178) (v := (0 : Int32)) X dX12_givenTable_178 (by decide) ?_
          refine g_putI (pc := 179) X fl_X12_180 q1 rfl rfl dX12_givenTable_179 (fun h54 e55 => ?_)
          have hV := hV h54 e55
          refine g_aload_n (pc := 182) X 4 rfl rfl dX12_givenTable_182 ?_
          refine g_iconst (pc := 183) (v := (4 : Int32)) X dX12_givenTable_183 (by decide) ?_
          obtain ⟨P56, t57, hV⟩ := hV
          refine g_cVI (pc := 184) X (As := [Value.int (4 : Int32)]) ml_X12_192 rfl q1 t57 (by rw [hR]; exact ⟨by decide, by decide, by decide, by decide⟩) rfl rfl (Nat.zero_le _) dX12_givenTable_184 (fun v60 h59 p58 => ?_)
          have hV := hV v60 h59 p58
          refine g_istore (pc := 187) X (i := 6) (rest := [(5, Value.int y19), (4, Value.int y17), (3, Value.int y9), (1, Value.long y7), (0, rv w.2.2.2 x0)]) (by decide) rfl dX12_givenTable_187 (fun y61 e62 => ?_)
          have hV := hV y61 e62
          refine g_aload_n (pc := 189) X 5 rfl rfl dX12_givenTable_189 ?_
          refine g_getI (pc := 190) X fl_X12_141 q1 dX12_givenTable_190 ?_
          refine g_if_ne (pc := 193) X 207 dX12_givenTable_193 (by decide) (fun c63 => ?_) (fun c63 => ?_)
          · have hV := hV.1 c63
            refine g_lv [5, 3, 2, 1] rfl ?_
            exact hL207 x0 y9 y17 y19 h59 hV
          · have hV := hV.2 c63
            refine g_iload (pc := 196) X 0 rfl dX12_givenTable_196 ?_
            refine g_iconst (pc := 198) (v := (4 : Int32)) X dX12_givenTable_198 (by decide) ?_
            refine g_iand (pc := 199) X dX12_givenTable_199 ?_
            refine g_if_le (pc := 200) X 207 dX12_givenTable_200 (by decide) (fun c64 => ?_) (fun c64 => ?_)
            · have hV := hV.1 c64
              refine g_lv [5, 3, 2, 1] rfl ?_
              exact hL207 x0 y9 y17 y19 h59 hV
            · have hV := hV.2 c64
              refine g_aload_n (pc := 203) X 5 rfl rfl dX12_givenTable_203 ?_
              obtain ⟨P65, t66, hV⟩ := hV
              refine g_cVV (pc := 204) X (As := []) ml_X12_198 rfl q1 t66 (by rw [hR]; exact ⟨by decide, by decide, by decide, by decide⟩) rfl rfl (Nat.zero_le _) dX12_givenTable_204 (fun h68 p67 => ?_)
              have hV := hV h68 p67
              refine g_lv [5, 3, 2, 1] rfl ?_
              exact hL207 x0 y9 y17 y19 h68 hV
        · have hV := hV.2 c27
          refine g_lv [4, 2] rfl ?_
          exact W_X12_givenTable_80 X Tt hR hL207 hL259 hV
  · have hV := hV.2 c16
    exact g_vret (pc := 18) X Tt ⟨rfl, rfl, hV⟩ dX12_givenTable_18
def C_X12_givenTable (w : Wd) (sh : List Sh) (x0 : Nat) (h : Hp) (RET : Hp → Prop) : Prop := CV w yX12_givenTable (.code yX12_givenTable cX12_givenTable 9 none) 5 149 [rv w.2.2.2 x0] sh h RET
set_option maxRecDepth 20000 in
theorem K_X12_givenTable {w : Wd} {sh : List Sh} {x0 : Nat} {h : Hp} {RET : Hp → Prop} {α : Type} {r : α → α → Prop} (wf : WellFounded r) (I207 : α → Nat → Int32 → Int32 → Int32 → Hp → Prop) (I259 : α → Nat → Int32 → Int32 → Int32 → Int32 → Int32 → Hp → Prop) (hE : V_X12_givenTable_0 w sh x0 h (fun x0 x3 x4 x5 h => ∃ a, I207 a x0 x3 x4 x5 h) (fun x0 x3 x4 x5 x7 x8 h => ∃ a, I259 a x0 x3 x4 x5 x7 x8 h) RET) (h207 : ∀ (b : α) (x0 : Nat) (x3 : Int32) (x4 : Int32) (x5 : Int32) (h : Hp), I207 b x0 x3 x4 x5 h → V_X12_givenTable_207 w sh x0 x3 x4 x5 h (fun x0 x3 x4 x5 h => ∃ a, r a b ∧ I207 a x0 x3 x4 x5 h) (fun x0 x3 x4 x5 x7 x8 h => ∃ a, r a b ∧ I259 a x0 x3 x4 x5 x7 x8 h) RET) (h259 : ∀ (b : α) (x0 : Nat) (x3 : Int32) (x4 : Int32) (x5 : Int32) (x7 : Int32) (x8 : Int32) (h : Hp), I259 b x0 x3 x4 x5 x7 x8 h → V_X12_givenTable_259 w sh x0 x3 x4 x5 x7 x8 h (fun x0 x3 x4 x5 h => ∃ a, r a b ∧ I207 a x0 x3 x4 x5 h) (fun x0 x3 x4 x5 x7 x8 h => ∃ a, r a b ∧ I259 a x0 x3 x4 x5 x7 x8 h) RET) : C_X12_givenTable w sh x0 h RET :=
  Ct_of (by decide +kernel) (by simp [lg_sl, rv_cat, cat_int, cat_long]) (fun E X Tt hR _ => by
    have key : ∀ a : α, (∀ (x0 : Nat) (x3 : Int32) (x4 : Int32) (x5 : Int32) (h : Hp), I207 a x0 x3 x4 x5 h → G w E 9 207 [(0, rv w.2.2.2 x0), (3, Value.int x3), (4, Value.int x4), (5, Value.int x5)] [] sh h 0 0) ∧ (∀ (x0 : Nat) (x3 : Int32) (x4 : Int32) (x5 : Int32) (x7 : Int32) (x8 : Int32) (h : Hp), I259 a x0 x3 x4 x5 x7 x8 h → G w E 9 259 [(0, rv w.2.2.2 x0), (3, Value.int x3), (4, Value.int x4), (5, Value.int x5), (7, Value.int x7), (8, Value.int x8)] [] sh h 0 0) := by
      intro a
      induction a using wf.induction with
      | _ a ih =>
        exact ⟨(fun x0 x3 x4 x5 h hi => W_X12_givenTable_207 X Tt hR (fun x0 x3 x4 x5 h hx => by obtain ⟨a2, ha, hi⟩ := hx; exact ((ih a2 ha)).1 x0 x3 x4 x5 h hi) (fun x0 x3 x4 x5 x7 x8 h hx => by obtain ⟨a2, ha, hi⟩ := hx; exact ((ih a2 ha)).2 x0 x3 x4 x5 x7 x8 h hi) (h207 a x0 x3 x4 x5 h hi)), (fun x0 x3 x4 x5 x7 x8 h hi => W_X12_givenTable_259 X Tt hR (fun x0 x3 x4 x5 h hx => by obtain ⟨a2, ha, hi⟩ := hx; exact ((ih a2 ha)).1 x0 x3 x4 x5 h hi) (fun x0 x3 x4 x5 x7 x8 h hx => by obtain ⟨a2, ha, hi⟩ := hx; exact ((ih a2 ha)).2 x0 x3 x4 x5 x7 x8 h hi) (h259 a x0 x3 x4 x5 x7 x8 h hi))⟩
    rw [show lv_args 0 [rv w.2.2.2 x0] = [(0, rv w.2.2.2 x0)] from by simp [lv_args, rv_cat, cat_int, cat_long]]
    refine g_lv [0] rfl ?_
    exact W_X12_givenTable_0 X Tt hR (fun x0 x3 x4 x5 h hx => by obtain ⟨a2, hi⟩ := hx; exact ((key a2)).1 x0 x3 x4 x5 h hi) (fun x0 x3 x4 x5 x7 x8 h hx => by obtain ⟨a2, hi⟩ := hx; exact ((key a2)).2 x0 x3 x4 x5 x7 x8 h hi) hE)
def V_X12_open_197 (w : Wd) (sh : List Sh) (x0 : Nat) (x2 : Int32) (h : Hp) (L54 : Nat → Int32 → Hp → Prop) (L147 : Nat → Hp → Prop) (L197 : Nat → Int32 → Hp → Prop) (RET : Int32 → Hp → Prop) : Prop :=
  shAt sh x0 = some (.inr 12) ∧ ((((h.1 x0 23) ≤ x2) → (∀ h3 : Hp, h3 = wI h x0 3 (h.1 x0 23) → (RET (h3.1 x0 3) h3))) ∧ ((¬ (h.1 x0 23) ≤ x2) → (∃ n6 : Nat, shAt sh (h.2.1 x0 20) = some (.inl (0, n6)) ∧ (vp_in x2 n6 ∧ (∃ n9 : Nat, shAt sh (h.2.1 x0 2) = some (.inl (0, n9)) ∧ (vp_in x2 n9 ∧ (∀ h11 : Hp, h11 = wI h (h.2.1 x0 2) x2.toNatClampNeg (b8 (h.1 (h.2.1 x0 20) x2.toNatClampNeg)) → (∀ y13 : Int32, y13 = x2 + (1 : Int32) → (L197 x0 y13 h11)))))))))
set_option maxRecDepth 20000 in
set_option maxHeartbeats 4000000 in
theorem W_X12_open_197 {w : Wd} {E : GE} {sh : List Sh} {x0 : Nat} {x2 : Int32} {h : Hp} {L54 : Nat → Int32 → Hp → Prop} {L147 : Nat → Hp → Prop} {L197 : Nat → Int32 → Hp → Prop} {RET : Int32 → Hp → Prop} (X : Cx w E cX12_open 3 RX12) (Tt : Rt w E (some .int) sh.length 0 0 (fun q sh9 h9 => ∃ v : Int32, q = some (Value.int v) ∧ sh9 = sh ∧ RET v h9)) (hR : gR E = { frames := 6, cells := 0, slots := 0, locals := 177 }) (hL54 : ∀ (x0 : Nat) (x1 : Int32) (h : Hp), L54 x0 x1 h → G w E 3 54 [(0, rv w.2.2.2 x0), (1, Value.int x1)] [] sh h 0 0) (hL147 : ∀ (x0 : Nat) (h : Hp), L147 x0 h → G w E 3 147 [(0, rv w.2.2.2 x0)] [] sh h 0 0) (hL197 : ∀ (x0 : Nat) (x2 : Int32) (h : Hp), L197 x0 x2 h → G w E 3 197 [(0, rv w.2.2.2 x0), (2, Value.int x2)] [] sh h 0 0) (hV : V_X12_open_197 w sh x0 x2 h L54 L147 L197 RET) : G w E 3 197 [(0, rv w.2.2.2 x0), (2, Value.int x2)] [] sh h 0 0 := by
  unfold V_X12_open_197 at hV
  refine g_iload_n (pc := 197) X 1 rfl rfl dX12_open_197 ?_
  refine g_aload_n (pc := 198) X 0 rfl rfl dX12_open_198 ?_
  obtain ⟨q1, hV⟩ := hV
  refine g_getI (pc := 199) X fl_X12_204 q1 dX12_open_199 ?_
  refine g_icmp_ge (pc := 202) X 223 dX12_open_202 (by decide) (fun c2 => ?_) (fun c2 => ?_)
  · have hV := hV.1 c2
    refine g_aload_n (pc := 223) X 0 rfl rfl dX12_open_223 ?_
    refine g_aload_n (pc := 224) X 0 rfl rfl dX12_open_224 ?_
    refine g_getI (pc := 225) X fl_X12_204 q1 dX12_open_225 ?_
    refine g_putI (pc := 228) X fl_X12_135 q1 rfl rfl dX12_open_228 (fun h3 e4 => ?_)
    have hV := hV h3 e4
    refine g_aload_n (pc := 231) X 0 rfl rfl dX12_open_231 ?_
    refine g_getI (pc := 232) X fl_X12_135 q1 dX12_open_232 ?_
    exact g_iret (pc := 235) X Tt ⟨_, rfl, rfl, hV⟩ dX12_open_235
  · have hV := hV.2 c2
    refine g_aload_n (pc := 205) X 0 rfl rfl dX12_open_205 ?_
    refine g_getR (pc := 206) X fl_X12_13 q1 dX12_open_206 ?_
    refine g_iload_n (pc := 209) X 1 rfl rfl dX12_open_209 ?_
    refine g_aload_n (pc := 210) X 0 rfl rfl dX12_open_210 ?_
    refine g_getR (pc := 211) X fl_X12_42 q1 dX12_open_211 ?_
    refine g_iload_n (pc := 214) X 1 rfl rfl dX12_open_214 ?_
    obtain ⟨n6, q5, hV⟩ := hV
    obtain ⟨q7, hV⟩ := hV
    refine g_bald (pc := 215) X q5 q7 dX12_open_215 ?_
    obtain ⟨n9, q8, hV⟩ := hV
    obtain ⟨q10, hV⟩ := hV
    refine g_bast (pc := 216) X q8 q10 dX12_open_216 (fun h11 e12 => ?_)
    have hV := hV h11 e12
    refine g_iinc (pc := 217) X 1 (v := (1 : Int32)) (rest := [(0, rv w.2.2.2 x0)]) rfl (by decide) rfl (by decide) dX12_open_217 (fun y13 e14 => ?_)
    have hV := hV y13 e14
    refine g_goto (pc := 220) X 197 dX12_open_220 (by decide) ?_
    refine g_lv [1, 0] rfl ?_
    exact hL197 x0 y13 h11 hV
def V_X12_open_172 (w : Wd) (sh : List Sh) (x0 : Nat) (h : Hp) (L54 : Nat → Int32 → Hp → Prop) (L147 : Nat → Hp → Prop) (L197 : Nat → Int32 → Hp → Prop) (RET : Int32 → Hp → Prop) : Prop :=
  shAt sh x0 = some (.inr 12) ∧ ((((h.1 x0 6) ≤ 0) → (∀ y3 : Int32, y3 = (0 : Int32) → (L197 x0 y3 h))) ∧ ((¬ (h.1 x0 6) ≤ 0) → (∀ h5 : Hp, h5 = wI h x0 8 (h.1 x0 7) → (RET ((-10 : Int32) - (h5.1 x0 6)) h5))))
set_option maxRecDepth 20000 in
set_option maxHeartbeats 4000000 in
theorem W_X12_open_172 {w : Wd} {E : GE} {sh : List Sh} {x0 : Nat} {h : Hp} {L54 : Nat → Int32 → Hp → Prop} {L147 : Nat → Hp → Prop} {L197 : Nat → Int32 → Hp → Prop} {RET : Int32 → Hp → Prop} (X : Cx w E cX12_open 3 RX12) (Tt : Rt w E (some .int) sh.length 0 0 (fun q sh9 h9 => ∃ v : Int32, q = some (Value.int v) ∧ sh9 = sh ∧ RET v h9)) (hR : gR E = { frames := 6, cells := 0, slots := 0, locals := 177 }) (hL54 : ∀ (x0 : Nat) (x1 : Int32) (h : Hp), L54 x0 x1 h → G w E 3 54 [(0, rv w.2.2.2 x0), (1, Value.int x1)] [] sh h 0 0) (hL147 : ∀ (x0 : Nat) (h : Hp), L147 x0 h → G w E 3 147 [(0, rv w.2.2.2 x0)] [] sh h 0 0) (hL197 : ∀ (x0 : Nat) (x2 : Int32) (h : Hp), L197 x0 x2 h → G w E 3 197 [(0, rv w.2.2.2 x0), (2, Value.int x2)] [] sh h 0 0) (hV : V_X12_open_172 w sh x0 h L54 L147 L197 RET) : G w E 3 172 [(0, rv w.2.2.2 x0)] [] sh h 0 0 := by
  unfold V_X12_open_172 at hV
  refine g_aload_n (pc := 172) X 0 rfl rfl dX12_open_172 ?_
  obtain ⟨q1, hV⟩ := hV
  refine g_getI (pc := 173) X fl_X12_141 q1 dX12_open_173 ?_
  refine g_if_le (pc := 176) X 195 dX12_open_176 (by decide) (fun c2 => ?_) (fun c2 => ?_)
  · have hV := hV.1 c2
    refine g_iconst (pc := 195) (v := (0 : Int32)) X dX12_open_195 (by decide) ?_
    refine g_istore_n (pc := 196) X (i := 2) (rest := [(0, rv w.2.2.2 x0)]) rfl (by decide) rfl dX12_open_196 (fun y3 e4 => ?_)
    have hV := hV y3 e4
    refine g_lv [1, 0] rfl ?_
    exact hL197 x0 y3 h hV
  · have hV := hV.2 c2
    refine g_aload_n (pc := 179) X 0 rfl rfl dX12_open_179 ?_
    refine g_aload_n (pc := 180) X 0 rfl rfl dX12_open_180 ?_
    refine g_getI (pc := 181) X fl_X12_144 q1 dX12_open_181 ?_
    refine g_putI (pc := 184) X fl_X12_19 q1 rfl rfl dX12_open_184 (fun h5 e6 => ?_)
    have hV := hV h5 e6
    refine g_bipush (pc := 187) (v := (-10 : Int32)) X dX12_open_187 (by decide) ?_
    refine g_aload_n (pc := 189) X 0 rfl rfl dX12_open_189 ?_
    refine g_getI (pc := 190) X fl_X12_141 q1 dX12_open_190 ?_
    refine g_isub (pc := 193) X dX12_open_193 ?_
    exact g_iret (pc := 194) X Tt ⟨_, rfl, rfl, hV⟩ dX12_open_194
def V_X12_open_147 (w : Wd) (sh : List Sh) (x0 : Nat) (h : Hp) (L54 : Nat → Int32 → Hp → Prop) (L147 : Nat → Hp → Prop) (L197 : Nat → Int32 → Hp → Prop) (RET : Int32 → Hp → Prop) : Prop :=
  shAt sh x0 = some (.inr 12) ∧ (((¬ (h.1 x0 6) = 0) → (V_X12_open_172 w sh x0 h L54 L147 L197 RET)) ∧ (((h.1 x0 6) = 0) → ((((h.1 x0 15) ≤ (h.1 x0 14)) → (V_X12_open_172 w sh x0 h L54 L147 L197 RET)) ∧ ((¬ (h.1 x0 15) ≤ (h.1 x0 14)) → (∃ P4 : Hp → Prop, C_X12_window w sh x0 h P4 ∧ (∀ h7 : Hp, P4 h7 → (L147 x0 h7)))))))
set_option maxRecDepth 20000 in
set_option maxHeartbeats 4000000 in
theorem W_X12_open_147 {w : Wd} {E : GE} {sh : List Sh} {x0 : Nat} {h : Hp} {L54 : Nat → Int32 → Hp → Prop} {L147 : Nat → Hp → Prop} {L197 : Nat → Int32 → Hp → Prop} {RET : Int32 → Hp → Prop} (X : Cx w E cX12_open 3 RX12) (Tt : Rt w E (some .int) sh.length 0 0 (fun q sh9 h9 => ∃ v : Int32, q = some (Value.int v) ∧ sh9 = sh ∧ RET v h9)) (hR : gR E = { frames := 6, cells := 0, slots := 0, locals := 177 }) (hL54 : ∀ (x0 : Nat) (x1 : Int32) (h : Hp), L54 x0 x1 h → G w E 3 54 [(0, rv w.2.2.2 x0), (1, Value.int x1)] [] sh h 0 0) (hL147 : ∀ (x0 : Nat) (h : Hp), L147 x0 h → G w E 3 147 [(0, rv w.2.2.2 x0)] [] sh h 0 0) (hL197 : ∀ (x0 : Nat) (x2 : Int32) (h : Hp), L197 x0 x2 h → G w E 3 197 [(0, rv w.2.2.2 x0), (2, Value.int x2)] [] sh h 0 0) (hV : V_X12_open_147 w sh x0 h L54 L147 L197 RET) : G w E 3 147 [(0, rv w.2.2.2 x0)] [] sh h 0 0 := by
  unfold V_X12_open_147 at hV
  refine g_aload_n (pc := 147) X 0 rfl rfl dX12_open_147 ?_
  obtain ⟨q1, hV⟩ := hV
  refine g_getI (pc := 148) X fl_X12_141 q1 dX12_open_148 ?_
  refine g_if_ne (pc := 151) X 172 dX12_open_151 (by decide) (fun c2 => ?_) (fun c2 => ?_)
  · have hV := hV.1 c2
    exact W_X12_open_172 X Tt hR hL54 hL147 hL197 hV
  · have hV := hV.2 c2
    refine g_aload_n (pc := 154) X 0 rfl rfl dX12_open_154 ?_
    refine g_getI (pc := 155) X fl_X12_150 q1 dX12_open_155 ?_
    refine g_aload_n (pc := 158) X 0 rfl rfl dX12_open_158 ?_
    refine g_getI (pc := 159) X fl_X12_147 q1 dX12_open_159 ?_
    refine g_icmp_ge (pc := 162) X 172 dX12_open_162 (by decide) (fun c3 => ?_) (fun c3 => ?_)
    · have hV := hV.1 c3
      exact W_X12_open_172 X Tt hR hL54 hL147 hL197 hV
    · have hV := hV.2 c3
      refine g_aload_n (pc := 165) X 0 rfl rfl dX12_open_165 ?_
      obtain ⟨P4, t5, hV⟩ := hV
      refine g_cVV (pc := 166) X (As := []) ml_X12_207 rfl q1 t5 (by rw [hR]; exact ⟨by decide, by decide, by decide, by decide⟩) rfl rfl (Nat.zero_le _) dX12_open_166 (fun h7 p6 => ?_)
      have hV := hV h7 p6
      refine g_goto (pc := 169) X 147 dX12_open_169 (by decide) ?_
      exact hL147 x0 h7 hV
def V_X12_open_118 (w : Wd) (sh : List Sh) (x0 : Nat) (h : Hp) (L54 : Nat → Int32 → Hp → Prop) (L147 : Nat → Hp → Prop) (L197 : Nat → Int32 → Hp → Prop) (RET : Int32 → Hp → Prop) : Prop :=
  shAt sh x0 = some (.inr 12) ∧ (∀ h2 : Hp, h2 = wR h x0 16 (h.2.1 x0 4) → (∀ h4 : Hp, h4 = wI h2 x0 17 (h2.1 x0 5) → (∀ h6 : Hp, h6 = wR h4 x0 22 (h2.2.1 x0 20) → (∀ h8 : Hp, h8 = wI h6 x0 23 (0 : Int32) → (L147 x0 h8)))))
set_option maxRecDepth 20000 in
set_option maxHeartbeats 4000000 in
theorem W_X12_open_118 {w : Wd} {E : GE} {sh : List Sh} {x0 : Nat} {h : Hp} {L54 : Nat → Int32 → Hp → Prop} {L147 : Nat → Hp → Prop} {L197 : Nat → Int32 → Hp → Prop} {RET : Int32 → Hp → Prop} (X : Cx w E cX12_open 3 RX12) (Tt : Rt w E (some .int) sh.length 0 0 (fun q sh9 h9 => ∃ v : Int32, q = some (Value.int v) ∧ sh9 = sh ∧ RET v h9)) (hR : gR E = { frames := 6, cells := 0, slots := 0, locals := 177 }) (hL54 : ∀ (x0 : Nat) (x1 : Int32) (h : Hp), L54 x0 x1 h → G w E 3 54 [(0, rv w.2.2.2 x0), (1, Value.int x1)] [] sh h 0 0) (hL147 : ∀ (x0 : Nat) (h : Hp), L147 x0 h → G w E 3 147 [(0, rv w.2.2.2 x0)] [] sh h 0 0) (hL197 : ∀ (x0 : Nat) (x2 : Int32) (h : Hp), L197 x0 x2 h → G w E 3 197 [(0, rv w.2.2.2 x0), (2, Value.int x2)] [] sh h 0 0) (hV : V_X12_open_118 w sh x0 h L54 L147 L197 RET) : G w E 3 118 [(0, rv w.2.2.2 x0)] [] sh h 0 0 := by
  unfold V_X12_open_118 at hV
  refine g_aload_n (pc := 118) X 0 rfl rfl dX12_open_118 ?_
  refine g_aload_n (pc := 119) X 0 rfl rfl dX12_open_119 ?_
  obtain ⟨q1, hV⟩ := hV
  refine g_getR (pc := 120) X fl_X12_16 q1 dX12_open_120 ?_
  refine g_putR (pc := 123) X fl_X12_39 q1 rfl dX12_open_123 (fun h2 e3 => ?_)
  have hV := hV h2 e3
  refine g_aload_n (pc := 126) X 0 rfl rfl dX12_open_126 ?_
  refine g_aload_n (pc := 127) X 0 rfl rfl dX12_open_127 ?_
  refine g_getI (pc := 128) X fl_X12_138 q1 dX12_open_128 ?_
  refine g_putI (pc := 131) X fl_X12_201 q1 rfl rfl dX12_open_131 (fun h4 e5 => ?_)
  have hV := hV h4 e5
  refine g_aload_n (pc := 134) X 0 rfl rfl dX12_open_134 ?_
  refine g_aload_n (pc := 135) X 0 rfl rfl dX12_open_135 ?_
  refine g_getRe (pc := 136) X fl_X12_42 q1 (congrFun (congrFun (rfI e5) _) _) dX12_open_136 ?_
  refine g_putR (pc := 139) X fl_X12_48 q1 rfl dX12_open_139 (fun h6 e7 => ?_)
  have hV := hV h6 e7
  refine g_aload_n (pc := 142) X 0 rfl rfl dX12_open_142 ?_
  refine g_iconst (pc := 143) (v := (0 : Int32)) X dX12_open_143 (by decide) ?_
  refine g_putI (pc := 144) X fl_X12_204 q1 rfl rfl dX12_open_144 (fun h8 e9 => ?_)
  have hV := hV h8 e9
  exact hL147 x0 h8 hV
def V_X12_open_101 (w : Wd) (sh : List Sh) (x0 : Nat) (x1 : Int32) (h : Hp) (L54 : Nat → Int32 → Hp → Prop) (L147 : Nat → Hp → Prop) (L197 : Nat → Int32 → Hp → Prop) (RET : Int32 → Hp → Prop) : Prop :=
  shAt sh x0 = some (.inr 12) ∧ (((¬ (h.1 x0 6) = 0) → (V_X12_open_118 w sh x0 h L54 L147 L197 RET)) ∧ (((h.1 x0 6) = 0) → ((((x1 &&& (4 : Int32)) ≤ 0) → (V_X12_open_118 w sh x0 h L54 L147 L197 RET)) ∧ ((¬ (x1 &&& (4 : Int32)) ≤ 0) → (∃ P4 : Hp → Prop, C_X12_appendix w sh x0 h P4 ∧ (∀ h7 : Hp, P4 h7 → (V_X12_open_118 w sh x0 h7 L54 L147 L197 RET)))))))
set_option maxRecDepth 20000 in
set_option maxHeartbeats 4000000 in
theorem W_X12_open_101 {w : Wd} {E : GE} {sh : List Sh} {x0 : Nat} {x1 : Int32} {h : Hp} {L54 : Nat → Int32 → Hp → Prop} {L147 : Nat → Hp → Prop} {L197 : Nat → Int32 → Hp → Prop} {RET : Int32 → Hp → Prop} (X : Cx w E cX12_open 3 RX12) (Tt : Rt w E (some .int) sh.length 0 0 (fun q sh9 h9 => ∃ v : Int32, q = some (Value.int v) ∧ sh9 = sh ∧ RET v h9)) (hR : gR E = { frames := 6, cells := 0, slots := 0, locals := 177 }) (hL54 : ∀ (x0 : Nat) (x1 : Int32) (h : Hp), L54 x0 x1 h → G w E 3 54 [(0, rv w.2.2.2 x0), (1, Value.int x1)] [] sh h 0 0) (hL147 : ∀ (x0 : Nat) (h : Hp), L147 x0 h → G w E 3 147 [(0, rv w.2.2.2 x0)] [] sh h 0 0) (hL197 : ∀ (x0 : Nat) (x2 : Int32) (h : Hp), L197 x0 x2 h → G w E 3 197 [(0, rv w.2.2.2 x0), (2, Value.int x2)] [] sh h 0 0) (hV : V_X12_open_101 w sh x0 x1 h L54 L147 L197 RET) : G w E 3 101 [(0, rv w.2.2.2 x0), (1, Value.int x1)] [] sh h 0 0 := by
  unfold V_X12_open_101 at hV
  refine g_aload_n (pc := 101) X 0 rfl rfl dX12_open_101 ?_
  obtain ⟨q1, hV⟩ := hV
  refine g_getI (pc := 102) X fl_X12_141 q1 dX12_open_102 ?_
  refine g_if_ne (pc := 105) X 118 dX12_open_105 (by decide) (fun c2 => ?_) (fun c2 => ?_)
  · have hV := hV.1 c2
    refine g_lv [0] rfl ?_
    exact W_X12_open_118 X Tt hR hL54 hL147 hL197 hV
  · have hV := hV.2 c2
    refine g_iload_n (pc := 108) X 1 rfl rfl dX12_open_108 ?_
    refine g_iconst (pc := 109) (v := (4 : Int32)) X dX12_open_109 (by decide) ?_
    refine g_iand (pc := 110) X dX12_open_110 ?_
    refine g_if_le (pc := 111) X 118 dX12_open_111 (by decide) (fun c3 => ?_) (fun c3 => ?_)
    · have hV := hV.1 c3
      refine g_lv [0] rfl ?_
      exact W_X12_open_118 X Tt hR hL54 hL147 hL197 hV
    · have hV := hV.2 c3
      refine g_aload_n (pc := 114) X 0 rfl rfl dX12_open_114 ?_
      obtain ⟨P4, t5, hV⟩ := hV
      refine g_cVV (pc := 115) X (As := []) ml_X12_198 rfl q1 t5 (by rw [hR]; exact ⟨by decide, by decide, by decide, by decide⟩) rfl rfl (Nat.zero_le _) dX12_open_115 (fun h7 p6 => ?_)
      have hV := hV h7 p6
      refine g_lv [0] rfl ?_
      exact W_X12_open_118 X Tt hR hL54 hL147 hL197 hV
def V_X12_open_54 (w : Wd) (sh : List Sh) (x0 : Nat) (x1 : Int32) (h : Hp) (L54 : Nat → Int32 → Hp → Prop) (L147 : Nat → Hp → Prop) (L197 : Nat → Int32 → Hp → Prop) (RET : Int32 → Hp → Prop) : Prop :=
  (((8 : Int32) ≤ x1) → (shAt sh x0 = some (.inr 12) ∧ (∃ P3 : Hp → Prop, C_X12_noCaches w sh x0 h P3 ∧ (∀ h6 : Hp, P3 h6 → (∃ P7 : Int32 → Hp → Prop, C_X12_head w sh x0 (6 : Int32) h6 P7 ∧ (∀ (v11 : Int32) (h10 : Hp), P7 v11 h10 → (∀ y12 : Int32, y12 = v11 → (((¬ (h10.1 x0 6) = 0) → (V_X12_open_101 w sh x0 y12 h10 L54 L147 L197 RET)) ∧ (((h10.1 x0 6) = 0) → ((((y12 &&& (2 : Int32)) ≤ 0) → (V_X12_open_101 w sh x0 y12 h10 L54 L147 L197 RET)) ∧ ((¬ (y12 &&& (2 : Int32)) ≤ 0) → (∃ P16 : Hp → Prop, C_X12_givenTable w sh x0 h10 P16 ∧ (∀ h19 : Hp, P16 h19 → (V_X12_open_101 w sh x0 y12 h19 L54 L147 L197 RET)))))))))))))) ∧ ((¬ (8 : Int32) ≤ x1) → (shAt sh x0 = some (.inr 12) ∧ (∃ n22 : Nat, shAt sh (h.2.1 x0 30) = some (.inl (1, n22)) ∧ (vp_in x1 n22 ∧ (∀ h24 : Hp, h24 = wI h (h.2.1 x0 30) x1.toNatClampNeg (0 : Int32) → (∀ y26 : Int32, y26 = x1 + (1 : Int32) → (L54 x0 y26 h24)))))))
set_option maxRecDepth 20000 in
set_option maxHeartbeats 4000000 in
theorem W_X12_open_54 {w : Wd} {E : GE} {sh : List Sh} {x0 : Nat} {x1 : Int32} {h : Hp} {L54 : Nat → Int32 → Hp → Prop} {L147 : Nat → Hp → Prop} {L197 : Nat → Int32 → Hp → Prop} {RET : Int32 → Hp → Prop} (X : Cx w E cX12_open 3 RX12) (Tt : Rt w E (some .int) sh.length 0 0 (fun q sh9 h9 => ∃ v : Int32, q = some (Value.int v) ∧ sh9 = sh ∧ RET v h9)) (hR : gR E = { frames := 6, cells := 0, slots := 0, locals := 177 }) (hL54 : ∀ (x0 : Nat) (x1 : Int32) (h : Hp), L54 x0 x1 h → G w E 3 54 [(0, rv w.2.2.2 x0), (1, Value.int x1)] [] sh h 0 0) (hL147 : ∀ (x0 : Nat) (h : Hp), L147 x0 h → G w E 3 147 [(0, rv w.2.2.2 x0)] [] sh h 0 0) (hL197 : ∀ (x0 : Nat) (x2 : Int32) (h : Hp), L197 x0 x2 h → G w E 3 197 [(0, rv w.2.2.2 x0), (2, Value.int x2)] [] sh h 0 0) (hV : V_X12_open_54 w sh x0 x1 h L54 L147 L197 RET) : G w E 3 54 [(0, rv w.2.2.2 x0), (1, Value.int x1)] [] sh h 0 0 := by
  unfold V_X12_open_54 at hV
  refine g_iload_n (pc := 54) X 1 rfl rfl dX12_open_54 ?_
  refine g_bipush (pc := 55) (v := (8 : Int32)) X dX12_open_55 (by decide) ?_
  refine g_icmp_ge (pc := 57) X 73 dX12_open_57 (by decide) (fun c1 => ?_) (fun c1 => ?_)
  · have hV := hV.1 c1
    refine g_aload_n (pc := 73) X 0 rfl rfl dX12_open_73 ?_
    obtain ⟨q2, hV⟩ := hV
    obtain ⟨P3, t4, hV⟩ := hV
    refine g_cVV (pc := 74) X (As := []) ml_X12_189 rfl q2 t4 (by rw [hR]; exact ⟨by decide, by decide, by decide, by decide⟩) rfl rfl (Nat.zero_le _) dX12_open_74 (fun h6 p5 => ?_)
    have hV := hV h6 p5
    refine g_aload_n (pc := 77) X 0 rfl rfl dX12_open_77 ?_
    refine g_bipush (pc := 78) (v := (6 : Int32)) X dX12_open_78 (by decide) ?_
    obtain ⟨P7, t8, hV⟩ := hV
    refine g_cVI (pc := 80) X (As := [Value.int (6 : Int32)]) ml_X12_192 rfl q2 t8 (by rw [hR]; exact ⟨by decide, by decide, by decide, by decide⟩) rfl rfl (Nat.zero_le _) dX12_open_80 (fun v11 h10 p9 => ?_)
    have hV := hV v11 h10 p9
    refine g_istore_n (pc := 83) X (i := 1) (rest := [(0, rv w.2.2.2 x0)]) rfl (by decide) (by simp [flt1, flt2, rv_cat, cat_int, cat_long]) dX12_open_83 (fun y12 e13 => ?_)
    have hV := hV y12 e13
    refine g_aload_n (pc := 84) X 1 rfl rfl dX12_open_84 ?_
    refine g_getI (pc := 85) X fl_X12_141 q2 dX12_open_85 ?_
    refine g_if_ne (pc := 88) X 101 dX12_open_88 (by decide) (fun c14 => ?_) (fun c14 => ?_)
    · have hV := hV.1 c14
      refine g_lv [1, 0] rfl ?_
      exact W_X12_open_101 X Tt hR hL54 hL147 hL197 hV
    · have hV := hV.2 c14
      refine g_iload_n (pc := 91) X 0 rfl rfl dX12_open_91 ?_
      refine g_iconst (pc := 92) (v := (2 : Int32)) X dX12_open_92 (by decide) ?_
      refine g_iand (pc := 93) X dX12_open_93 ?_
      refine g_if_le (pc := 94) X 101 dX12_open_94 (by decide) (fun c15 => ?_) (fun c15 => ?_)
      · have hV := hV.1 c15
        refine g_lv [1, 0] rfl ?_
        exact W_X12_open_101 X Tt hR hL54 hL147 hL197 hV
      · have hV := hV.2 c15
        refine g_aload_n (pc := 97) X 1 rfl rfl dX12_open_97 ?_
        obtain ⟨P16, t17, hV⟩ := hV
        refine g_cVV (pc := 98) X (As := []) ml_X12_195 rfl q2 t17 (by rw [hR]; exact ⟨by decide, by decide, by decide, by decide⟩) rfl rfl (Nat.zero_le _) dX12_open_98 (fun h19 p18 => ?_)
        have hV := hV h19 p18
        refine g_lv [1, 0] rfl ?_
        exact W_X12_open_101 X Tt hR hL54 hL147 hL197 hV
  · have hV := hV.2 c1
    refine g_aload_n (pc := 60) X 0 rfl rfl dX12_open_60 ?_
    obtain ⟨q20, hV⟩ := hV
    refine g_getR (pc := 61) X fl_X12_61 q20 dX12_open_61 ?_
    refine g_iload_n (pc := 64) X 1 rfl rfl dX12_open_64 ?_
    refine g_iconst (pc := 65) (v := (0 : Int32)) X dX12_open_65 (by decide) ?_
    obtain ⟨n22, q21, hV⟩ := hV
    obtain ⟨q23, hV⟩ := hV
    refine g_iast (pc := 66) X q21 q23 dX12_open_66 (fun h24 e25 => ?_)
    have hV := hV h24 e25
    refine g_iinc (pc := 67) X 1 (v := (1 : Int32)) (rest := [(0, rv w.2.2.2 x0)]) rfl (by decide) (by simp [flt1, flt2, rv_cat, cat_int, cat_long]) (by decide) dX12_open_67 (fun y26 e27 => ?_)
    have hV := hV y26 e27
    refine g_goto (pc := 70) X 54 dX12_open_70 (by decide) ?_
    refine g_lv [1, 0] rfl ?_
    exact hL54 x0 y26 h24 hV
def V_X12_open_0 (w : Wd) (sh : List Sh) (x0 : Nat) (h : Hp) (L54 : Nat → Int32 → Hp → Prop) (L147 : Nat → Hp → Prop) (L197 : Nat → Int32 → Hp → Prop) (RET : Int32 → Hp → Prop) : Prop :=
  shAt sh x0 = some (.inr 12) ∧ (∀ h2 : Hp, h2 = wI h x0 6 (0 : Int32) → (∀ h4 : Hp, h4 = wI h2 x0 8 (-1 : Int32) → (∀ h6 : Hp, h6 = wR h4 x0 13 (h.2.1 x0 0) → (∀ h8 : Hp, h8 = wI h6 x0 14 (0 : Int32) → (∀ h10 : Hp, h10 = wI h8 x0 15 (h8.1 x0 1) → (∃ P12 : Hp → Prop, C_X12_takeTable w sh x0 (0 : Int32) (1 : Int32) h10 P12 ∧ (∀ h15 : Hp, P12 h15 → (∀ h16 : Hp, h16 = wI h15 x0 18 (1 : Int32) → (∀ h18 : Hp, h18 = wI h16 x0 19 (1 : Int32) → (∀ h20 : Hp, h20 = wI h18 x0 31 (0 : Int32) → (∀ y22 : Int32, y22 = (0 : Int32) → (L54 x0 y22 h20))))))))))))
set_option maxRecDepth 20000 in
set_option maxHeartbeats 4000000 in
theorem W_X12_open_0 {w : Wd} {E : GE} {sh : List Sh} {x0 : Nat} {h : Hp} {L54 : Nat → Int32 → Hp → Prop} {L147 : Nat → Hp → Prop} {L197 : Nat → Int32 → Hp → Prop} {RET : Int32 → Hp → Prop} (X : Cx w E cX12_open 3 RX12) (Tt : Rt w E (some .int) sh.length 0 0 (fun q sh9 h9 => ∃ v : Int32, q = some (Value.int v) ∧ sh9 = sh ∧ RET v h9)) (hR : gR E = { frames := 6, cells := 0, slots := 0, locals := 177 }) (hL54 : ∀ (x0 : Nat) (x1 : Int32) (h : Hp), L54 x0 x1 h → G w E 3 54 [(0, rv w.2.2.2 x0), (1, Value.int x1)] [] sh h 0 0) (hL147 : ∀ (x0 : Nat) (h : Hp), L147 x0 h → G w E 3 147 [(0, rv w.2.2.2 x0)] [] sh h 0 0) (hL197 : ∀ (x0 : Nat) (x2 : Int32) (h : Hp), L197 x0 x2 h → G w E 3 197 [(0, rv w.2.2.2 x0), (2, Value.int x2)] [] sh h 0 0) (hV : V_X12_open_0 w sh x0 h L54 L147 L197 RET) : G w E 3 0 [(0, rv w.2.2.2 x0)] [] sh h 0 0 := by
  unfold V_X12_open_0 at hV
  refine g_aload_n (pc := 0) X 0 rfl rfl dX12_open_0 ?_
  refine g_iconst (pc := 1) (v := (0 : Int32)) X dX12_open_1 (by decide) ?_
  obtain ⟨q1, hV⟩ := hV
  refine g_putI (pc := 2) X fl_X12_141 q1 rfl rfl dX12_open_2 (fun h2 e3 => ?_)
  have hV := hV h2 e3
  refine g_aload_n (pc := 5) X 0 rfl rfl dX12_open_5 ?_
  refine g_iconst (pc := 6) (v := (-1 : Int32)) X dX12_open_6 (by decide) ?_
  refine g_putI (pc := 7) X fl_X12_19 q1 rfl rfl dX12_open_7 (fun h4 e5 => ?_)
  have hV := hV h4 e5
  refine g_aload_n (pc := 10) X 0 rfl rfl dX12_open_10 ?_
  refine g_aload_n (pc := 11) X 0 rfl rfl dX12_open_11 ?_
  refine g_getRe (pc := 12) X fl_X12_7 q1 (congrFun (congrFun ((rfI e5).trans (rfI e3)) _) _) dX12_open_12 ?_
  refine g_putR (pc := 15) X fl_X12_36 q1 rfl dX12_open_15 (fun h6 e7 => ?_)
  have hV := hV h6 e7
  refine g_aload_n (pc := 18) X 0 rfl rfl dX12_open_18 ?_
  refine g_iconst (pc := 19) (v := (0 : Int32)) X dX12_open_19 (by decide) ?_
  refine g_putI (pc := 20) X fl_X12_150 q1 rfl rfl dX12_open_20 (fun h8 e9 => ?_)
  have hV := hV h8 e9
  refine g_aload_n (pc := 23) X 0 rfl rfl dX12_open_23 ?_
  refine g_aload_n (pc := 24) X 0 rfl rfl dX12_open_24 ?_
  refine g_getI (pc := 25) X fl_X12_130 q1 dX12_open_25 ?_
  refine g_putI (pc := 28) X fl_X12_147 q1 rfl rfl dX12_open_28 (fun h10 e11 => ?_)
  have hV := hV h10 e11
  refine g_aload_n (pc := 31) X 0 rfl rfl dX12_open_31 ?_
  refine g_iconst (pc := 32) (v := (0 : Int32)) X dX12_open_32 (by decide) ?_
  refine g_iconst (pc := 33) (v := (1 : Int32)) X dX12_open_33 (by decide) ?_
  obtain ⟨P12, t13, hV⟩ := hV
  refine g_cVV (pc := 34) X (As := [Value.int (0 : Int32), Value.int (1 : Int32)]) ml_X12_114 rfl q1 t13 (by rw [hR]; exact ⟨by decide, by decide, by decide, by decide⟩) rfl rfl (Nat.zero_le _) dX12_open_34 (fun h15 p14 => ?_)
  have hV := hV h15 p14
  refine g_aload_n (pc := 37) X 0 rfl rfl dX12_open_37 ?_
  refine g_iconst (pc := 38) (v := (1 : Int32)) X dX12_open_38 (by decide) ?_
  refine g_putI (pc := 39) X fl_X12_183 q1 rfl rfl dX12_open_39 (fun h16 e17 => ?_)
  have hV := hV h16 e17
  refine g_aload_n (pc := 42) X 0 rfl rfl dX12_open_42 ?_
  refine g_iconst (pc := 43) (v := (1 : Int32)) X dX12_open_43 (by decide) ?_
  refine g_putI (pc := 44) X fl_X12_180 q1 rfl rfl dX12_open_44 (fun h18 e19 => ?_)
  have hV := hV h18 e19
  refine g_aload_n (pc := 47) X 0 rfl rfl dX12_open_47 ?_
  refine g_iconst (pc := 48) (v := (0 : Int32)) X dX12_open_48 (by decide) ?_
  refine g_putI (pc := 49) X fl_X12_186 q1 rfl rfl dX12_open_49 (fun h20 e21 => ?_)
  have hV := hV h20 e21
  refine g_iconst (pc := 52) (v := (0 : Int32)) X dX12_open_52 (by decide) ?_
  refine g_istore_n (pc := 53) X (i := 1) (rest := [(0, rv w.2.2.2 x0)]) rfl (by decide) (by simp [flt1, flt2, rv_cat, cat_int, cat_long]) dX12_open_53 (fun y22 e23 => ?_)
  have hV := hV y22 e23
  refine g_lv [1, 0] rfl ?_
  exact hL54 x0 y22 h20 hV
def C_X12_open (w : Wd) (sh : List Sh) (x0 : Nat) (h : Hp) (RET : Int32 → Hp → Prop) : Prop := CI w yX12_open (.code yX12_open cX12_open 3 (some .int)) 6 177 [rv w.2.2.2 x0] sh h RET
set_option maxRecDepth 20000 in
theorem K_X12_open {w : Wd} {sh : List Sh} {x0 : Nat} {h : Hp} {RET : Int32 → Hp → Prop} {α : Type} {r : α → α → Prop} (wf : WellFounded r) (I54 : α → Nat → Int32 → Hp → Prop) (I147 : α → Nat → Hp → Prop) (I197 : α → Nat → Int32 → Hp → Prop) (hE : V_X12_open_0 w sh x0 h (fun x0 x1 h => ∃ a, I54 a x0 x1 h) (fun x0 h => ∃ a, I147 a x0 h) (fun x0 x2 h => ∃ a, I197 a x0 x2 h) RET) (h54 : ∀ (b : α) (x0 : Nat) (x1 : Int32) (h : Hp), I54 b x0 x1 h → V_X12_open_54 w sh x0 x1 h (fun x0 x1 h => ∃ a, r a b ∧ I54 a x0 x1 h) (fun x0 h => ∃ a, r a b ∧ I147 a x0 h) (fun x0 x2 h => ∃ a, r a b ∧ I197 a x0 x2 h) RET) (h147 : ∀ (b : α) (x0 : Nat) (h : Hp), I147 b x0 h → V_X12_open_147 w sh x0 h (fun x0 x1 h => ∃ a, r a b ∧ I54 a x0 x1 h) (fun x0 h => ∃ a, r a b ∧ I147 a x0 h) (fun x0 x2 h => ∃ a, r a b ∧ I197 a x0 x2 h) RET) (h197 : ∀ (b : α) (x0 : Nat) (x2 : Int32) (h : Hp), I197 b x0 x2 h → V_X12_open_197 w sh x0 x2 h (fun x0 x1 h => ∃ a, r a b ∧ I54 a x0 x1 h) (fun x0 h => ∃ a, r a b ∧ I147 a x0 h) (fun x0 x2 h => ∃ a, r a b ∧ I197 a x0 x2 h) RET) : C_X12_open w sh x0 h RET :=
  Ct_of (by decide +kernel) (by simp [lg_sl, rv_cat, cat_int, cat_long]) (fun E X Tt hR _ => by
    have key : ∀ a : α, (∀ (x0 : Nat) (x1 : Int32) (h : Hp), I54 a x0 x1 h → G w E 3 54 [(0, rv w.2.2.2 x0), (1, Value.int x1)] [] sh h 0 0) ∧ (∀ (x0 : Nat) (h : Hp), I147 a x0 h → G w E 3 147 [(0, rv w.2.2.2 x0)] [] sh h 0 0) ∧ (∀ (x0 : Nat) (x2 : Int32) (h : Hp), I197 a x0 x2 h → G w E 3 197 [(0, rv w.2.2.2 x0), (2, Value.int x2)] [] sh h 0 0) := by
      intro a
      induction a using wf.induction with
      | _ a ih =>
        exact ⟨(fun x0 x1 h hi => W_X12_open_54 X Tt hR (fun x0 x1 h hx => by obtain ⟨a2, ha, hi⟩ := hx; exact ((ih a2 ha)).1 x0 x1 h hi) (fun x0 h hx => by obtain ⟨a2, ha, hi⟩ := hx; exact (((ih a2 ha)).2).1 x0 h hi) (fun x0 x2 h hx => by obtain ⟨a2, ha, hi⟩ := hx; exact (((ih a2 ha)).2).2 x0 x2 h hi) (h54 a x0 x1 h hi)), (fun x0 h hi => W_X12_open_147 X Tt hR (fun x0 x1 h hx => by obtain ⟨a2, ha, hi⟩ := hx; exact ((ih a2 ha)).1 x0 x1 h hi) (fun x0 h hx => by obtain ⟨a2, ha, hi⟩ := hx; exact (((ih a2 ha)).2).1 x0 h hi) (fun x0 x2 h hx => by obtain ⟨a2, ha, hi⟩ := hx; exact (((ih a2 ha)).2).2 x0 x2 h hi) (h147 a x0 h hi)), (fun x0 x2 h hi => W_X12_open_197 X Tt hR (fun x0 x1 h hx => by obtain ⟨a2, ha, hi⟩ := hx; exact ((ih a2 ha)).1 x0 x1 h hi) (fun x0 h hx => by obtain ⟨a2, ha, hi⟩ := hx; exact (((ih a2 ha)).2).1 x0 h hi) (fun x0 x2 h hx => by obtain ⟨a2, ha, hi⟩ := hx; exact (((ih a2 ha)).2).2 x0 x2 h hi) (h197 a x0 x2 h hi))⟩
    rw [show lv_args 0 [rv w.2.2.2 x0] = [(0, rv w.2.2.2 x0)] from by simp [lv_args, rv_cat, cat_int, cat_long]]
    refine g_lv [0] rfl ?_
    exact W_X12_open_0 X Tt hR (fun x0 x1 h hx => by obtain ⟨a2, hi⟩ := hx; exact ((key a2)).1 x0 x1 h hi) (fun x0 h hx => by obtain ⟨a2, hi⟩ := hx; exact (((key a2)).2).1 x0 h hi) (fun x0 x2 h hx => by obtain ⟨a2, hi⟩ := hx; exact (((key a2)).2).2 x0 x2 h hi) hE)
def V_X12_place_0 (w : Wd) (sh : List Sh) (x0 : Nat) (h : Hp)  (RET : Int32 → Hp → Prop) : Prop :=
  shAt sh x0 = some (.inr 12) ∧ (RET (h.1 x0 8) h)
set_option maxRecDepth 20000 in
set_option maxHeartbeats 4000000 in
theorem W_X12_place_0 {w : Wd} {E : GE} {sh : List Sh} {x0 : Nat} {h : Hp}  {RET : Int32 → Hp → Prop} (X : Cx w E cX12_place 1 RX12) (Tt : Rt w E (some .int) sh.length 0 0 (fun q sh9 h9 => ∃ v : Int32, q = some (Value.int v) ∧ sh9 = sh ∧ RET v h9)) (hR : gR E = { frames := 0, cells := 0, slots := 0, locals := 0 }) (hV : V_X12_place_0 w sh x0 h RET) : G w E 1 0 [(0, rv w.2.2.2 x0)] [] sh h 0 0 := by
  unfold V_X12_place_0 at hV
  refine g_aload_n (pc := 0) X 0 rfl rfl dX12_place_0 ?_
  obtain ⟨q1, hV⟩ := hV
  refine g_getI (pc := 1) X fl_X12_19 q1 dX12_place_1 ?_
  exact g_iret (pc := 4) X Tt ⟨_, rfl, rfl, hV⟩ dX12_place_4
def C_X12_place (w : Wd) (sh : List Sh) (x0 : Nat) (h : Hp) (RET : Int32 → Hp → Prop) : Prop := CI w yX12_place (.code yX12_place cX12_place 1 (some .int)) 0 0 [rv w.2.2.2 x0] sh h RET
theorem K_X12_place {w : Wd} {sh : List Sh} {x0 : Nat} {h : Hp} {RET : Int32 → Hp → Prop} (hV : V_X12_place_0 w sh x0 h RET) : C_X12_place w sh x0 h RET :=
  Ct_of (by decide +kernel) (by simp [lg_sl, rv_cat, cat_int, cat_long]) (fun E X Tt hR _ => by
    rw [show lv_args 0 [rv w.2.2.2 x0] = [(0, rv w.2.2.2 x0)] from by simp [lv_args, rv_cat, cat_int, cat_long]]
    refine g_lv [0] rfl ?_
    exact W_X12_place_0 X Tt hR hV)
