def V_X12_told_0 (w : Wd) (sh : List Sh) (x0 : Nat) (x1 : Int32) (h : Hp)  (RET : Int32 → Hp → Prop) : Prop :=
  ((x1 < 0) → (RET (-2 : Int32) h)) ∧ ((¬ x1 < 0) → (((x1 ≤ (9 : Int32)) → (((¬ x1 = (8 : Int32)) → (((¬ x1 = (9 : Int32)) → (shAt sh x0 = some (.inr 12) ∧ (∃ n7 : Nat, shAt sh (h.2.1 x0 30) = some (.inl (1, n7)) ∧ (vp_in x1 n7 ∧ (RET (h.1 (h.2.1 x0 30) x1.toNatClampNeg) h))))) ∧ ((x1 = (9 : Int32)) → (shAt sh x0 = some (.inr 12) ∧ (∃ n11 : Nat, shAt sh (h.2.1 x0 11) = some (.inl (1, n11)) ∧ (vp_in (1 : Int32) n11 ∧ (RET (h.1 (h.2.1 x0 11) (1 : Int32).toNatClampNeg) h))))))) ∧ ((x1 = (8 : Int32)) → (shAt sh x0 = some (.inr 12) ∧ (∃ n15 : Nat, shAt sh (h.2.1 x0 10) = some (.inl (1, n15)) ∧ (vp_in (1 : Int32) n15 ∧ (RET (h.1 (h.2.1 x0 10) (1 : Int32).toNatClampNeg) h))))))) ∧ ((¬ x1 ≤ (9 : Int32)) → (RET (-2 : Int32) h))))
set_option maxRecDepth 20000 in
set_option maxHeartbeats 4000000 in
theorem W_X12_told_0 {w : Wd} {E : GE} {sh : List Sh} {x0 : Nat} {x1 : Int32} {h : Hp}  {RET : Int32 → Hp → Prop} (X : Cx w E cX12_told 2 RX12) (Tt : Rt w E (some .int) sh.length 0 0 (fun q sh9 h9 => ∃ v : Int32, q = some (Value.int v) ∧ sh9 = sh ∧ RET v h9)) (hR : gR E = { frames := 0, cells := 0, slots := 0, locals := 0 }) (hV : V_X12_told_0 w sh x0 x1 h RET) : G w E 2 0 [(0, rv w.2.2.2 x0), (1, Value.int x1)] [] sh h 0 0 := by
  unfold V_X12_told_0 at hV
  refine g_iload_n (pc := 0) X 1 rfl rfl dX12_told_0 ?_
  refine g_if_lt (pc := 1) X 10 dX12_told_1 (by decide) (fun c1 => ?_) (fun c1 => ?_)
  · have hV := hV.1 c1
    refine g_bipush (pc := 10) (v := (-2 : Int32)) X dX12_told_10 (by decide) ?_
    refine g_goto (pc := 12) X 51 dX12_told_12 (by decide) ?_
    exact g_iret (pc := 51) X Tt ⟨_, rfl, rfl, hV⟩ dX12_told_51
  · have hV := hV.2 c1
    refine g_iload_n (pc := 4) X 1 rfl rfl dX12_told_4 ?_
    refine g_bipush (pc := 5) (v := (9 : Int32)) X dX12_told_5 (by decide) ?_
    refine g_icmp_le (pc := 7) X 15 dX12_told_7 (by decide) (fun c2 => ?_) (fun c2 => ?_)
    · have hV := hV.1 c2
      refine g_iload_n (pc := 15) X 1 rfl rfl dX12_told_15 ?_
      refine g_bipush (pc := 16) (v := (8 : Int32)) X dX12_told_16 (by decide) ?_
      refine g_icmp_ne (pc := 18) X 30 dX12_told_18 (by decide) (fun c3 => ?_) (fun c3 => ?_)
      · have hV := hV.1 c3
        refine g_iload_n (pc := 30) X 1 rfl rfl dX12_told_30 ?_
        refine g_bipush (pc := 31) (v := (9 : Int32)) X dX12_told_31 (by decide) ?_
        refine g_icmp_ne (pc := 33) X 45 dX12_told_33 (by decide) (fun c4 => ?_) (fun c4 => ?_)
        · have hV := hV.1 c4
          refine g_aload_n (pc := 45) X 0 rfl rfl dX12_told_45 ?_
          obtain ⟨q5, hV⟩ := hV
          refine g_getR (pc := 46) X fl_X12_61 q5 dX12_told_46 ?_
          refine g_iload_n (pc := 49) X 1 rfl rfl dX12_told_49 ?_
          obtain ⟨n7, q6, hV⟩ := hV
          obtain ⟨q8, hV⟩ := hV
          refine g_iald (pc := 50) X q6 q8 dX12_told_50 ?_
          exact g_iret (pc := 51) X Tt ⟨_, rfl, rfl, hV⟩ dX12_told_51
        · have hV := hV.2 c4
          refine g_aload_n (pc := 36) X 0 rfl rfl dX12_told_36 ?_
          obtain ⟨q9, hV⟩ := hV
          refine g_getR (pc := 37) X fl_X12_30 q9 dX12_told_37 ?_
          refine g_iconst (pc := 40) (v := (1 : Int32)) X dX12_told_40 (by decide) ?_
          obtain ⟨n11, q10, hV⟩ := hV
          obtain ⟨q12, hV⟩ := hV
          refine g_iald (pc := 41) X q10 q12 dX12_told_41 ?_
          refine g_goto (pc := 42) X 51 dX12_told_42 (by decide) ?_
          exact g_iret (pc := 51) X Tt ⟨_, rfl, rfl, hV⟩ dX12_told_51
      · have hV := hV.2 c3
        refine g_aload_n (pc := 21) X 0 rfl rfl dX12_told_21 ?_
        obtain ⟨q13, hV⟩ := hV
        refine g_getR (pc := 22) X fl_X12_27 q13 dX12_told_22 ?_
        refine g_iconst (pc := 25) (v := (1 : Int32)) X dX12_told_25 (by decide) ?_
        obtain ⟨n15, q14, hV⟩ := hV
        obtain ⟨q16, hV⟩ := hV
        refine g_iald (pc := 26) X q14 q16 dX12_told_26 ?_
        refine g_goto (pc := 27) X 51 dX12_told_27 (by decide) ?_
        exact g_iret (pc := 51) X Tt ⟨_, rfl, rfl, hV⟩ dX12_told_51
    · have hV := hV.2 c2
      refine g_bipush (pc := 10) (v := (-2 : Int32)) X dX12_told_10 (by decide) ?_
      refine g_goto (pc := 12) X 51 dX12_told_12 (by decide) ?_
      exact g_iret (pc := 51) X Tt ⟨_, rfl, rfl, hV⟩ dX12_told_51
def C_X12_told (w : Wd) (sh : List Sh) (x0 : Nat) (x1 : Int32) (h : Hp) (RET : Int32 → Hp → Prop) : Prop := CI w yX12_told (.code yX12_told cX12_told 2 (some .int)) 0 0 [rv w.2.2.2 x0, Value.int x1] sh h RET
theorem K_X12_told {w : Wd} {sh : List Sh} {x0 : Nat} {x1 : Int32} {h : Hp} {RET : Int32 → Hp → Prop} (hV : V_X12_told_0 w sh x0 x1 h RET) : C_X12_told w sh x0 x1 h RET :=
  Ct_of (by decide +kernel) (by simp [lg_sl, rv_cat, cat_int, cat_long]) (fun E X Tt hR _ => by
    rw [show lv_args 0 [rv w.2.2.2 x0, Value.int x1] = [(0, rv w.2.2.2 x0), (1, Value.int x1)] from by simp [lv_args, rv_cat, cat_int, cat_long]]
    refine g_lv [0, 1] rfl ?_
    exact W_X12_told_0 X Tt hR hV)
def V_X12_instruction_0 (w : Wd) (sh : List Sh) (x0 : Nat) (x1 : Int32) (x2 : Int32) (h : Hp)  (RET : Int32 → Hp → Prop) : Prop :=
  ((x1 < 0) → (RET (-2 : Int32) h)) ∧ ((¬ x1 < 0) → (shAt sh x0 = some (.inr 12) ∧ ((((h.1 x0 31) ≤ x1) → (RET (-2 : Int32) h)) ∧ ((¬ (h.1 x0 31) ≤ x1) → (((x2 < 0) → (RET (-2 : Int32) h)) ∧ ((¬ x2 < 0) → (((x2 ≤ (3 : Int32)) → (((¬ x2 = 0) → (((¬ x2 = (1 : Int32)) → (((¬ x2 = (2 : Int32)) → (∃ n10 : Nat, shAt sh (h.2.1 x0 35) = some (.inl (1, n10)) ∧ (vp_in x1 n10 ∧ (RET (h.1 (h.2.1 x0 35) x1.toNatClampNeg) h)))) ∧ ((x2 = (2 : Int32)) → (∃ n13 : Nat, shAt sh (h.2.1 x0 34) = some (.inl (1, n13)) ∧ (vp_in x1 n13 ∧ (RET (h.1 (h.2.1 x0 34) x1.toNatClampNeg) h)))))) ∧ ((x2 = (1 : Int32)) → (∃ n16 : Nat, shAt sh (h.2.1 x0 33) = some (.inl (1, n16)) ∧ (vp_in x1 n16 ∧ (RET (h.1 (h.2.1 x0 33) x1.toNatClampNeg) h)))))) ∧ ((x2 = 0) → (∃ n19 : Nat, shAt sh (h.2.1 x0 32) = some (.inl (1, n19)) ∧ (vp_in x1 n19 ∧ (RET (h.1 (h.2.1 x0 32) x1.toNatClampNeg) h)))))) ∧ ((¬ x2 ≤ (3 : Int32)) → (RET (-2 : Int32) h)))))))))
set_option maxRecDepth 20000 in
set_option maxHeartbeats 4000000 in
theorem W_X12_instruction_0 {w : Wd} {E : GE} {sh : List Sh} {x0 : Nat} {x1 : Int32} {x2 : Int32} {h : Hp}  {RET : Int32 → Hp → Prop} (X : Cx w E cX12_instruction 3 RX12) (Tt : Rt w E (some .int) sh.length 0 0 (fun q sh9 h9 => ∃ v : Int32, q = some (Value.int v) ∧ sh9 = sh ∧ RET v h9)) (hR : gR E = { frames := 0, cells := 0, slots := 0, locals := 0 }) (hV : V_X12_instruction_0 w sh x0 x1 x2 h RET) : G w E 3 0 [(0, rv w.2.2.2 x0), (1, Value.int x1), (2, Value.int x2)] [] sh h 0 0 := by
  unfold V_X12_instruction_0 at hV
  refine g_iload_n (pc := 0) X 1 rfl rfl dX12_instruction_0 ?_
  refine g_if_lt (pc := 1) X 21 dX12_instruction_1 (by decide) (fun c1 => ?_) (fun c1 => ?_)
  · have hV := hV.1 c1
    refine g_bipush (pc := 21) (v := (-2 : Int32)) X dX12_instruction_21 (by decide) ?_
    exact g_iret (pc := 23) X Tt ⟨_, rfl, rfl, hV⟩ dX12_instruction_23
  · have hV := hV.2 c1
    refine g_iload_n (pc := 4) X 1 rfl rfl dX12_instruction_4 ?_
    refine g_aload_n (pc := 5) X 0 rfl rfl dX12_instruction_5 ?_
    obtain ⟨q2, hV⟩ := hV
    refine g_getI (pc := 6) X fl_X12_186 q2 dX12_instruction_6 ?_
    refine g_icmp_ge (pc := 9) X 21 dX12_instruction_9 (by decide) (fun c3 => ?_) (fun c3 => ?_)
    · have hV := hV.1 c3
      refine g_bipush (pc := 21) (v := (-2 : Int32)) X dX12_instruction_21 (by decide) ?_
      exact g_iret (pc := 23) X Tt ⟨_, rfl, rfl, hV⟩ dX12_instruction_23
    · have hV := hV.2 c3
      refine g_iload_n (pc := 12) X 2 rfl rfl dX12_instruction_12 ?_
      refine g_if_lt (pc := 13) X 21 dX12_instruction_13 (by decide) (fun c4 => ?_) (fun c4 => ?_)
      · have hV := hV.1 c4
        refine g_bipush (pc := 21) (v := (-2 : Int32)) X dX12_instruction_21 (by decide) ?_
        exact g_iret (pc := 23) X Tt ⟨_, rfl, rfl, hV⟩ dX12_instruction_23
      · have hV := hV.2 c4
        refine g_iload_n (pc := 16) X 2 rfl rfl dX12_instruction_16 ?_
        refine g_iconst (pc := 17) (v := (3 : Int32)) X dX12_instruction_17 (by decide) ?_
        refine g_icmp_le (pc := 18) X 24 dX12_instruction_18 (by decide) (fun c5 => ?_) (fun c5 => ?_)
        · have hV := hV.1 c5
          refine g_iload_n (pc := 24) X 2 rfl rfl dX12_instruction_24 ?_
          refine g_if_ne (pc := 25) X 37 dX12_instruction_25 (by decide) (fun c6 => ?_) (fun c6 => ?_)
          · have hV := hV.1 c6
            refine g_iload_n (pc := 37) X 2 rfl rfl dX12_instruction_37 ?_
            refine g_iconst (pc := 38) (v := (1 : Int32)) X dX12_instruction_38 (by decide) ?_
            refine g_icmp_ne (pc := 39) X 51 dX12_instruction_39 (by decide) (fun c7 => ?_) (fun c7 => ?_)
            · have hV := hV.1 c7
              refine g_iload_n (pc := 51) X 2 rfl rfl dX12_instruction_51 ?_
              refine g_iconst (pc := 52) (v := (2 : Int32)) X dX12_instruction_52 (by decide) ?_
              refine g_icmp_ne (pc := 53) X 65 dX12_instruction_53 (by decide) (fun c8 => ?_) (fun c8 => ?_)
              · have hV := hV.1 c8
                refine g_aload_n (pc := 65) X 0 rfl rfl dX12_instruction_65 ?_
                refine g_getR (pc := 66) X fl_X12_73 q2 dX12_instruction_66 ?_
                refine g_iload_n (pc := 69) X 1 rfl rfl dX12_instruction_69 ?_
                obtain ⟨n10, q9, hV⟩ := hV
                obtain ⟨q11, hV⟩ := hV
                refine g_iald (pc := 70) X q9 q11 dX12_instruction_70 ?_
                exact g_iret (pc := 71) X Tt ⟨_, rfl, rfl, hV⟩ dX12_instruction_71
              · have hV := hV.2 c8
                refine g_aload_n (pc := 56) X 0 rfl rfl dX12_instruction_56 ?_
                refine g_getR (pc := 57) X fl_X12_70 q2 dX12_instruction_57 ?_
                refine g_iload_n (pc := 60) X 1 rfl rfl dX12_instruction_60 ?_
                obtain ⟨n13, q12, hV⟩ := hV
                obtain ⟨q14, hV⟩ := hV
                refine g_iald (pc := 61) X q12 q14 dX12_instruction_61 ?_
                refine g_goto (pc := 62) X 71 dX12_instruction_62 (by decide) ?_
                exact g_iret (pc := 71) X Tt ⟨_, rfl, rfl, hV⟩ dX12_instruction_71
            · have hV := hV.2 c7
              refine g_aload_n (pc := 42) X 0 rfl rfl dX12_instruction_42 ?_
              refine g_getR (pc := 43) X fl_X12_67 q2 dX12_instruction_43 ?_
              refine g_iload_n (pc := 46) X 1 rfl rfl dX12_instruction_46 ?_
              obtain ⟨n16, q15, hV⟩ := hV
              obtain ⟨q17, hV⟩ := hV
              refine g_iald (pc := 47) X q15 q17 dX12_instruction_47 ?_
              refine g_goto (pc := 48) X 71 dX12_instruction_48 (by decide) ?_
              exact g_iret (pc := 71) X Tt ⟨_, rfl, rfl, hV⟩ dX12_instruction_71
          · have hV := hV.2 c6
            refine g_aload_n (pc := 28) X 0 rfl rfl dX12_instruction_28 ?_
            refine g_getR (pc := 29) X fl_X12_64 q2 dX12_instruction_29 ?_
            refine g_iload_n (pc := 32) X 1 rfl rfl dX12_instruction_32 ?_
            obtain ⟨n19, q18, hV⟩ := hV
            obtain ⟨q20, hV⟩ := hV
            refine g_iald (pc := 33) X q18 q20 dX12_instruction_33 ?_
            refine g_goto (pc := 34) X 71 dX12_instruction_34 (by decide) ?_
            exact g_iret (pc := 71) X Tt ⟨_, rfl, rfl, hV⟩ dX12_instruction_71
        · have hV := hV.2 c5
          refine g_bipush (pc := 21) (v := (-2 : Int32)) X dX12_instruction_21 (by decide) ?_
          exact g_iret (pc := 23) X Tt ⟨_, rfl, rfl, hV⟩ dX12_instruction_23
def C_X12_instruction (w : Wd) (sh : List Sh) (x0 : Nat) (x1 : Int32) (x2 : Int32) (h : Hp) (RET : Int32 → Hp → Prop) : Prop := CI w yX12_instruction (.code yX12_instruction cX12_instruction 3 (some .int)) 0 0 [rv w.2.2.2 x0, Value.int x1, Value.int x2] sh h RET
theorem K_X12_instruction {w : Wd} {sh : List Sh} {x0 : Nat} {x1 : Int32} {x2 : Int32} {h : Hp} {RET : Int32 → Hp → Prop} (hV : V_X12_instruction_0 w sh x0 x1 x2 h RET) : C_X12_instruction w sh x0 x1 x2 h RET :=
  Ct_of (by decide +kernel) (by simp [lg_sl, rv_cat, cat_int, cat_long]) (fun E X Tt hR _ => by
    rw [show lv_args 0 [rv w.2.2.2 x0, Value.int x1, Value.int x2] = [(0, rv w.2.2.2 x0), (1, Value.int x1), (2, Value.int x2)] from by simp [lv_args, rv_cat, cat_int, cat_long]]
    refine g_lv [0, 1, 2] rfl ?_
    exact W_X12_instruction_0 X Tt hR hV)
def V_X12_table_0 (w : Wd) (sh : List Sh) (x0 : Nat) (x1 : Int32) (x2 : Int32) (h : Hp)  (RET : Int32 → Hp → Prop) : Prop :=
  ((x1 < 0) → (RET (-2 : Int32) h)) ∧ ((¬ x1 < 0) → ((((255 : Int32) < x1) → (RET (-2 : Int32) h)) ∧ ((¬ (255 : Int32) < x1) → (((x2 < 0) → (RET (-2 : Int32) h)) ∧ ((¬ x2 < 0) → (((x2 ≤ (5 : Int32)) → (shAt sh x0 = some (.inr 12) ∧ (∃ P6 : Int32 → Hp → Prop, C_X12_entryOf w sh x0 (1 : Int32) x1 x2 h P6 ∧ (∀ (v10 : Int32) (h9 : Hp), P6 v10 h9 → (RET v10 h9))))) ∧ ((¬ x2 ≤ (5 : Int32)) → (RET (-2 : Int32) h))))))))
set_option maxRecDepth 20000 in
set_option maxHeartbeats 4000000 in
theorem W_X12_table_0 {w : Wd} {E : GE} {sh : List Sh} {x0 : Nat} {x1 : Int32} {x2 : Int32} {h : Hp}  {RET : Int32 → Hp → Prop} (X : Cx w E cX12_table 3 RX12) (Tt : Rt w E (some .int) sh.length 0 0 (fun q sh9 h9 => ∃ v : Int32, q = some (Value.int v) ∧ sh9 = sh ∧ RET v h9)) (hR : gR E = { frames := 1, cells := 0, slots := 0, locals := 23 }) (hV : V_X12_table_0 w sh x0 x1 x2 h RET) : G w E 3 0 [(0, rv w.2.2.2 x0), (1, Value.int x1), (2, Value.int x2)] [] sh h 0 0 := by
  unfold V_X12_table_0 at hV
  refine g_iload_n (pc := 0) X 1 rfl rfl dX12_table_0 ?_
  refine g_if_lt (pc := 1) X 20 dX12_table_1 (by decide) (fun c1 => ?_) (fun c1 => ?_)
  · have hV := hV.1 c1
    refine g_bipush (pc := 20) (v := (-2 : Int32)) X dX12_table_20 (by decide) ?_
    refine g_goto (pc := 22) X 32 dX12_table_22 (by decide) ?_
    exact g_iret (pc := 32) X Tt ⟨_, rfl, rfl, hV⟩ dX12_table_32
  · have hV := hV.2 c1
    refine g_iload_n (pc := 4) X 1 rfl rfl dX12_table_4 ?_
    refine g_sipush (pc := 5) (v := (255 : Int32)) X dX12_table_5 (by decide) ?_
    refine g_icmp_gt (pc := 8) X 20 dX12_table_8 (by decide) (fun c2 => ?_) (fun c2 => ?_)
    · have hV := hV.1 c2
      refine g_bipush (pc := 20) (v := (-2 : Int32)) X dX12_table_20 (by decide) ?_
      refine g_goto (pc := 22) X 32 dX12_table_22 (by decide) ?_
      exact g_iret (pc := 32) X Tt ⟨_, rfl, rfl, hV⟩ dX12_table_32
    · have hV := hV.2 c2
      refine g_iload_n (pc := 11) X 2 rfl rfl dX12_table_11 ?_
      refine g_if_lt (pc := 12) X 20 dX12_table_12 (by decide) (fun c3 => ?_) (fun c3 => ?_)
      · have hV := hV.1 c3
        refine g_bipush (pc := 20) (v := (-2 : Int32)) X dX12_table_20 (by decide) ?_
        refine g_goto (pc := 22) X 32 dX12_table_22 (by decide) ?_
        exact g_iret (pc := 32) X Tt ⟨_, rfl, rfl, hV⟩ dX12_table_32
      · have hV := hV.2 c3
        refine g_iload_n (pc := 15) X 2 rfl rfl dX12_table_15 ?_
        refine g_iconst (pc := 16) (v := (5 : Int32)) X dX12_table_16 (by decide) ?_
        refine g_icmp_le (pc := 17) X 25 dX12_table_17 (by decide) (fun c4 => ?_) (fun c4 => ?_)
        · have hV := hV.1 c4
          refine g_aload_n (pc := 25) X 0 rfl rfl dX12_table_25 ?_
          refine g_iconst (pc := 26) (v := (1 : Int32)) X dX12_table_26 (by decide) ?_
          refine g_iload_n (pc := 27) X 1 rfl rfl dX12_table_27 ?_
          refine g_iload_n (pc := 28) X 2 rfl rfl dX12_table_28 ?_
          obtain ⟨q5, hV⟩ := hV
          obtain ⟨P6, t7, hV⟩ := hV
          refine g_cVI (pc := 29) X (As := [Value.int (1 : Int32), Value.int x1, Value.int x2]) ml_X12_126 rfl q5 t7 (by rw [hR]; exact ⟨by decide, by decide, by decide, by decide⟩) rfl rfl (Nat.zero_le _) dX12_table_29 (fun v10 h9 p8 => ?_)
          have hV := hV v10 h9 p8
          exact g_iret (pc := 32) X Tt ⟨_, rfl, rfl, hV⟩ dX12_table_32
        · have hV := hV.2 c4
          refine g_bipush (pc := 20) (v := (-2 : Int32)) X dX12_table_20 (by decide) ?_
          refine g_goto (pc := 22) X 32 dX12_table_22 (by decide) ?_
          exact g_iret (pc := 32) X Tt ⟨_, rfl, rfl, hV⟩ dX12_table_32
def C_X12_table (w : Wd) (sh : List Sh) (x0 : Nat) (x1 : Int32) (x2 : Int32) (h : Hp) (RET : Int32 → Hp → Prop) : Prop := CI w yX12_table (.code yX12_table cX12_table 3 (some .int)) 1 23 [rv w.2.2.2 x0, Value.int x1, Value.int x2] sh h RET
theorem K_X12_table {w : Wd} {sh : List Sh} {x0 : Nat} {x1 : Int32} {x2 : Int32} {h : Hp} {RET : Int32 → Hp → Prop} (hV : V_X12_table_0 w sh x0 x1 x2 h RET) : C_X12_table w sh x0 x1 x2 h RET :=
  Ct_of (by decide +kernel) (by simp [lg_sl, rv_cat, cat_int, cat_long]) (fun E X Tt hR _ => by
    rw [show lv_args 0 [rv w.2.2.2 x0, Value.int x1, Value.int x2] = [(0, rv w.2.2.2 x0), (1, Value.int x1), (2, Value.int x2)] from by simp [lv_args, rv_cat, cat_int, cat_long]]
    refine g_lv [0, 1, 2] rfl ?_
    exact W_X12_table_0 X Tt hR hV)
def V_X12_cache_37 (w : Wd) (sh : List Sh) (x0 : Nat) (x1 : Int32) (x2 : Int32) (s0 : Int32) (s1 : Int32) (h : Hp)  (RET : Int32 → Hp → Prop) : Prop :=
  ((s1 < s0) → (((¬ x1 = 0) → (shAt sh x0 = some (.inr 12) ∧ (∃ n5 : Nat, shAt sh (h.2.1 x0 28) = some (.inl (2, n5)) ∧ (vp_in x2 n5 ∧ (RET ((h.2.2 (h.2.1 x0 28) x2.toNatClampNeg).toInt32) h))))) ∧ ((x1 = 0) → (shAt sh x0 = some (.inr 12) ∧ (∃ n9 : Nat, shAt sh (h.2.1 x0 27) = some (.inl (2, n9)) ∧ (vp_in x2 n9 ∧ (RET ((h.2.2 (h.2.1 x0 27) x2.toNatClampNeg).toInt32) h))))))) ∧ ((¬ s1 < s0) → (RET (-2 : Int32) h))
set_option maxRecDepth 20000 in
set_option maxHeartbeats 4000000 in
theorem W_X12_cache_37 {w : Wd} {E : GE} {sh : List Sh} {x0 : Nat} {x1 : Int32} {x2 : Int32} {s0 : Int32} {s1 : Int32} {h : Hp}  {RET : Int32 → Hp → Prop} (X : Cx w E cX12_cache 3 RX12) (Tt : Rt w E (some .int) sh.length 0 0 (fun q sh9 h9 => ∃ v : Int32, q = some (Value.int v) ∧ sh9 = sh ∧ RET v h9)) (hR : gR E = { frames := 0, cells := 0, slots := 0, locals := 0 }) (hV : V_X12_cache_37 w sh x0 x1 x2 s0 s1 h RET) : G w E 3 37 [(0, rv w.2.2.2 x0), (1, Value.int x1), (2, Value.int x2)] [Value.int s0, Value.int s1] sh h 0 0 := by
  unfold V_X12_cache_37 at hV
  refine g_icmp_lt (pc := 37) X 43 dX12_cache_37 (by decide) (fun c1 => ?_) (fun c1 => ?_)
  · have hV := hV.1 c1
    refine g_iload_n (pc := 43) X 1 rfl rfl dX12_cache_43 ?_
    refine g_if_ne (pc := 44) X 56 dX12_cache_44 (by decide) (fun c2 => ?_) (fun c2 => ?_)
    · have hV := hV.1 c2
      refine g_aload_n (pc := 56) X 0 rfl rfl dX12_cache_56 ?_
      obtain ⟨q3, hV⟩ := hV
      refine g_getR (pc := 57) X fl_X12_58 q3 dX12_cache_57 ?_
      refine g_iload_n (pc := 60) X 2 rfl rfl dX12_cache_60 ?_
      obtain ⟨n5, q4, hV⟩ := hV
      obtain ⟨q6, hV⟩ := hV
      refine g_lald (pc := 61) X q4 q6 dX12_cache_61 ?_
      refine g_l2i (pc := 62) X dX12_cache_62 ?_
      exact g_iret (pc := 63) X Tt ⟨_, rfl, rfl, hV⟩ dX12_cache_63
    · have hV := hV.2 c2
      refine g_aload_n (pc := 47) X 0 rfl rfl dX12_cache_47 ?_
      obtain ⟨q7, hV⟩ := hV
      refine g_getR (pc := 48) X fl_X12_54 q7 dX12_cache_48 ?_
      refine g_iload_n (pc := 51) X 2 rfl rfl dX12_cache_51 ?_
      obtain ⟨n9, q8, hV⟩ := hV
      obtain ⟨q10, hV⟩ := hV
      refine g_lald (pc := 52) X q8 q10 dX12_cache_52 ?_
      refine g_goto (pc := 53) X 62 dX12_cache_53 (by decide) ?_
      refine g_l2i (pc := 62) X dX12_cache_62 ?_
      exact g_iret (pc := 63) X Tt ⟨_, rfl, rfl, hV⟩ dX12_cache_63
  · have hV := hV.2 c1
    refine g_bipush (pc := 40) (v := (-2 : Int32)) X dX12_cache_40 (by decide) ?_
    exact g_iret (pc := 42) X Tt ⟨_, rfl, rfl, hV⟩ dX12_cache_42
def V_X12_cache_0 (w : Wd) (sh : List Sh) (x0 : Nat) (x1 : Int32) (x2 : Int32) (h : Hp)  (RET : Int32 → Hp → Prop) : Prop :=
  ((x1 < 0) → (RET (-2 : Int32) h)) ∧ ((¬ x1 < 0) → ((((1 : Int32) < x1) → (RET (-2 : Int32) h)) ∧ ((¬ (1 : Int32) < x1) → (((x2 < 0) → (RET (-2 : Int32) h)) ∧ ((¬ x2 < 0) → (((¬ x1 = 0) → (shAt sh x0 = some (.inr 12) ∧ (∃ n7 : Nat, shAt sh (h.2.1 x0 11) = some (.inl (1, n7)) ∧ (vp_in (1 : Int32) n7 ∧ (V_X12_cache_37 w sh x0 x1 x2 ((256 : Int32) * (h.1 (h.2.1 x0 11) (1 : Int32).toNatClampNeg)) x2 h RET))))) ∧ ((x1 = 0) → (shAt sh x0 = some (.inr 12) ∧ (∃ n11 : Nat, shAt sh (h.2.1 x0 10) = some (.inl (1, n11)) ∧ (vp_in (1 : Int32) n11 ∧ (V_X12_cache_37 w sh x0 x1 x2 (h.1 (h.2.1 x0 10) (1 : Int32).toNatClampNeg) x2 h RET)))))))))))
set_option maxRecDepth 20000 in
set_option maxHeartbeats 4000000 in
theorem W_X12_cache_0 {w : Wd} {E : GE} {sh : List Sh} {x0 : Nat} {x1 : Int32} {x2 : Int32} {h : Hp}  {RET : Int32 → Hp → Prop} (X : Cx w E cX12_cache 3 RX12) (Tt : Rt w E (some .int) sh.length 0 0 (fun q sh9 h9 => ∃ v : Int32, q = some (Value.int v) ∧ sh9 = sh ∧ RET v h9)) (hR : gR E = { frames := 0, cells := 0, slots := 0, locals := 0 }) (hV : V_X12_cache_0 w sh x0 x1 x2 h RET) : G w E 3 0 [(0, rv w.2.2.2 x0), (1, Value.int x1), (2, Value.int x2)] [] sh h 0 0 := by
  unfold V_X12_cache_0 at hV
  refine g_iload_n (pc := 0) X 1 rfl rfl dX12_cache_0 ?_
  refine g_if_lt (pc := 1) X 40 dX12_cache_1 (by decide) (fun c1 => ?_) (fun c1 => ?_)
  · have hV := hV.1 c1
    refine g_bipush (pc := 40) (v := (-2 : Int32)) X dX12_cache_40 (by decide) ?_
    exact g_iret (pc := 42) X Tt ⟨_, rfl, rfl, hV⟩ dX12_cache_42
  · have hV := hV.2 c1
    refine g_iload_n (pc := 4) X 1 rfl rfl dX12_cache_4 ?_
    refine g_iconst (pc := 5) (v := (1 : Int32)) X dX12_cache_5 (by decide) ?_
    refine g_icmp_gt (pc := 6) X 40 dX12_cache_6 (by decide) (fun c2 => ?_) (fun c2 => ?_)
    · have hV := hV.1 c2
      refine g_bipush (pc := 40) (v := (-2 : Int32)) X dX12_cache_40 (by decide) ?_
      exact g_iret (pc := 42) X Tt ⟨_, rfl, rfl, hV⟩ dX12_cache_42
    · have hV := hV.2 c2
      refine g_iload_n (pc := 9) X 2 rfl rfl dX12_cache_9 ?_
      refine g_if_lt (pc := 10) X 40 dX12_cache_10 (by decide) (fun c3 => ?_) (fun c3 => ?_)
      · have hV := hV.1 c3
        refine g_bipush (pc := 40) (v := (-2 : Int32)) X dX12_cache_40 (by decide) ?_
        exact g_iret (pc := 42) X Tt ⟨_, rfl, rfl, hV⟩ dX12_cache_42
      · have hV := hV.2 c3
        refine g_iload_n (pc := 13) X 2 rfl rfl dX12_cache_13 ?_
        refine g_iload_n (pc := 14) X 1 rfl rfl dX12_cache_14 ?_
        refine g_if_ne (pc := 15) X 27 dX12_cache_15 (by decide) (fun c4 => ?_) (fun c4 => ?_)
        · have hV := hV.1 c4
          refine g_sipush (pc := 27) (v := (256 : Int32)) X dX12_cache_27 (by decide) ?_
          refine g_aload_n (pc := 30) X 0 rfl rfl dX12_cache_30 ?_
          obtain ⟨q5, hV⟩ := hV
          refine g_getR (pc := 31) X fl_X12_30 q5 dX12_cache_31 ?_
          refine g_iconst (pc := 34) (v := (1 : Int32)) X dX12_cache_34 (by decide) ?_
          obtain ⟨n7, q6, hV⟩ := hV
          obtain ⟨q8, hV⟩ := hV
          refine g_iald (pc := 35) X q6 q8 dX12_cache_35 ?_
          refine g_imul (pc := 36) X dX12_cache_36 ?_
          exact W_X12_cache_37 X Tt hR hV
        · have hV := hV.2 c4
          refine g_aload_n (pc := 18) X 0 rfl rfl dX12_cache_18 ?_
          obtain ⟨q9, hV⟩ := hV
          refine g_getR (pc := 19) X fl_X12_27 q9 dX12_cache_19 ?_
          refine g_iconst (pc := 22) (v := (1 : Int32)) X dX12_cache_22 (by decide) ?_
          obtain ⟨n11, q10, hV⟩ := hV
          obtain ⟨q12, hV⟩ := hV
          refine g_iald (pc := 23) X q10 q12 dX12_cache_23 ?_
          refine g_goto (pc := 24) X 37 dX12_cache_24 (by decide) ?_
          exact W_X12_cache_37 X Tt hR hV
def C_X12_cache (w : Wd) (sh : List Sh) (x0 : Nat) (x1 : Int32) (x2 : Int32) (h : Hp) (RET : Int32 → Hp → Prop) : Prop := CI w yX12_cache (.code yX12_cache cX12_cache 3 (some .int)) 0 0 [rv w.2.2.2 x0, Value.int x1, Value.int x2] sh h RET
theorem K_X12_cache {w : Wd} {sh : List Sh} {x0 : Nat} {x1 : Int32} {x2 : Int32} {h : Hp} {RET : Int32 → Hp → Prop} (hV : V_X12_cache_0 w sh x0 x1 x2 h RET) : C_X12_cache w sh x0 x1 x2 h RET :=
  Ct_of (by decide +kernel) (by simp [lg_sl, rv_cat, cat_int, cat_long]) (fun E X Tt hR _ => by
    rw [show lv_args 0 [rv w.2.2.2 x0, Value.int x1, Value.int x2] = [(0, rv w.2.2.2 x0), (1, Value.int x1), (2, Value.int x2)] from by simp [lv_args, rv_cat, cat_int, cat_long]]
    refine g_lv [0, 1, 2] rfl ?_
    exact W_X12_cache_0 X Tt hR hV)
def V_X12_say_20 (w : Wd) (sh : List Sh) (x0 : Nat) (h : Hp)  (RET : Hp → Prop) : Prop :=
  shAt sh x0 = some (.inr 12) ∧ (∀ h2 : Hp, h2 = wI h x0 43 ((h.1 x0 43) + (1 : Int32)) → (RET h2))
set_option maxRecDepth 20000 in
set_option maxHeartbeats 4000000 in
theorem W_X12_say_20 {w : Wd} {E : GE} {sh : List Sh} {x0 : Nat} {h : Hp}  {RET : Hp → Prop} (X : Cx w E cX12_say 2 RX12) (Tt : Rt w E none sh.length 0 0 (fun q sh9 h9 => q = none ∧ sh9 = sh ∧ RET h9)) (hR : gR E = { frames := 0, cells := 0, slots := 0, locals := 0 }) (hV : V_X12_say_20 w sh x0 h RET) : G w E 2 20 [(0, rv w.2.2.2 x0)] [] sh h 0 0 := by
  unfold V_X12_say_20 at hV
  refine g_aload_n (pc := 20) X 0 rfl rfl dX12_say_20 ?_
  refine g_dup (pc := 21) X dX12_say_21 (rv_cat _ _) ?_
  obtain ⟨q1, hV⟩ := hV
  refine g_getI (pc := 22) X fl_X12_264 q1 dX12_say_22 ?_
  refine g_iconst (pc := 25) (v := (1 : Int32)) X dX12_say_25 (by decide) ?_
  refine g_iadd (pc := 26) X dX12_say_26 ?_
  refine g_putI (pc := 27) X fl_X12_264 q1 rfl rfl dX12_say_27 (fun h2 e3 => ?_)
  have hV := hV h2 e3
  exact g_vret (pc := 30) X Tt ⟨rfl, rfl, hV⟩ dX12_say_30
def V_X12_say_0 (w : Wd) (sh : List Sh) (x0 : Nat) (x1 : Int32) (h : Hp)  (RET : Hp → Prop) : Prop :=
  shAt sh x0 = some (.inr 12) ∧ ((((40000 : Int32) ≤ (h.1 x0 43)) → (V_X12_say_20 w sh x0 h RET)) ∧ ((¬ (40000 : Int32) ≤ (h.1 x0 43)) → (∃ n4 : Nat, shAt sh (h.2.1 x0 42) = some (.inl (0, n4)) ∧ (vp_in (h.1 x0 43) n4 ∧ (∀ h6 : Hp, h6 = wI h (h.2.1 x0 42) (h.1 x0 43).toNatClampNeg (b8 x1) → (V_X12_say_20 w sh x0 h6 RET))))))
set_option maxRecDepth 20000 in
set_option maxHeartbeats 4000000 in
theorem W_X12_say_0 {w : Wd} {E : GE} {sh : List Sh} {x0 : Nat} {x1 : Int32} {h : Hp}  {RET : Hp → Prop} (X : Cx w E cX12_say 2 RX12) (Tt : Rt w E none sh.length 0 0 (fun q sh9 h9 => q = none ∧ sh9 = sh ∧ RET h9)) (hR : gR E = { frames := 0, cells := 0, slots := 0, locals := 0 }) (hV : V_X12_say_0 w sh x0 x1 h RET) : G w E 2 0 [(0, rv w.2.2.2 x0), (1, Value.int x1)] [] sh h 0 0 := by
  unfold V_X12_say_0 at hV
  refine g_aload_n (pc := 0) X 0 rfl rfl dX12_say_0 ?_
  obtain ⟨q1, hV⟩ := hV
  refine g_getI (pc := 1) X fl_X12_264 q1 dX12_say_1 ?_
  refine g_ldc (pc := 4) X kc_X12_76 dX12_say_4 ?_
  refine g_icmp_ge (pc := 6) X 20 dX12_say_6 (by decide) (fun c2 => ?_) (fun c2 => ?_)
  · have hV := hV.1 c2
    refine g_lv [0] rfl ?_
    exact W_X12_say_20 X Tt hR hV
  · have hV := hV.2 c2
    refine g_aload_n (pc := 9) X 0 rfl rfl dX12_say_9 ?_
    refine g_getR (pc := 10) X fl_X12_77 q1 dX12_say_10 ?_
    refine g_aload_n (pc := 13) X 0 rfl rfl dX12_say_13 ?_
    refine g_getI (pc := 14) X fl_X12_264 q1 dX12_say_14 ?_
    refine g_iload_n (pc := 17) X 1 rfl rfl dX12_say_17 ?_
    refine g_i2b (pc := 18) X dX12_say_18 ?_
    obtain ⟨n4, q3, hV⟩ := hV
    obtain ⟨q5, hV⟩ := hV
    refine g_bast (pc := 19) X q3 q5 dX12_say_19 (fun h6 e7 => ?_)
    have hV := hV h6 e7
    refine g_lv [0] rfl ?_
    exact W_X12_say_20 X Tt hR hV
def C_X12_say (w : Wd) (sh : List Sh) (x0 : Nat) (x1 : Int32) (h : Hp) (RET : Hp → Prop) : Prop := CV w yX12_say (.code yX12_say cX12_say 2 none) 0 0 [rv w.2.2.2 x0, Value.int x1] sh h RET
theorem K_X12_say {w : Wd} {sh : List Sh} {x0 : Nat} {x1 : Int32} {h : Hp} {RET : Hp → Prop} (hV : V_X12_say_0 w sh x0 x1 h RET) : C_X12_say w sh x0 x1 h RET :=
  Ct_of (by decide +kernel) (by simp [lg_sl, rv_cat, cat_int, cat_long]) (fun E X Tt hR _ => by
    rw [show lv_args 0 [rv w.2.2.2 x0, Value.int x1] = [(0, rv w.2.2.2 x0), (1, Value.int x1)] from by simp [lv_args, rv_cat, cat_int, cat_long]]
    refine g_lv [0, 1] rfl ?_
    exact W_X12_say_0 X Tt hR hV)
def V_X12_bigSize_2 (w : Wd) (sh : List Sh) (x0 : Int64) (x2 : Int32) (h : Hp) (L2 : Int64 → Int32 → Hp → Prop) (RET : Int32 → Hp → Prop) : Prop :=
  (((5 : Int32) ≤ x2) → (RET x2 h)) ∧ ((¬ (5 : Int32) ≤ x2) → ((((lg_cmp (x0 >>> (((7 : Int32) * x2).toInt64 &&& 63)) (0 : Int64)) ≤ 0) → (RET x2 h)) ∧ ((¬ (lg_cmp (x0 >>> (((7 : Int32) * x2).toInt64 &&& 63)) (0 : Int64)) ≤ 0) → (∀ y3 : Int32, y3 = x2 + (1 : Int32) → (L2 x0 y3 h)))))
set_option maxRecDepth 20000 in
set_option maxHeartbeats 4000000 in
theorem W_X12_bigSize_2 {w : Wd} {E : GE} {sh : List Sh} {x0 : Int64} {x2 : Int32} {h : Hp} {L2 : Int64 → Int32 → Hp → Prop} {RET : Int32 → Hp → Prop} (X : Cx w E cX12_bigSize 3 RX12) (Tt : Rt w E (some .int) sh.length 0 0 (fun q sh9 h9 => ∃ v : Int32, q = some (Value.int v) ∧ sh9 = sh ∧ RET v h9)) (hR : gR E = { frames := 0, cells := 0, slots := 0, locals := 0 }) (hL2 : ∀ (x0 : Int64) (x2 : Int32) (h : Hp), L2 x0 x2 h → G w E 3 2 [(0, Value.long x0), (2, Value.int x2)] [] sh h 0 0) (hV : V_X12_bigSize_2 w sh x0 x2 h L2 RET) : G w E 3 2 [(0, Value.long x0), (2, Value.int x2)] [] sh h 0 0 := by
  unfold V_X12_bigSize_2 at hV
  refine g_iload_n (pc := 2) X 1 rfl rfl dX12_bigSize_2 ?_
  refine g_iconst (pc := 3) (v := (5 : Int32)) X dX12_bigSize_3 (by decide) ?_
  refine g_icmp_ge (pc := 4) X 24 dX12_bigSize_4 (by decide) (fun c1 => ?_) (fun c1 => ?_)
  · have hV := hV.1 c1
    refine g_iload_n (pc := 24) X 1 rfl rfl dX12_bigSize_24 ?_
    exact g_iret (pc := 25) X Tt ⟨_, rfl, rfl, hV⟩ dX12_bigSize_25
  · have hV := hV.2 c1
    refine g_lload_n (pc := 7) X 0 rfl rfl dX12_bigSize_7 ?_
    refine g_bipush (pc := 8) (v := (7 : Int32)) X dX12_bigSize_8 (by decide) ?_
    refine g_iload_n (pc := 10) X 1 rfl rfl dX12_bigSize_10 ?_
    refine g_imul (pc := 11) X dX12_bigSize_11 ?_
    refine g_lshr (pc := 12) X dX12_bigSize_12 ?_
    refine g_lconst (pc := 13) (v := (0 : Int64)) X dX12_bigSize_13 (by decide) ?_
    refine g_lcmp (pc := 14) X dX12_bigSize_14 ?_
    refine g_if_le (pc := 15) X 24 dX12_bigSize_15 (by decide) (fun c2 => ?_) (fun c2 => ?_)
    · have hV := hV.1 c2
      refine g_iload_n (pc := 24) X 1 rfl rfl dX12_bigSize_24 ?_
      exact g_iret (pc := 25) X Tt ⟨_, rfl, rfl, hV⟩ dX12_bigSize_25
    · have hV := hV.2 c2
      refine g_iinc (pc := 18) X 1 (v := (1 : Int32)) (rest := [(0, Value.long x0)]) rfl (by decide) rfl (by decide) dX12_bigSize_18 (fun y3 e4 => ?_)
      have hV := hV y3 e4
      refine g_goto (pc := 21) X 2 dX12_bigSize_21 (by decide) ?_
      refine g_lv [1, 0] rfl ?_
      exact hL2 x0 y3 h hV
def V_X12_bigSize_0 (w : Wd) (sh : List Sh) (x0 : Int64) (h : Hp) (L2 : Int64 → Int32 → Hp → Prop) (RET : Int32 → Hp → Prop) : Prop :=
  ∀ y1 : Int32, y1 = (1 : Int32) → (L2 x0 y1 h)
set_option maxRecDepth 20000 in
set_option maxHeartbeats 4000000 in
theorem W_X12_bigSize_0 {w : Wd} {E : GE} {sh : List Sh} {x0 : Int64} {h : Hp} {L2 : Int64 → Int32 → Hp → Prop} {RET : Int32 → Hp → Prop} (X : Cx w E cX12_bigSize 3 RX12) (Tt : Rt w E (some .int) sh.length 0 0 (fun q sh9 h9 => ∃ v : Int32, q = some (Value.int v) ∧ sh9 = sh ∧ RET v h9)) (hR : gR E = { frames := 0, cells := 0, slots := 0, locals := 0 }) (hL2 : ∀ (x0 : Int64) (x2 : Int32) (h : Hp), L2 x0 x2 h → G w E 3 2 [(0, Value.long x0), (2, Value.int x2)] [] sh h 0 0) (hV : V_X12_bigSize_0 w sh x0 h L2 RET) : G w E 3 0 [(0, Value.long x0)] [] sh h 0 0 := by
  unfold V_X12_bigSize_0 at hV
  refine g_iconst (pc := 0) (v := (1 : Int32)) X dX12_bigSize_0 (by decide) ?_
  refine g_istore_n (pc := 1) X (i := 2) (rest := [(0, Value.long x0)]) rfl (by decide) rfl dX12_bigSize_1 (fun y1 e2 => ?_)
  have hV := hV y1 e2
  refine g_lv [1, 0] rfl ?_
  exact hL2 x0 y1 h hV
def C_X12_bigSize (w : Wd) (sh : List Sh) (x0 : Int64) (h : Hp) (RET : Int32 → Hp → Prop) : Prop := CI w yX12_bigSize (.code yX12_bigSize cX12_bigSize 3 (some .int)) 0 0 [Value.long x0] sh h RET
set_option maxRecDepth 20000 in
theorem K_X12_bigSize {w : Wd} {sh : List Sh} {x0 : Int64} {h : Hp} {RET : Int32 → Hp → Prop} {α : Type} {r : α → α → Prop} (wf : WellFounded r) (I2 : α → Int64 → Int32 → Hp → Prop) (hE : V_X12_bigSize_0 w sh x0 h (fun x0 x2 h => ∃ a, I2 a x0 x2 h) RET) (h2 : ∀ (b : α) (x0 : Int64) (x2 : Int32) (h : Hp), I2 b x0 x2 h → V_X12_bigSize_2 w sh x0 x2 h (fun x0 x2 h => ∃ a, r a b ∧ I2 a x0 x2 h) RET) : C_X12_bigSize w sh x0 h RET :=
  Ct_of (by decide +kernel) (by simp [lg_sl, rv_cat, cat_int, cat_long]) (fun E X Tt hR _ => by
    have key : ∀ a : α, (∀ (x0 : Int64) (x2 : Int32) (h : Hp), I2 a x0 x2 h → G w E 3 2 [(0, Value.long x0), (2, Value.int x2)] [] sh h 0 0) := by
      intro a
      induction a using wf.induction with
      | _ a ih =>
        exact (fun x0 x2 h hi => W_X12_bigSize_2 X Tt hR (fun x0 x2 h hx => by obtain ⟨a2, ha, hi⟩ := hx; exact (ih a2 ha) x0 x2 h hi) (h2 a x0 x2 h hi))
    rw [show lv_args 0 [Value.long x0] = [(0, Value.long x0)] from by simp [lv_args, rv_cat, cat_int, cat_long]]
    refine g_lv [0] rfl ?_
    exact W_X12_bigSize_0 X Tt hR (fun x0 x2 h hx => by obtain ⟨a2, hi⟩ := hx; exact (key a2) x0 x2 h hi) hE)
def V_X12_sayBig_34 (w : Wd) (sh : List Sh) (x0 : Nat) (x1 : Int64) (x3 : Int32) (s0 : Int32) (s1 : Int32) (s2 : Nat) (h : Hp) (L7 : Nat → Int64 → Int32 → Hp → Prop) (RET : Hp → Prop) : Prop :=
  shAt sh s2 = some (.inr 12) ∧ (∃ P2 : Hp → Prop, C_X12_say w sh s2 (s1 ||| s0) h P2 ∧ (∀ h5 : Hp, P2 h5 → (∀ y6 : Int32, y6 = x3 + (-1 : Int32) → (L7 x0 x1 y6 h5))))
set_option maxRecDepth 20000 in
set_option maxHeartbeats 4000000 in
theorem W_X12_sayBig_34 {w : Wd} {E : GE} {sh : List Sh} {x0 : Nat} {x1 : Int64} {x3 : Int32} {s0 : Int32} {s1 : Int32} {s2 : Nat} {h : Hp} {L7 : Nat → Int64 → Int32 → Hp → Prop} {RET : Hp → Prop} (X : Cx w E cX12_sayBig 4 RX12) (Tt : Rt w E none sh.length 0 0 (fun q sh9 h9 => q = none ∧ sh9 = sh ∧ RET h9)) (hR : gR E = { frames := 1, cells := 0, slots := 0, locals := 22 }) (hL7 : ∀ (x0 : Nat) (x1 : Int64) (x3 : Int32) (h : Hp), L7 x0 x1 x3 h → G w E 4 7 [(0, rv w.2.2.2 x0), (1, Value.long x1), (3, Value.int x3)] [] sh h 0 0) (hV : V_X12_sayBig_34 w sh x0 x1 x3 s0 s1 s2 h L7 RET) : G w E 4 34 [(0, rv w.2.2.2 x0), (1, Value.long x1), (3, Value.int x3)] [Value.int s0, Value.int s1, rv w.2.2.2 s2] sh h 0 0 := by
  unfold V_X12_sayBig_34 at hV
  refine g_ior (pc := 34) X dX12_sayBig_34 ?_
  obtain ⟨q1, hV⟩ := hV
  obtain ⟨P2, t3, hV⟩ := hV
  refine g_cVV (pc := 35) X (As := [Value.int (s1 ||| s0)]) ml_X12_273 rfl q1 t3 (by rw [hR]; exact ⟨by decide, by decide, by decide, by decide⟩) rfl rfl (Nat.zero_le _) dX12_sayBig_35 (fun h5 p4 => ?_)
  have hV := hV h5 p4
  refine g_iinc (pc := 38) X 2 (v := (-1 : Int32)) (rest := [(0, rv w.2.2.2 x0), (1, Value.long x1)]) rfl (by decide) rfl (by decide) dX12_sayBig_38 (fun y6 e7 => ?_)
  have hV := hV y6 e7
  refine g_goto (pc := 41) X 7 dX12_sayBig_41 (by decide) ?_
  refine g_lv [1, 2, 0] rfl ?_
  exact hL7 x0 x1 y6 h5 hV
def V_X12_sayBig_7 (w : Wd) (sh : List Sh) (x0 : Nat) (x1 : Int64) (x3 : Int32) (h : Hp) (L7 : Nat → Int64 → Int32 → Hp → Prop) (RET : Hp → Prop) : Prop :=
  ((x3 < 0) → (RET h)) ∧ ((¬ x3 < 0) → (((x3 ≤ 0) → (V_X12_sayBig_34 w sh x0 x1 x3 (0 : Int32) (((x1 >>> (((7 : Int32) * x3).toInt64 &&& 63)) &&& (127 : Int64)).toInt32) x0 h L7 RET)) ∧ ((¬ x3 ≤ 0) → (V_X12_sayBig_34 w sh x0 x1 x3 (128 : Int32) (((x1 >>> (((7 : Int32) * x3).toInt64 &&& 63)) &&& (127 : Int64)).toInt32) x0 h L7 RET))))
set_option maxRecDepth 20000 in
set_option maxHeartbeats 4000000 in
theorem W_X12_sayBig_7 {w : Wd} {E : GE} {sh : List Sh} {x0 : Nat} {x1 : Int64} {x3 : Int32} {h : Hp} {L7 : Nat → Int64 → Int32 → Hp → Prop} {RET : Hp → Prop} (X : Cx w E cX12_sayBig 4 RX12) (Tt : Rt w E none sh.length 0 0 (fun q sh9 h9 => q = none ∧ sh9 = sh ∧ RET h9)) (hR : gR E = { frames := 1, cells := 0, slots := 0, locals := 22 }) (hL7 : ∀ (x0 : Nat) (x1 : Int64) (x3 : Int32) (h : Hp), L7 x0 x1 x3 h → G w E 4 7 [(0, rv w.2.2.2 x0), (1, Value.long x1), (3, Value.int x3)] [] sh h 0 0) (hV : V_X12_sayBig_7 w sh x0 x1 x3 h L7 RET) : G w E 4 7 [(0, rv w.2.2.2 x0), (1, Value.long x1), (3, Value.int x3)] [] sh h 0 0 := by
  unfold V_X12_sayBig_7 at hV
  refine g_iload_n (pc := 7) X 2 rfl rfl dX12_sayBig_7 ?_
  refine g_if_lt (pc := 8) X 44 dX12_sayBig_8 (by decide) (fun c1 => ?_) (fun c1 => ?_)
  · have hV := hV.1 c1
    exact g_vret (pc := 44) X Tt ⟨rfl, rfl, hV⟩ dX12_sayBig_44
  · have hV := hV.2 c1
    refine g_aload_n (pc := 11) X 0 rfl rfl dX12_sayBig_11 ?_
    refine g_lload_n (pc := 12) X 1 rfl rfl dX12_sayBig_12 ?_
    refine g_bipush (pc := 13) (v := (7 : Int32)) X dX12_sayBig_13 (by decide) ?_
    refine g_iload_n (pc := 15) X 2 rfl rfl dX12_sayBig_15 ?_
    refine g_imul (pc := 16) X dX12_sayBig_16 ?_
    refine g_lshr (pc := 17) X dX12_sayBig_17 ?_
    refine g_ldc2 (pc := 18) X kc_X12_271 dX12_sayBig_18 ?_
    refine g_land (pc := 21) X dX12_sayBig_21 ?_
    refine g_l2i (pc := 22) X dX12_sayBig_22 ?_
    refine g_iload_n (pc := 23) X 2 rfl rfl dX12_sayBig_23 ?_
    refine g_if_le (pc := 24) X 33 dX12_sayBig_24 (by decide) (fun c2 => ?_) (fun c2 => ?_)
    · have hV := hV.1 c2
      refine g_iconst (pc := 33) (v := (0 : Int32)) X dX12_sayBig_33 (by decide) ?_
      exact W_X12_sayBig_34 X Tt hR hL7 hV
    · have hV := hV.2 c2
      refine g_sipush (pc := 27) (v := (128 : Int32)) X dX12_sayBig_27 (by decide) ?_
      refine g_goto (pc := 30) X 34 dX12_sayBig_30 (by decide) ?_
      exact W_X12_sayBig_34 X Tt hR hL7 hV
def V_X12_sayBig_0 (w : Wd) (sh : List Sh) (x0 : Nat) (x1 : Int64) (h : Hp) (L7 : Nat → Int64 → Int32 → Hp → Prop) (RET : Hp → Prop) : Prop :=
  ∃ P1 : Int32 → Hp → Prop, C_X12_bigSize w sh x1 h P1 ∧ (∀ (v5 : Int32) (h4 : Hp), P1 v5 h4 → (∀ y6 : Int32, y6 = (v5 - (1 : Int32)) → (L7 x0 x1 y6 h4)))
set_option maxRecDepth 20000 in
set_option maxHeartbeats 4000000 in
theorem W_X12_sayBig_0 {w : Wd} {E : GE} {sh : List Sh} {x0 : Nat} {x1 : Int64} {h : Hp} {L7 : Nat → Int64 → Int32 → Hp → Prop} {RET : Hp → Prop} (X : Cx w E cX12_sayBig 4 RX12) (Tt : Rt w E none sh.length 0 0 (fun q sh9 h9 => q = none ∧ sh9 = sh ∧ RET h9)) (hR : gR E = { frames := 1, cells := 0, slots := 0, locals := 22 }) (hL7 : ∀ (x0 : Nat) (x1 : Int64) (x3 : Int32) (h : Hp), L7 x0 x1 x3 h → G w E 4 7 [(0, rv w.2.2.2 x0), (1, Value.long x1), (3, Value.int x3)] [] sh h 0 0) (hV : V_X12_sayBig_0 w sh x0 x1 h L7 RET) : G w E 4 0 [(0, rv w.2.2.2 x0), (1, Value.long x1)] [] sh h 0 0 := by
  unfold V_X12_sayBig_0 at hV
  refine g_lload_n (pc := 0) X 1 rfl rfl dX12_sayBig_0 ?_
  obtain ⟨P1, t2, hV⟩ := hV
  refine g_cSI (pc := 1) X (As := [Value.long x1]) ml_X12_267 t2 (by rw [hR]; exact ⟨by decide, by decide, by decide, by decide⟩) rfl rfl (Nat.zero_le _) dX12_sayBig_1 (fun v5 h4 p3 => ?_)
  have hV := hV v5 h4 p3
  refine g_iconst (pc := 4) (v := (1 : Int32)) X dX12_sayBig_4 (by decide) ?_
  refine g_isub (pc := 5) X dX12_sayBig_5 ?_
  refine g_istore_n (pc := 6) X (i := 3) (rest := [(0, rv w.2.2.2 x0), (1, Value.long x1)]) rfl (by decide) rfl dX12_sayBig_6 (fun y6 e7 => ?_)
  have hV := hV y6 e7
  refine g_lv [1, 2, 0] rfl ?_
  exact hL7 x0 x1 y6 h4 hV
def C_X12_sayBig (w : Wd) (sh : List Sh) (x0 : Nat) (x1 : Int64) (h : Hp) (RET : Hp → Prop) : Prop := CV w yX12_sayBig (.code yX12_sayBig cX12_sayBig 4 none) 1 22 [rv w.2.2.2 x0, Value.long x1] sh h RET
set_option maxRecDepth 20000 in
theorem K_X12_sayBig {w : Wd} {sh : List Sh} {x0 : Nat} {x1 : Int64} {h : Hp} {RET : Hp → Prop} {α : Type} {r : α → α → Prop} (wf : WellFounded r) (I7 : α → Nat → Int64 → Int32 → Hp → Prop) (hE : V_X12_sayBig_0 w sh x0 x1 h (fun x0 x1 x3 h => ∃ a, I7 a x0 x1 x3 h) RET) (h7 : ∀ (b : α) (x0 : Nat) (x1 : Int64) (x3 : Int32) (h : Hp), I7 b x0 x1 x3 h → V_X12_sayBig_7 w sh x0 x1 x3 h (fun x0 x1 x3 h => ∃ a, r a b ∧ I7 a x0 x1 x3 h) RET) : C_X12_sayBig w sh x0 x1 h RET :=
  Ct_of (by decide +kernel) (by simp [lg_sl, rv_cat, cat_int, cat_long]) (fun E X Tt hR _ => by
    have key : ∀ a : α, (∀ (x0 : Nat) (x1 : Int64) (x3 : Int32) (h : Hp), I7 a x0 x1 x3 h → G w E 4 7 [(0, rv w.2.2.2 x0), (1, Value.long x1), (3, Value.int x3)] [] sh h 0 0) := by
      intro a
      induction a using wf.induction with
      | _ a ih =>
        exact (fun x0 x1 x3 h hi => W_X12_sayBig_7 X Tt hR (fun x0 x1 x3 h hx => by obtain ⟨a2, ha, hi⟩ := hx; exact (ih a2 ha) x0 x1 x3 h hi) (h7 a x0 x1 x3 h hi))
    rw [show lv_args 0 [rv w.2.2.2 x0, Value.long x1] = [(0, rv w.2.2.2 x0), (1, Value.long x1)] from by simp [lv_args, rv_cat, cat_int, cat_long]]
    refine g_lv [0, 1] rfl ?_
    exact W_X12_sayBig_0 X Tt hR (fun x0 x1 x3 h hx => by obtain ⟨a2, hi⟩ := hx; exact (key a2) x0 x1 x3 h hi) hE)
def V_X12_sayHead_0 (w : Wd) (sh : List Sh) (x0 : Nat) (x1 : Int32) (h : Hp)  (RET : Hp → Prop) : Prop :=
  shAt sh x0 = some (.inr 12) ∧ (∃ P2 : Hp → Prop, C_X12_say w sh x0 (214 : Int32) h P2 ∧ (∀ h5 : Hp, P2 h5 → (∃ P6 : Hp → Prop, C_X12_say w sh x0 (195 : Int32) h5 P6 ∧ (∀ h9 : Hp, P6 h9 → (∃ P10 : Hp → Prop, C_X12_say w sh x0 (196 : Int32) h9 P10 ∧ (∀ h13 : Hp, P10 h13 → (∃ P14 : Hp → Prop, C_X12_say w sh x0 (0 : Int32) h13 P14 ∧ (∀ h17 : Hp, P14 h17 → (∃ P18 : Hp → Prop, C_X12_say w sh x0 x1 h17 P18 ∧ (∀ h21 : Hp, P18 h21 → (RET h21)))))))))))
set_option maxRecDepth 20000 in
set_option maxHeartbeats 4000000 in
theorem W_X12_sayHead_0 {w : Wd} {E : GE} {sh : List Sh} {x0 : Nat} {x1 : Int32} {h : Hp}  {RET : Hp → Prop} (X : Cx w E cX12_sayHead 2 RX12) (Tt : Rt w E none sh.length 0 0 (fun q sh9 h9 => q = none ∧ sh9 = sh ∧ RET h9)) (hR : gR E = { frames := 1, cells := 0, slots := 0, locals := 21 }) (hV : V_X12_sayHead_0 w sh x0 x1 h RET) : G w E 2 0 [(0, rv w.2.2.2 x0), (1, Value.int x1)] [] sh h 0 0 := by
  unfold V_X12_sayHead_0 at hV
  refine g_aload_n (pc := 0) X 0 rfl rfl dX12_sayHead_0 ?_
  refine g_sipush (pc := 1) (v := (214 : Int32)) X dX12_sayHead_1 (by decide) ?_
  obtain ⟨q1, hV⟩ := hV
  obtain ⟨P2, t3, hV⟩ := hV
  refine g_cVV (pc := 4) X (As := [Value.int (214 : Int32)]) ml_X12_273 rfl q1 t3 (by rw [hR]; exact ⟨by decide, by decide, by decide, by decide⟩) rfl rfl (Nat.zero_le _) dX12_sayHead_4 (fun h5 p4 => ?_)
  have hV := hV h5 p4
  refine g_aload_n (pc := 7) X 0 rfl rfl dX12_sayHead_7 ?_
  refine g_sipush (pc := 8) (v := (195 : Int32)) X dX12_sayHead_8 (by decide) ?_
  obtain ⟨P6, t7, hV⟩ := hV
  refine g_cVV (pc := 11) X (As := [Value.int (195 : Int32)]) ml_X12_273 rfl q1 t7 (by rw [hR]; exact ⟨by decide, by decide, by decide, by decide⟩) rfl rfl (Nat.zero_le _) dX12_sayHead_11 (fun h9 p8 => ?_)
  have hV := hV h9 p8
  refine g_aload_n (pc := 14) X 0 rfl rfl dX12_sayHead_14 ?_
  refine g_sipush (pc := 15) (v := (196 : Int32)) X dX12_sayHead_15 (by decide) ?_
  obtain ⟨P10, t11, hV⟩ := hV
  refine g_cVV (pc := 18) X (As := [Value.int (196 : Int32)]) ml_X12_273 rfl q1 t11 (by rw [hR]; exact ⟨by decide, by decide, by decide, by decide⟩) rfl rfl (Nat.zero_le _) dX12_sayHead_18 (fun h13 p12 => ?_)
  have hV := hV h13 p12
  refine g_aload_n (pc := 21) X 0 rfl rfl dX12_sayHead_21 ?_
  refine g_iconst (pc := 22) (v := (0 : Int32)) X dX12_sayHead_22 (by decide) ?_
  obtain ⟨P14, t15, hV⟩ := hV
  refine g_cVV (pc := 23) X (As := [Value.int (0 : Int32)]) ml_X12_273 rfl q1 t15 (by rw [hR]; exact ⟨by decide, by decide, by decide, by decide⟩) rfl rfl (Nat.zero_le _) dX12_sayHead_23 (fun h17 p16 => ?_)
  have hV := hV h17 p16
  refine g_aload_n (pc := 26) X 0 rfl rfl dX12_sayHead_26 ?_
  refine g_iload_n (pc := 27) X 1 rfl rfl dX12_sayHead_27 ?_
  obtain ⟨P18, t19, hV⟩ := hV
  refine g_cVV (pc := 28) X (As := [Value.int x1]) ml_X12_273 rfl q1 t19 (by rw [hR]; exact ⟨by decide, by decide, by decide, by decide⟩) rfl rfl (Nat.zero_le _) dX12_sayHead_28 (fun h21 p20 => ?_)
  have hV := hV h21 p20
  exact g_vret (pc := 31) X Tt ⟨rfl, rfl, hV⟩ dX12_sayHead_31
def C_X12_sayHead (w : Wd) (sh : List Sh) (x0 : Nat) (x1 : Int32) (h : Hp) (RET : Hp → Prop) : Prop := CV w yX12_sayHead (.code yX12_sayHead cX12_sayHead 2 none) 1 21 [rv w.2.2.2 x0, Value.int x1] sh h RET
theorem K_X12_sayHead {w : Wd} {sh : List Sh} {x0 : Nat} {x1 : Int32} {h : Hp} {RET : Hp → Prop} (hV : V_X12_sayHead_0 w sh x0 x1 h RET) : C_X12_sayHead w sh x0 x1 h RET :=
  Ct_of (by decide +kernel) (by simp [lg_sl, rv_cat, cat_int, cat_long]) (fun E X Tt hR _ => by
    rw [show lv_args 0 [rv w.2.2.2 x0, Value.int x1] = [(0, rv w.2.2.2 x0), (1, Value.int x1)] from by simp [lv_args, rv_cat, cat_int, cat_long]]
    refine g_lv [0, 1] rfl ?_
    exact W_X12_sayHead_0 X Tt hR hV)
def V_X12_step_0 (w : Wd) (sh : List Sh) (x0 : Nat) (x1 : Int32) (x2 : Int32) (x3 : Int32) (h : Hp)  (RET : Hp → Prop) : Prop :=
  shAt sh x0 = some (.inr 12) ∧ (∃ n3 : Nat, shAt sh (h.2.1 x0 52) = some (.inl (1, n3)) ∧ (vp_in (h.1 x0 51) n3 ∧ (∀ h5 : Hp, h5 = wI h (h.2.1 x0 52) (h.1 x0 51).toNatClampNeg x1 → (∃ n8 : Nat, shAt sh (h.2.1 x0 53) = some (.inl (1, n8)) ∧ (vp_in (h5.1 x0 51) n8 ∧ (∀ h10 : Hp, h10 = wI h5 (h.2.1 x0 53) (h5.1 x0 51).toNatClampNeg x2 → (∃ n13 : Nat, shAt sh (h.2.1 x0 54) = some (.inl (1, n13)) ∧ (vp_in (h10.1 x0 51) n13 ∧ (∀ h15 : Hp, h15 = wI h10 (h.2.1 x0 54) (h10.1 x0 51).toNatClampNeg x3 → (∃ n18 : Nat, shAt sh (h.2.1 x0 55) = some (.inl (1, n18)) ∧ (vp_in (h15.1 x0 51) n18 ∧ (∀ h20 : Hp, h20 = wI h15 (h.2.1 x0 55) (h15.1 x0 51).toNatClampNeg (0 : Int32) → (∀ h22 : Hp, h22 = wI h20 x0 51 ((h20.1 x0 51) + (1 : Int32)) → (RET h22))))))))))))))
set_option maxRecDepth 20000 in
set_option maxHeartbeats 4000000 in
theorem W_X12_step_0 {w : Wd} {E : GE} {sh : List Sh} {x0 : Nat} {x1 : Int32} {x2 : Int32} {x3 : Int32} {h : Hp}  {RET : Hp → Prop} (X : Cx w E cX12_step 4 RX12) (Tt : Rt w E none sh.length 0 0 (fun q sh9 h9 => q = none ∧ sh9 = sh ∧ RET h9)) (hR : gR E = { frames := 0, cells := 0, slots := 0, locals := 0 }) (hV : V_X12_step_0 w sh x0 x1 x2 x3 h RET) : G w E 4 0 [(0, rv w.2.2.2 x0), (1, Value.int x1), (2, Value.int x2), (3, Value.int x3)] [] sh h 0 0 := by
  unfold V_X12_step_0 at hV
  refine g_aload_n (pc := 0) X 0 rfl rfl dX12_step_0 ?_
  obtain ⟨q1, hV⟩ := hV
  refine g_getR (pc := 1) X fl_X12_89 q1 dX12_step_1 ?_
  refine g_aload_n (pc := 4) X 0 rfl rfl dX12_step_4 ?_
  refine g_getI (pc := 5) X fl_X12_314 q1 dX12_step_5 ?_
  refine g_iload_n (pc := 8) X 1 rfl rfl dX12_step_8 ?_
  obtain ⟨n3, q2, hV⟩ := hV
  obtain ⟨q4, hV⟩ := hV
  refine g_iast (pc := 9) X q2 q4 dX12_step_9 (fun h5 e6 => ?_)
  have hV := hV h5 e6
  refine g_aload_n (pc := 10) X 0 rfl rfl dX12_step_10 ?_
  refine g_getRe (pc := 11) X fl_X12_92 q1 (congrFun (congrFun (rfI e6) _) _) dX12_step_11 ?_
  refine g_aload_n (pc := 14) X 0 rfl rfl dX12_step_14 ?_
  refine g_getI (pc := 15) X fl_X12_314 q1 dX12_step_15 ?_
  refine g_iload_n (pc := 18) X 2 rfl rfl dX12_step_18 ?_
  obtain ⟨n8, q7, hV⟩ := hV
  obtain ⟨q9, hV⟩ := hV
  refine g_iast (pc := 19) X q7 q9 dX12_step_19 (fun h10 e11 => ?_)
  have hV := hV h10 e11
  refine g_aload_n (pc := 20) X 0 rfl rfl dX12_step_20 ?_
  refine g_getRe (pc := 21) X fl_X12_95 q1 (congrFun (congrFun ((rfI e11).trans (rfI e6)) _) _) dX12_step_21 ?_
  refine g_aload_n (pc := 24) X 0 rfl rfl dX12_step_24 ?_
  refine g_getI (pc := 25) X fl_X12_314 q1 dX12_step_25 ?_
  refine g_iload_n (pc := 28) X 3 rfl rfl dX12_step_28 ?_
  obtain ⟨n13, q12, hV⟩ := hV
  obtain ⟨q14, hV⟩ := hV
  refine g_iast (pc := 29) X q12 q14 dX12_step_29 (fun h15 e16 => ?_)
  have hV := hV h15 e16
  refine g_aload_n (pc := 30) X 0 rfl rfl dX12_step_30 ?_
  refine g_getRe (pc := 31) X fl_X12_98 q1 (congrFun (congrFun ((rfI e16).trans ((rfI e11).trans (rfI e6))) _) _) dX12_step_31 ?_
  refine g_aload_n (pc := 34) X 0 rfl rfl dX12_step_34 ?_
  refine g_getI (pc := 35) X fl_X12_314 q1 dX12_step_35 ?_
  refine g_iconst (pc := 38) (v := (0 : Int32)) X dX12_step_38 (by decide) ?_
  obtain ⟨n18, q17, hV⟩ := hV
  obtain ⟨q19, hV⟩ := hV
  refine g_iast (pc := 39) X q17 q19 dX12_step_39 (fun h20 e21 => ?_)
  have hV := hV h20 e21
  refine g_aload_n (pc := 40) X 0 rfl rfl dX12_step_40 ?_
  refine g_dup (pc := 41) X dX12_step_41 (rv_cat _ _) ?_
  refine g_getI (pc := 42) X fl_X12_314 q1 dX12_step_42 ?_
  refine g_iconst (pc := 45) (v := (1 : Int32)) X dX12_step_45 (by decide) ?_
  refine g_iadd (pc := 46) X dX12_step_46 ?_
  refine g_putI (pc := 47) X fl_X12_314 q1 rfl rfl dX12_step_47 (fun h22 e23 => ?_)
  have hV := hV h22 e23
  exact g_vret (pc := 50) X Tt ⟨rfl, rfl, hV⟩ dX12_step_50
def C_X12_step (w : Wd) (sh : List Sh) (x0 : Nat) (x1 : Int32) (x2 : Int32) (x3 : Int32) (h : Hp) (RET : Hp → Prop) : Prop := CV w yX12_step (.code yX12_step cX12_step 4 none) 0 0 [rv w.2.2.2 x0, Value.int x1, Value.int x2, Value.int x3] sh h RET
theorem K_X12_step {w : Wd} {sh : List Sh} {x0 : Nat} {x1 : Int32} {x2 : Int32} {x3 : Int32} {h : Hp} {RET : Hp → Prop} (hV : V_X12_step_0 w sh x0 x1 x2 x3 h RET) : C_X12_step w sh x0 x1 x2 x3 h RET :=
  Ct_of (by decide +kernel) (by simp [lg_sl, rv_cat, cat_int, cat_long]) (fun E X Tt hR _ => by
    rw [show lv_args 0 [rv w.2.2.2 x0, Value.int x1, Value.int x2, Value.int x3] = [(0, rv w.2.2.2 x0), (1, Value.int x1), (2, Value.int x2), (3, Value.int x3)] from by simp [lv_args, rv_cat, cat_int, cat_long]]
    refine g_lv [0, 1, 2, 3] rfl ?_
    exact W_X12_step_0 X Tt hR hV)
def V_X12_findSteps_288 (w : Wd) (sh : List Sh) (x0 : Nat) (x2 : Int32) (x3 : Int32) (h : Hp) (L17 : Nat → Int32 → Int32 → Hp → Prop) (L36 : Nat → Int32 → Int32 → Int32 → Int32 → Int32 → Int32 → Hp → Prop) (L58 : Nat → Int32 → Int32 → Int32 → Int32 → Int32 → Int32 → Int32 → Hp → Prop) (L144 : Nat → Int32 → Int32 → Int32 → Int32 → Int32 → Hp → Prop) (RET : Hp → Prop) : Prop :=
  L17 x0 x2 x3 h
set_option maxRecDepth 20000 in
set_option maxHeartbeats 4000000 in
theorem W_X12_findSteps_288 {w : Wd} {E : GE} {sh : List Sh} {x0 : Nat} {x2 : Int32} {x3 : Int32} {h : Hp} {L17 : Nat → Int32 → Int32 → Hp → Prop} {L36 : Nat → Int32 → Int32 → Int32 → Int32 → Int32 → Int32 → Hp → Prop} {L58 : Nat → Int32 → Int32 → Int32 → Int32 → Int32 → Int32 → Int32 → Hp → Prop} {L144 : Nat → Int32 → Int32 → Int32 → Int32 → Int32 → Hp → Prop} {RET : Hp → Prop} (X : Cx w E cX12_findSteps 9 RX12) (Tt : Rt w E none sh.length 0 0 (fun q sh9 h9 => q = none ∧ sh9 = sh ∧ RET h9)) (hR : gR E = { frames := 1, cells := 0, slots := 0, locals := 23 }) (hL17 : ∀ (x0 : Nat) (x2 : Int32) (x3 : Int32) (h : Hp), L17 x0 x2 x3 h → G w E 9 17 [(0, rv w.2.2.2 x0), (2, Value.int x2), (3, Value.int x3)] [] sh h 0 0) (hL36 : ∀ (x0 : Nat) (x2 : Int32) (x3 : Int32) (x4 : Int32) (x5 : Int32) (x6 : Int32) (x7 : Int32) (h : Hp), L36 x0 x2 x3 x4 x5 x6 x7 h → G w E 9 36 [(0, rv w.2.2.2 x0), (2, Value.int x2), (3, Value.int x3), (4, Value.int x4), (5, Value.int x5), (6, Value.int x6), (7, Value.int x7)] [] sh h 0 0) (hL58 : ∀ (x0 : Nat) (x2 : Int32) (x3 : Int32) (x4 : Int32) (x5 : Int32) (x6 : Int32) (x7 : Int32) (x8 : Int32) (h : Hp), L58 x0 x2 x3 x4 x5 x6 x7 x8 h → G w E 9 58 [(0, rv w.2.2.2 x0), (2, Value.int x2), (3, Value.int x3), (4, Value.int x4), (5, Value.int x5), (6, Value.int x6), (7, Value.int x7), (8, Value.int x8)] [] sh h 0 0) (hL144 : ∀ (x0 : Nat) (x2 : Int32) (x3 : Int32) (x4 : Int32) (x5 : Int32) (x7 : Int32) (h : Hp), L144 x0 x2 x3 x4 x5 x7 h → G w E 9 144 [(0, rv w.2.2.2 x0), (2, Value.int x2), (3, Value.int x3), (4, Value.int x4), (5, Value.int x5), (7, Value.int x7)] [] sh h 0 0) (hV : V_X12_findSteps_288 w sh x0 x2 x3 h L17 L36 L58 L144 RET) : G w E 9 288 [(0, rv w.2.2.2 x0), (2, Value.int x2), (3, Value.int x3)] [] sh h 0 0 := by
  unfold V_X12_findSteps_288 at hV
  refine g_goto (pc := 288) X 17 dX12_findSteps_288 (by decide) ?_
  exact hL17 x0 x2 x3 h hV
def V_X12_findSteps_285 (w : Wd) (sh : List Sh) (x0 : Nat) (x2 : Int32) (x3 : Int32) (h : Hp) (L17 : Nat → Int32 → Int32 → Hp → Prop) (L36 : Nat → Int32 → Int32 → Int32 → Int32 → Int32 → Int32 → Hp → Prop) (L58 : Nat → Int32 → Int32 → Int32 → Int32 → Int32 → Int32 → Int32 → Hp → Prop) (L144 : Nat → Int32 → Int32 → Int32 → Int32 → Int32 → Hp → Prop) (RET : Hp → Prop) : Prop :=
  ∀ y1 : Int32, y1 = x2 + (1 : Int32) → (V_X12_findSteps_288 w sh x0 y1 x3 h L17 L36 L58 L144 RET)
set_option maxRecDepth 20000 in
set_option maxHeartbeats 4000000 in
theorem W_X12_findSteps_285 {w : Wd} {E : GE} {sh : List Sh} {x0 : Nat} {x2 : Int32} {x3 : Int32} {h : Hp} {L17 : Nat → Int32 → Int32 → Hp → Prop} {L36 : Nat → Int32 → Int32 → Int32 → Int32 → Int32 → Int32 → Hp → Prop} {L58 : Nat → Int32 → Int32 → Int32 → Int32 → Int32 → Int32 → Int32 → Hp → Prop} {L144 : Nat → Int32 → Int32 → Int32 → Int32 → Int32 → Hp → Prop} {RET : Hp → Prop} (X : Cx w E cX12_findSteps 9 RX12) (Tt : Rt w E none sh.length 0 0 (fun q sh9 h9 => q = none ∧ sh9 = sh ∧ RET h9)) (hR : gR E = { frames := 1, cells := 0, slots := 0, locals := 23 }) (hL17 : ∀ (x0 : Nat) (x2 : Int32) (x3 : Int32) (h : Hp), L17 x0 x2 x3 h → G w E 9 17 [(0, rv w.2.2.2 x0), (2, Value.int x2), (3, Value.int x3)] [] sh h 0 0) (hL36 : ∀ (x0 : Nat) (x2 : Int32) (x3 : Int32) (x4 : Int32) (x5 : Int32) (x6 : Int32) (x7 : Int32) (h : Hp), L36 x0 x2 x3 x4 x5 x6 x7 h → G w E 9 36 [(0, rv w.2.2.2 x0), (2, Value.int x2), (3, Value.int x3), (4, Value.int x4), (5, Value.int x5), (6, Value.int x6), (7, Value.int x7)] [] sh h 0 0) (hL58 : ∀ (x0 : Nat) (x2 : Int32) (x3 : Int32) (x4 : Int32) (x5 : Int32) (x6 : Int32) (x7 : Int32) (x8 : Int32) (h : Hp), L58 x0 x2 x3 x4 x5 x6 x7 x8 h → G w E 9 58 [(0, rv w.2.2.2 x0), (2, Value.int x2), (3, Value.int x3), (4, Value.int x4), (5, Value.int x5), (6, Value.int x6), (7, Value.int x7), (8, Value.int x8)] [] sh h 0 0) (hL144 : ∀ (x0 : Nat) (x2 : Int32) (x3 : Int32) (x4 : Int32) (x5 : Int32) (x7 : Int32) (h : Hp), L144 x0 x2 x3 x4 x5 x7 h → G w E 9 144 [(0, rv w.2.2.2 x0), (2, Value.int x2), (3, Value.int x3), (4, Value.int x4), (5, Value.int x5), (7, Value.int x7)] [] sh h 0 0) (hV : V_X12_findSteps_285 w sh x0 x2 x3 h L17 L36 L58 L144 RET) : G w E 9 285 [(0, rv w.2.2.2 x0), (2, Value.int x2), (3, Value.int x3)] [] sh h 0 0 := by
  unfold V_X12_findSteps_285 at hV
  refine g_iinc (pc := 285) X 1 (v := (1 : Int32)) (rest := [(0, rv w.2.2.2 x0), (3, Value.int x3)]) rfl (by decide) rfl (by decide) dX12_findSteps_285 (fun y1 e2 => ?_)
  have hV := hV y1 e2
  refine g_lv [1, 0, 2] rfl ?_
  exact W_X12_findSteps_288 X Tt hR hL17 hL36 hL58 hL144 hV
def V_X12_findSteps_278 (w : Wd) (sh : List Sh) (x0 : Nat) (x2 : Int32) (x3 : Int32) (h : Hp) (L17 : Nat → Int32 → Int32 → Hp → Prop) (L36 : Nat → Int32 → Int32 → Int32 → Int32 → Int32 → Int32 → Hp → Prop) (L58 : Nat → Int32 → Int32 → Int32 → Int32 → Int32 → Int32 → Int32 → Hp → Prop) (L144 : Nat → Int32 → Int32 → Int32 → Int32 → Int32 → Hp → Prop) (RET : Hp → Prop) : Prop :=
  shAt sh x0 = some (.inr 12) ∧ (∃ P2 : Hp → Prop, C_X12_step w sh x0 (1 : Int32) (1 : Int32) (-1 : Int32) h P2 ∧ (∀ h5 : Hp, P2 h5 → (V_X12_findSteps_285 w sh x0 x2 x3 h5 L17 L36 L58 L144 RET)))
set_option maxRecDepth 20000 in
set_option maxHeartbeats 4000000 in
theorem W_X12_findSteps_278 {w : Wd} {E : GE} {sh : List Sh} {x0 : Nat} {x2 : Int32} {x3 : Int32} {h : Hp} {L17 : Nat → Int32 → Int32 → Hp → Prop} {L36 : Nat → Int32 → Int32 → Int32 → Int32 → Int32 → Int32 → Hp → Prop} {L58 : Nat → Int32 → Int32 → Int32 → Int32 → Int32 → Int32 → Int32 → Hp → Prop} {L144 : Nat → Int32 → Int32 → Int32 → Int32 → Int32 → Hp → Prop} {RET : Hp → Prop} (X : Cx w E cX12_findSteps 9 RX12) (Tt : Rt w E none sh.length 0 0 (fun q sh9 h9 => q = none ∧ sh9 = sh ∧ RET h9)) (hR : gR E = { frames := 1, cells := 0, slots := 0, locals := 23 }) (hL17 : ∀ (x0 : Nat) (x2 : Int32) (x3 : Int32) (h : Hp), L17 x0 x2 x3 h → G w E 9 17 [(0, rv w.2.2.2 x0), (2, Value.int x2), (3, Value.int x3)] [] sh h 0 0) (hL36 : ∀ (x0 : Nat) (x2 : Int32) (x3 : Int32) (x4 : Int32) (x5 : Int32) (x6 : Int32) (x7 : Int32) (h : Hp), L36 x0 x2 x3 x4 x5 x6 x7 h → G w E 9 36 [(0, rv w.2.2.2 x0), (2, Value.int x2), (3, Value.int x3), (4, Value.int x4), (5, Value.int x5), (6, Value.int x6), (7, Value.int x7)] [] sh h 0 0) (hL58 : ∀ (x0 : Nat) (x2 : Int32) (x3 : Int32) (x4 : Int32) (x5 : Int32) (x6 : Int32) (x7 : Int32) (x8 : Int32) (h : Hp), L58 x0 x2 x3 x4 x5 x6 x7 x8 h → G w E 9 58 [(0, rv w.2.2.2 x0), (2, Value.int x2), (3, Value.int x3), (4, Value.int x4), (5, Value.int x5), (6, Value.int x6), (7, Value.int x7), (8, Value.int x8)] [] sh h 0 0) (hL144 : ∀ (x0 : Nat) (x2 : Int32) (x3 : Int32) (x4 : Int32) (x5 : Int32) (x7 : Int32) (h : Hp), L144 x0 x2 x3 x4 x5 x7 h → G w E 9 144 [(0, rv w.2.2.2 x0), (2, Value.int x2), (3, Value.int x3), (4, Value.int x4), (5, Value.int x5), (7, Value.int x7)] [] sh h 0 0) (hV : V_X12_findSteps_278 w sh x0 x2 x3 h L17 L36 L58 L144 RET) : G w E 9 278 [(0, rv w.2.2.2 x0), (2, Value.int x2), (3, Value.int x3)] [] sh h 0 0 := by
  unfold V_X12_findSteps_278 at hV
  refine g_aload_n (pc := 278) X 0 rfl rfl dX12_findSteps_278 ?_
  refine g_iconst (pc := 279) (v := (1 : Int32)) X dX12_findSteps_279 (by decide) ?_
  refine g_iconst (pc := 280) (v := (1 : Int32)) X dX12_findSteps_280 (by decide) ?_
  refine g_iconst (pc := 281) (v := (-1 : Int32)) X dX12_findSteps_281 (by decide) ?_
  obtain ⟨q1, hV⟩ := hV
  obtain ⟨P2, t3, hV⟩ := hV
  refine g_cVV (pc := 282) X (As := [Value.int (1 : Int32), Value.int (1 : Int32), Value.int (-1 : Int32)]) ml_X12_317 rfl q1 t3 (by rw [hR]; exact ⟨by decide, by decide, by decide, by decide⟩) rfl rfl (Nat.zero_le _) dX12_findSteps_282 (fun h5 p4 => ?_)
  have hV := hV h5 p4
  exact W_X12_findSteps_285 X Tt hR hL17 hL36 hL58 hL144 hV
def V_X12_findSteps_205 (w : Wd) (sh : List Sh) (x0 : Nat) (x2 : Int32) (x3 : Int32) (x4 : Int32) (x5 : Int32) (h : Hp) (L17 : Nat → Int32 → Int32 → Hp → Prop) (L36 : Nat → Int32 → Int32 → Int32 → Int32 → Int32 → Int32 → Hp → Prop) (L58 : Nat → Int32 → Int32 → Int32 → Int32 → Int32 → Int32 → Int32 → Hp → Prop) (L144 : Nat → Int32 → Int32 → Int32 → Int32 → Int32 → Hp → Prop) (RET : Hp → Prop) : Prop :=
  ((x4 < 0) → (shAt sh x0 = some (.inr 12) ∧ (∀ y3 : Int32, y3 = ((h.1 x0 51) - (1 : Int32)) → (((y3 < 0) → (V_X12_findSteps_278 w sh x0 x2 x3 h L17 L36 L58 L144 RET)) ∧ ((¬ y3 < 0) → (∃ n7 : Nat, shAt sh (h.2.1 x0 52) = some (.inl (1, n7)) ∧ (vp_in y3 n7 ∧ (((¬ (h.1 (h.2.1 x0 52) y3.toNatClampNeg) = (1 : Int32)) → (V_X12_findSteps_278 w sh x0 x2 x3 h L17 L36 L58 L144 RET)) ∧ (((h.1 (h.2.1 x0 52) y3.toNatClampNeg) = (1 : Int32)) → (∃ n11 : Nat, shAt sh (h.2.1 x0 53) = some (.inl (1, n11)) ∧ (vp_in y3 n11 ∧ ((((255 : Int32) ≤ (h.1 (h.2.1 x0 53) y3.toNatClampNeg)) → (V_X12_findSteps_278 w sh x0 x2 x3 h L17 L36 L58 L144 RET)) ∧ ((¬ (255 : Int32) ≤ (h.1 (h.2.1 x0 53) y3.toNatClampNeg)) → (vp_in y3 n11 ∧ (vp_in y3 n11 ∧ (∀ h16 : Hp, h16 = wI h (h.2.1 x0 53) y3.toNatClampNeg ((h.1 (h.2.1 x0 53) y3.toNatClampNeg) + (1 : Int32)) → (V_X12_findSteps_285 w sh x0 x2 x3 h16 L17 L36 L58 L144 RET))))))))))))))))) ∧ ((¬ x4 < 0) → (shAt sh x0 = some (.inr 12) ∧ (∃ P19 : Hp → Prop, C_X12_step w sh x0 (3 : Int32) x5 x4 h P19 ∧ (∀ h22 : Hp, P19 h22 → (∀ y23 : Int32, y23 = (x2 + x5) → (V_X12_findSteps_288 w sh x0 y23 x3 h22 L17 L36 L58 L144 RET))))))
set_option maxRecDepth 20000 in
set_option maxHeartbeats 4000000 in
theorem W_X12_findSteps_205 {w : Wd} {E : GE} {sh : List Sh} {x0 : Nat} {x2 : Int32} {x3 : Int32} {x4 : Int32} {x5 : Int32} {h : Hp} {L17 : Nat → Int32 → Int32 → Hp → Prop} {L36 : Nat → Int32 → Int32 → Int32 → Int32 → Int32 → Int32 → Hp → Prop} {L58 : Nat → Int32 → Int32 → Int32 → Int32 → Int32 → Int32 → Int32 → Hp → Prop} {L144 : Nat → Int32 → Int32 → Int32 → Int32 → Int32 → Hp → Prop} {RET : Hp → Prop} (X : Cx w E cX12_findSteps 9 RX12) (Tt : Rt w E none sh.length 0 0 (fun q sh9 h9 => q = none ∧ sh9 = sh ∧ RET h9)) (hR : gR E = { frames := 1, cells := 0, slots := 0, locals := 23 }) (hL17 : ∀ (x0 : Nat) (x2 : Int32) (x3 : Int32) (h : Hp), L17 x0 x2 x3 h → G w E 9 17 [(0, rv w.2.2.2 x0), (2, Value.int x2), (3, Value.int x3)] [] sh h 0 0) (hL36 : ∀ (x0 : Nat) (x2 : Int32) (x3 : Int32) (x4 : Int32) (x5 : Int32) (x6 : Int32) (x7 : Int32) (h : Hp), L36 x0 x2 x3 x4 x5 x6 x7 h → G w E 9 36 [(0, rv w.2.2.2 x0), (2, Value.int x2), (3, Value.int x3), (4, Value.int x4), (5, Value.int x5), (6, Value.int x6), (7, Value.int x7)] [] sh h 0 0) (hL58 : ∀ (x0 : Nat) (x2 : Int32) (x3 : Int32) (x4 : Int32) (x5 : Int32) (x6 : Int32) (x7 : Int32) (x8 : Int32) (h : Hp), L58 x0 x2 x3 x4 x5 x6 x7 x8 h → G w E 9 58 [(0, rv w.2.2.2 x0), (2, Value.int x2), (3, Value.int x3), (4, Value.int x4), (5, Value.int x5), (6, Value.int x6), (7, Value.int x7), (8, Value.int x8)] [] sh h 0 0) (hL144 : ∀ (x0 : Nat) (x2 : Int32) (x3 : Int32) (x4 : Int32) (x5 : Int32) (x7 : Int32) (h : Hp), L144 x0 x2 x3 x4 x5 x7 h → G w E 9 144 [(0, rv w.2.2.2 x0), (2, Value.int x2), (3, Value.int x3), (4, Value.int x4), (5, Value.int x5), (7, Value.int x7)] [] sh h 0 0) (hV : V_X12_findSteps_205 w sh x0 x2 x3 x4 x5 h L17 L36 L58 L144 RET) : G w E 9 205 [(0, rv w.2.2.2 x0), (2, Value.int x2), (3, Value.int x3), (4, Value.int x4), (5, Value.int x5)] [] sh h 0 0 := by
  unfold V_X12_findSteps_205 at hV
  refine g_iload (pc := 205) X 3 rfl dX12_findSteps_205 ?_
  refine g_if_lt (pc := 207) X 227 dX12_findSteps_207 (by decide) (fun c1 => ?_) (fun c1 => ?_)
  · have hV := hV.1 c1
    refine g_aload_n (pc := 227) X 0 rfl rfl dX12_findSteps_227 ?_
    obtain ⟨q2, hV⟩ := hV
    refine g_getI (pc := 228) X fl_X12_314 q2 dX12_findSteps_228 ?_
    refine g_iconst (pc := 231) (v := (1 : Int32)) X dX12_findSteps_231 (by decide) ?_
    refine g_isub (pc := 232) X dX12_findSteps_232 ?_
    refine g_istore (pc := 233) X (i := 8) (rest := [(0, rv w.2.2.2 x0), (2, Value.int x2), (3, Value.int x3), (4, Value.int x4), (5, Value.int x5)]) (by decide) rfl dX12_findSteps_233 (fun y3 e4 => ?_)
    have hV := hV y3 e4
    refine g_iload (pc := 235) X 0 rfl dX12_findSteps_235 ?_
    refine g_if_lt (pc := 237) X 278 dX12_findSteps_237 (by decide) (fun c5 => ?_) (fun c5 => ?_)
    · have hV := hV.1 c5
      refine g_lv [1, 2, 3] rfl ?_
      exact W_X12_findSteps_278 X Tt hR hL17 hL36 hL58 hL144 hV
    · have hV := hV.2 c5
      refine g_aload_n (pc := 240) X 1 rfl rfl dX12_findSteps_240 ?_
      refine g_getR (pc := 241) X fl_X12_89 q2 dX12_findSteps_241 ?_
      refine g_iload (pc := 244) X 0 rfl dX12_findSteps_244 ?_
      obtain ⟨n7, q6, hV⟩ := hV
      obtain ⟨q8, hV⟩ := hV
      refine g_iald (pc := 246) X q6 q8 dX12_findSteps_246 ?_
      refine g_iconst (pc := 247) (v := (1 : Int32)) X dX12_findSteps_247 (by decide) ?_
      refine g_icmp_ne (pc := 248) X 278 dX12_findSteps_248 (by decide) (fun c9 => ?_) (fun c9 => ?_)
      · have hV := hV.1 c9
        refine g_lv [1, 2, 3] rfl ?_
        exact W_X12_findSteps_278 X Tt hR hL17 hL36 hL58 hL144 hV
      · have hV := hV.2 c9
        refine g_aload_n (pc := 251) X 1 rfl rfl dX12_findSteps_251 ?_
        refine g_getR (pc := 252) X fl_X12_92 q2 dX12_findSteps_252 ?_
        refine g_iload (pc := 255) X 0 rfl dX12_findSteps_255 ?_
        obtain ⟨n11, q10, hV⟩ := hV
        obtain ⟨q12, hV⟩ := hV
        refine g_iald (pc := 257) X q10 q12 dX12_findSteps_257 ?_
        refine g_sipush (pc := 258) (v := (255 : Int32)) X dX12_findSteps_258 (by decide) ?_
        refine g_icmp_ge (pc := 261) X 278 dX12_findSteps_261 (by decide) (fun c13 => ?_) (fun c13 => ?_)
        · have hV := hV.1 c13
          refine g_lv [1, 2, 3] rfl ?_
          exact W_X12_findSteps_278 X Tt hR hL17 hL36 hL58 hL144 hV
        · have hV := hV.2 c13
          refine g_aload_n (pc := 264) X 1 rfl rfl dX12_findSteps_264 ?_
          refine g_getR (pc := 265) X fl_X12_92 q2 dX12_findSteps_265 ?_
          refine g_iload (pc := 268) X 0 rfl dX12_findSteps_268 ?_
          refine g_dup2_11 (pc := 270) X dX12_findSteps_270 (rfl) (rv_cat _ _) ?_
          obtain ⟨q14, hV⟩ := hV
          refine g_iald (pc := 271) X q10 q14 dX12_findSteps_271 ?_
          refine g_iconst (pc := 272) (v := (1 : Int32)) X dX12_findSteps_272 (by decide) ?_
          refine g_iadd (pc := 273) X dX12_findSteps_273 ?_
          obtain ⟨q15, hV⟩ := hV
          refine g_iast (pc := 274) X q10 q15 dX12_findSteps_274 (fun h16 e17 => ?_)
          have hV := hV h16 e17
          refine g_goto (pc := 275) X 285 dX12_findSteps_275 (by decide) ?_
          refine g_lv [1, 2, 3] rfl ?_
          exact W_X12_findSteps_285 X Tt hR hL17 hL36 hL58 hL144 hV
  · have hV := hV.2 c1
    refine g_aload_n (pc := 210) X 0 rfl rfl dX12_findSteps_210 ?_
    refine g_iconst (pc := 211) (v := (3 : Int32)) X dX12_findSteps_211 (by decide) ?_
    refine g_iload (pc := 212) X 4 rfl dX12_findSteps_212 ?_
    refine g_iload (pc := 214) X 3 rfl dX12_findSteps_214 ?_
    obtain ⟨q18, hV⟩ := hV
    obtain ⟨P19, t20, hV⟩ := hV
    refine g_cVV (pc := 216) X (As := [Value.int (3 : Int32), Value.int x5, Value.int x4]) ml_X12_317 rfl q18 t20 (by rw [hR]; exact ⟨by decide, by decide, by decide, by decide⟩) rfl rfl (Nat.zero_le _) dX12_findSteps_216 (fun h22 p21 => ?_)
    have hV := hV h22 p21
    refine g_iload_n (pc := 219) X 1 rfl rfl dX12_findSteps_219 ?_
    refine g_iload (pc := 220) X 4 rfl dX12_findSteps_220 ?_
    refine g_iadd (pc := 222) X dX12_findSteps_222 ?_
    refine g_istore_n (pc := 223) X (i := 2) (rest := [(0, rv w.2.2.2 x0), (3, Value.int x3), (4, Value.int x4), (5, Value.int x5)]) rfl (by decide) rfl dX12_findSteps_223 (fun y23 e24 => ?_)
    have hV := hV y23 e24
    refine g_goto (pc := 224) X 288 dX12_findSteps_224 (by decide) ?_
    refine g_lv [1, 0, 2] rfl ?_
    exact W_X12_findSteps_288 X Tt hR hL17 hL36 hL58 hL144 hV
def V_X12_findSteps_176 (w : Wd) (sh : List Sh) (x0 : Nat) (x2 : Int32) (x3 : Int32) (x4 : Int32) (x5 : Int32) (x7 : Int32) (h : Hp) (L17 : Nat → Int32 → Int32 → Hp → Prop) (L36 : Nat → Int32 → Int32 → Int32 → Int32 → Int32 → Int32 → Hp → Prop) (L58 : Nat → Int32 → Int32 → Int32 → Int32 → Int32 → Int32 → Int32 → Hp → Prop) (L144 : Nat → Int32 → Int32 → Int32 → Int32 → Int32 → Hp → Prop) (RET : Hp → Prop) : Prop :=
  ((x7 < (4 : Int32)) → (V_X12_findSteps_205 w sh x0 x2 x3 x4 x5 h L17 L36 L58 L144 RET)) ∧ ((¬ x7 < (4 : Int32)) → (((x7 < x5) → (V_X12_findSteps_205 w sh x0 x2 x3 x4 x5 h L17 L36 L58 L144 RET)) ∧ ((¬ x7 < x5) → (shAt sh x0 = some (.inr 12) ∧ (∃ P4 : Hp → Prop, C_X12_step w sh x0 (2 : Int32) x7 (-1 : Int32) h P4 ∧ (∀ h7 : Hp, P4 h7 → (∀ y8 : Int32, y8 = (x2 + x7) → (V_X12_findSteps_288 w sh x0 y8 x3 h7 L17 L36 L58 L144 RET))))))))
set_option maxRecDepth 20000 in
set_option maxHeartbeats 4000000 in
theorem W_X12_findSteps_176 {w : Wd} {E : GE} {sh : List Sh} {x0 : Nat} {x2 : Int32} {x3 : Int32} {x4 : Int32} {x5 : Int32} {x7 : Int32} {h : Hp} {L17 : Nat → Int32 → Int32 → Hp → Prop} {L36 : Nat → Int32 → Int32 → Int32 → Int32 → Int32 → Int32 → Hp → Prop} {L58 : Nat → Int32 → Int32 → Int32 → Int32 → Int32 → Int32 → Int32 → Hp → Prop} {L144 : Nat → Int32 → Int32 → Int32 → Int32 → Int32 → Hp → Prop} {RET : Hp → Prop} (X : Cx w E cX12_findSteps 9 RX12) (Tt : Rt w E none sh.length 0 0 (fun q sh9 h9 => q = none ∧ sh9 = sh ∧ RET h9)) (hR : gR E = { frames := 1, cells := 0, slots := 0, locals := 23 }) (hL17 : ∀ (x0 : Nat) (x2 : Int32) (x3 : Int32) (h : Hp), L17 x0 x2 x3 h → G w E 9 17 [(0, rv w.2.2.2 x0), (2, Value.int x2), (3, Value.int x3)] [] sh h 0 0) (hL36 : ∀ (x0 : Nat) (x2 : Int32) (x3 : Int32) (x4 : Int32) (x5 : Int32) (x6 : Int32) (x7 : Int32) (h : Hp), L36 x0 x2 x3 x4 x5 x6 x7 h → G w E 9 36 [(0, rv w.2.2.2 x0), (2, Value.int x2), (3, Value.int x3), (4, Value.int x4), (5, Value.int x5), (6, Value.int x6), (7, Value.int x7)] [] sh h 0 0) (hL58 : ∀ (x0 : Nat) (x2 : Int32) (x3 : Int32) (x4 : Int32) (x5 : Int32) (x6 : Int32) (x7 : Int32) (x8 : Int32) (h : Hp), L58 x0 x2 x3 x4 x5 x6 x7 x8 h → G w E 9 58 [(0, rv w.2.2.2 x0), (2, Value.int x2), (3, Value.int x3), (4, Value.int x4), (5, Value.int x5), (6, Value.int x6), (7, Value.int x7), (8, Value.int x8)] [] sh h 0 0) (hL144 : ∀ (x0 : Nat) (x2 : Int32) (x3 : Int32) (x4 : Int32) (x5 : Int32) (x7 : Int32) (h : Hp), L144 x0 x2 x3 x4 x5 x7 h → G w E 9 144 [(0, rv w.2.2.2 x0), (2, Value.int x2), (3, Value.int x3), (4, Value.int x4), (5, Value.int x5), (7, Value.int x7)] [] sh h 0 0) (hV : V_X12_findSteps_176 w sh x0 x2 x3 x4 x5 x7 h L17 L36 L58 L144 RET) : G w E 9 176 [(0, rv w.2.2.2 x0), (2, Value.int x2), (3, Value.int x3), (4, Value.int x4), (5, Value.int x5), (7, Value.int x7)] [] sh h 0 0 := by
  unfold V_X12_findSteps_176 at hV
  refine g_iload (pc := 176) X 5 rfl dX12_findSteps_176 ?_
  refine g_iconst (pc := 178) (v := (4 : Int32)) X dX12_findSteps_178 (by decide) ?_
  refine g_icmp_lt (pc := 179) X 205 dX12_findSteps_179 (by decide) (fun c1 => ?_) (fun c1 => ?_)
  · have hV := hV.1 c1
    refine g_lv [0, 1, 2, 3, 4] rfl ?_
    exact W_X12_findSteps_205 X Tt hR hL17 hL36 hL58 hL144 hV
  · have hV := hV.2 c1
    refine g_iload (pc := 182) X 4 rfl dX12_findSteps_182 ?_
    refine g_iload (pc := 184) X 5 rfl dX12_findSteps_184 ?_
    refine g_icmp_gt (pc := 186) X 205 dX12_findSteps_186 (by decide) (fun c2 => ?_) (fun c2 => ?_)
    · have hV := hV.1 c2
      refine g_lv [0, 1, 2, 3, 4] rfl ?_
      exact W_X12_findSteps_205 X Tt hR hL17 hL36 hL58 hL144 hV
    · have hV := hV.2 c2
      refine g_aload_n (pc := 189) X 0 rfl rfl dX12_findSteps_189 ?_
      refine g_iconst (pc := 190) (v := (2 : Int32)) X dX12_findSteps_190 (by decide) ?_
      refine g_iload (pc := 191) X 5 rfl dX12_findSteps_191 ?_
      refine g_iconst (pc := 193) (v := (-1 : Int32)) X dX12_findSteps_193 (by decide) ?_
      obtain ⟨q3, hV⟩ := hV
      obtain ⟨P4, t5, hV⟩ := hV
      refine g_cVV (pc := 194) X (As := [Value.int (2 : Int32), Value.int x7, Value.int (-1 : Int32)]) ml_X12_317 rfl q3 t5 (by rw [hR]; exact ⟨by decide, by decide, by decide, by decide⟩) rfl rfl (Nat.zero_le _) dX12_findSteps_194 (fun h7 p6 => ?_)
      have hV := hV h7 p6
      refine g_iload_n (pc := 197) X 1 rfl rfl dX12_findSteps_197 ?_
      refine g_iload (pc := 198) X 5 rfl dX12_findSteps_198 ?_
      refine g_iadd (pc := 200) X dX12_findSteps_200 ?_
      refine g_istore_n (pc := 201) X (i := 2) (rest := [(0, rv w.2.2.2 x0), (3, Value.int x3), (4, Value.int x4), (5, Value.int x5), (7, Value.int x7)]) rfl (by decide) rfl dX12_findSteps_201 (fun y8 e9 => ?_)
      have hV := hV y8 e9
      refine g_goto (pc := 202) X 288 dX12_findSteps_202 (by decide) ?_
      refine g_lv [1, 0, 2] rfl ?_
      exact W_X12_findSteps_288 X Tt hR hL17 hL36 hL58 hL144 hV
def V_X12_findSteps_144 (w : Wd) (sh : List Sh) (x0 : Nat) (x2 : Int32) (x3 : Int32) (x4 : Int32) (x5 : Int32) (x7 : Int32) (h : Hp) (L17 : Nat → Int32 → Int32 → Hp → Prop) (L36 : Nat → Int32 → Int32 → Int32 → Int32 → Int32 → Int32 → Hp → Prop) (L58 : Nat → Int32 → Int32 → Int32 → Int32 → Int32 → Int32 → Int32 → Hp → Prop) (L144 : Nat → Int32 → Int32 → Int32 → Int32 → Int32 → Hp → Prop) (RET : Hp → Prop) : Prop :=
  ((x3 ≤ (x2 + x7)) → (V_X12_findSteps_176 w sh x0 x2 x3 x4 x5 x7 h L17 L36 L58 L144 RET)) ∧ ((¬ x3 ≤ (x2 + x7)) → (shAt sh x0 = some (.inr 12) ∧ (∃ n4 : Nat, shAt sh (h.2.1 x0 58) = some (.inl (0, n4)) ∧ (vp_in (x2 + x7) n4 ∧ (vp_in x2 n4 ∧ (((¬ (b8 (h.1 (h.2.1 x0 58) (x2 + x7).toNatClampNeg)) = (b8 (h.1 (h.2.1 x0 58) x2.toNatClampNeg))) → (V_X12_findSteps_176 w sh x0 x2 x3 x4 x5 x7 h L17 L36 L58 L144 RET)) ∧ (((b8 (h.1 (h.2.1 x0 58) (x2 + x7).toNatClampNeg)) = (b8 (h.1 (h.2.1 x0 58) x2.toNatClampNeg))) → (∀ y8 : Int32, y8 = x7 + (1 : Int32) → (L144 x0 x2 x3 x4 x5 y8 h)))))))))
set_option maxRecDepth 20000 in
set_option maxHeartbeats 4000000 in
theorem W_X12_findSteps_144 {w : Wd} {E : GE} {sh : List Sh} {x0 : Nat} {x2 : Int32} {x3 : Int32} {x4 : Int32} {x5 : Int32} {x7 : Int32} {h : Hp} {L17 : Nat → Int32 → Int32 → Hp → Prop} {L36 : Nat → Int32 → Int32 → Int32 → Int32 → Int32 → Int32 → Hp → Prop} {L58 : Nat → Int32 → Int32 → Int32 → Int32 → Int32 → Int32 → Int32 → Hp → Prop} {L144 : Nat → Int32 → Int32 → Int32 → Int32 → Int32 → Hp → Prop} {RET : Hp → Prop} (X : Cx w E cX12_findSteps 9 RX12) (Tt : Rt w E none sh.length 0 0 (fun q sh9 h9 => q = none ∧ sh9 = sh ∧ RET h9)) (hR : gR E = { frames := 1, cells := 0, slots := 0, locals := 23 }) (hL17 : ∀ (x0 : Nat) (x2 : Int32) (x3 : Int32) (h : Hp), L17 x0 x2 x3 h → G w E 9 17 [(0, rv w.2.2.2 x0), (2, Value.int x2), (3, Value.int x3)] [] sh h 0 0) (hL36 : ∀ (x0 : Nat) (x2 : Int32) (x3 : Int32) (x4 : Int32) (x5 : Int32) (x6 : Int32) (x7 : Int32) (h : Hp), L36 x0 x2 x3 x4 x5 x6 x7 h → G w E 9 36 [(0, rv w.2.2.2 x0), (2, Value.int x2), (3, Value.int x3), (4, Value.int x4), (5, Value.int x5), (6, Value.int x6), (7, Value.int x7)] [] sh h 0 0) (hL58 : ∀ (x0 : Nat) (x2 : Int32) (x3 : Int32) (x4 : Int32) (x5 : Int32) (x6 : Int32) (x7 : Int32) (x8 : Int32) (h : Hp), L58 x0 x2 x3 x4 x5 x6 x7 x8 h → G w E 9 58 [(0, rv w.2.2.2 x0), (2, Value.int x2), (3, Value.int x3), (4, Value.int x4), (5, Value.int x5), (6, Value.int x6), (7, Value.int x7), (8, Value.int x8)] [] sh h 0 0) (hL144 : ∀ (x0 : Nat) (x2 : Int32) (x3 : Int32) (x4 : Int32) (x5 : Int32) (x7 : Int32) (h : Hp), L144 x0 x2 x3 x4 x5 x7 h → G w E 9 144 [(0, rv w.2.2.2 x0), (2, Value.int x2), (3, Value.int x3), (4, Value.int x4), (5, Value.int x5), (7, Value.int x7)] [] sh h 0 0) (hV : V_X12_findSteps_144 w sh x0 x2 x3 x4 x5 x7 h L17 L36 L58 L144 RET) : G w E 9 144 [(0, rv w.2.2.2 x0), (2, Value.int x2), (3, Value.int x3), (4, Value.int x4), (5, Value.int x5), (7, Value.int x7)] [] sh h 0 0 := by
  unfold V_X12_findSteps_144 at hV
  refine g_iload_n (pc := 144) X 1 rfl rfl dX12_findSteps_144 ?_
  refine g_iload (pc := 145) X 5 rfl dX12_findSteps_145 ?_
  refine g_iadd (pc := 147) X dX12_findSteps_147 ?_
  refine g_iload_n (pc := 148) X 2 rfl rfl dX12_findSteps_148 ?_
  refine g_icmp_ge (pc := 149) X 176 dX12_findSteps_149 (by decide) (fun c1 => ?_) (fun c1 => ?_)
  · have hV := hV.1 c1
    exact W_X12_findSteps_176 X Tt hR hL17 hL36 hL58 hL144 hV
  · have hV := hV.2 c1
    refine g_aload_n (pc := 152) X 0 rfl rfl dX12_findSteps_152 ?_
    obtain ⟨q2, hV⟩ := hV
    refine g_getR (pc := 153) X fl_X12_107 q2 dX12_findSteps_153 ?_
    refine g_iload_n (pc := 156) X 1 rfl rfl dX12_findSteps_156 ?_
    refine g_iload (pc := 157) X 5 rfl dX12_findSteps_157 ?_
    refine g_iadd (pc := 159) X dX12_findSteps_159 ?_
    obtain ⟨n4, q3, hV⟩ := hV
    obtain ⟨q5, hV⟩ := hV
    refine g_bald (pc := 160) X q3 q5 dX12_findSteps_160 ?_
    refine g_aload_n (pc := 161) X 0 rfl rfl dX12_findSteps_161 ?_
    refine g_getR (pc := 162) X fl_X12_107 q2 dX12_findSteps_162 ?_
    refine g_iload_n (pc := 165) X 1 rfl rfl dX12_findSteps_165 ?_
    obtain ⟨q6, hV⟩ := hV
    refine g_bald (pc := 166) X q3 q6 dX12_findSteps_166 ?_
    refine g_icmp_ne (pc := 167) X 176 dX12_findSteps_167 (by decide) (fun c7 => ?_) (fun c7 => ?_)
    · have hV := hV.1 c7
      exact W_X12_findSteps_176 X Tt hR hL17 hL36 hL58 hL144 hV
    · have hV := hV.2 c7
      refine g_iinc (pc := 170) X 5 (v := (1 : Int32)) (rest := [(0, rv w.2.2.2 x0), (2, Value.int x2), (3, Value.int x3), (4, Value.int x4), (5, Value.int x5)]) rfl (by decide) rfl (by decide) dX12_findSteps_170 (fun y8 e9 => ?_)
      have hV := hV y8 e9
      refine g_goto (pc := 173) X 144 dX12_findSteps_173 (by decide) ?_
      refine g_lv [1, 2, 3, 4, 5, 0] rfl ?_
      exact hL144 x0 x2 x3 x4 x5 y8 h hV
def V_X12_findSteps_141 (w : Wd) (sh : List Sh) (x0 : Nat) (x2 : Int32) (x3 : Int32) (x4 : Int32) (x5 : Int32) (h : Hp) (L17 : Nat → Int32 → Int32 → Hp → Prop) (L36 : Nat → Int32 → Int32 → Int32 → Int32 → Int32 → Int32 → Hp → Prop) (L58 : Nat → Int32 → Int32 → Int32 → Int32 → Int32 → Int32 → Int32 → Hp → Prop) (L144 : Nat → Int32 → Int32 → Int32 → Int32 → Int32 → Hp → Prop) (RET : Hp → Prop) : Prop :=
  ∀ y1 : Int32, y1 = (1 : Int32) → (L144 x0 x2 x3 x4 x5 y1 h)
set_option maxRecDepth 20000 in
set_option maxHeartbeats 4000000 in
theorem W_X12_findSteps_141 {w : Wd} {E : GE} {sh : List Sh} {x0 : Nat} {x2 : Int32} {x3 : Int32} {x4 : Int32} {x5 : Int32} {h : Hp} {L17 : Nat → Int32 → Int32 → Hp → Prop} {L36 : Nat → Int32 → Int32 → Int32 → Int32 → Int32 → Int32 → Hp → Prop} {L58 : Nat → Int32 → Int32 → Int32 → Int32 → Int32 → Int32 → Int32 → Hp → Prop} {L144 : Nat → Int32 → Int32 → Int32 → Int32 → Int32 → Hp → Prop} {RET : Hp → Prop} (X : Cx w E cX12_findSteps 9 RX12) (Tt : Rt w E none sh.length 0 0 (fun q sh9 h9 => q = none ∧ sh9 = sh ∧ RET h9)) (hR : gR E = { frames := 1, cells := 0, slots := 0, locals := 23 }) (hL17 : ∀ (x0 : Nat) (x2 : Int32) (x3 : Int32) (h : Hp), L17 x0 x2 x3 h → G w E 9 17 [(0, rv w.2.2.2 x0), (2, Value.int x2), (3, Value.int x3)] [] sh h 0 0) (hL36 : ∀ (x0 : Nat) (x2 : Int32) (x3 : Int32) (x4 : Int32) (x5 : Int32) (x6 : Int32) (x7 : Int32) (h : Hp), L36 x0 x2 x3 x4 x5 x6 x7 h → G w E 9 36 [(0, rv w.2.2.2 x0), (2, Value.int x2), (3, Value.int x3), (4, Value.int x4), (5, Value.int x5), (6, Value.int x6), (7, Value.int x7)] [] sh h 0 0) (hL58 : ∀ (x0 : Nat) (x2 : Int32) (x3 : Int32) (x4 : Int32) (x5 : Int32) (x6 : Int32) (x7 : Int32) (x8 : Int32) (h : Hp), L58 x0 x2 x3 x4 x5 x6 x7 x8 h → G w E 9 58 [(0, rv w.2.2.2 x0), (2, Value.int x2), (3, Value.int x3), (4, Value.int x4), (5, Value.int x5), (6, Value.int x6), (7, Value.int x7), (8, Value.int x8)] [] sh h 0 0) (hL144 : ∀ (x0 : Nat) (x2 : Int32) (x3 : Int32) (x4 : Int32) (x5 : Int32) (x7 : Int32) (h : Hp), L144 x0 x2 x3 x4 x5 x7 h → G w E 9 144 [(0, rv w.2.2.2 x0), (2, Value.int x2), (3, Value.int x3), (4, Value.int x4), (5, Value.int x5), (7, Value.int x7)] [] sh h 0 0) (hV : V_X12_findSteps_141 w sh x0 x2 x3 x4 x5 h L17 L36 L58 L144 RET) : G w E 9 141 [(0, rv w.2.2.2 x0), (2, Value.int x2), (3, Value.int x3), (4, Value.int x4), (5, Value.int x5)] [] sh h 0 0 := by
  unfold V_X12_findSteps_141 at hV
  refine g_iconst (pc := 141) (v := (1 : Int32)) X dX12_findSteps_141 (by decide) ?_
  refine g_istore (pc := 142) X (i := 7) (rest := [(0, rv w.2.2.2 x0), (2, Value.int x2), (3, Value.int x3), (4, Value.int x4), (5, Value.int x5)]) (by decide) rfl dX12_findSteps_142 (fun y1 e2 => ?_)
  have hV := hV y1 e2
  refine g_lv [1, 2, 3, 4, 5, 0] rfl ?_
  exact hL144 x0 x2 x3 x4 x5 y1 h hV
def V_X12_findSteps_135 (w : Wd) (sh : List Sh) (x0 : Nat) (x2 : Int32) (x3 : Int32) (x4 : Int32) (x5 : Int32) (x6 : Int32) (x7 : Int32) (h : Hp) (L17 : Nat → Int32 → Int32 → Hp → Prop) (L36 : Nat → Int32 → Int32 → Int32 → Int32 → Int32 → Int32 → Hp → Prop) (L58 : Nat → Int32 → Int32 → Int32 → Int32 → Int32 → Int32 → Int32 → Hp → Prop) (L144 : Nat → Int32 → Int32 → Int32 → Int32 → Int32 → Hp → Prop) (RET : Hp → Prop) : Prop :=
  ∀ y1 : Int32, y1 = x7 + (-1 : Int32) → (L36 x0 x2 x3 x4 x5 x6 y1 h)
set_option maxRecDepth 20000 in
set_option maxHeartbeats 4000000 in
theorem W_X12_findSteps_135 {w : Wd} {E : GE} {sh : List Sh} {x0 : Nat} {x2 : Int32} {x3 : Int32} {x4 : Int32} {x5 : Int32} {x6 : Int32} {x7 : Int32} {h : Hp} {L17 : Nat → Int32 → Int32 → Hp → Prop} {L36 : Nat → Int32 → Int32 → Int32 → Int32 → Int32 → Int32 → Hp → Prop} {L58 : Nat → Int32 → Int32 → Int32 → Int32 → Int32 → Int32 → Int32 → Hp → Prop} {L144 : Nat → Int32 → Int32 → Int32 → Int32 → Int32 → Hp → Prop} {RET : Hp → Prop} (X : Cx w E cX12_findSteps 9 RX12) (Tt : Rt w E none sh.length 0 0 (fun q sh9 h9 => q = none ∧ sh9 = sh ∧ RET h9)) (hR : gR E = { frames := 1, cells := 0, slots := 0, locals := 23 }) (hL17 : ∀ (x0 : Nat) (x2 : Int32) (x3 : Int32) (h : Hp), L17 x0 x2 x3 h → G w E 9 17 [(0, rv w.2.2.2 x0), (2, Value.int x2), (3, Value.int x3)] [] sh h 0 0) (hL36 : ∀ (x0 : Nat) (x2 : Int32) (x3 : Int32) (x4 : Int32) (x5 : Int32) (x6 : Int32) (x7 : Int32) (h : Hp), L36 x0 x2 x3 x4 x5 x6 x7 h → G w E 9 36 [(0, rv w.2.2.2 x0), (2, Value.int x2), (3, Value.int x3), (4, Value.int x4), (5, Value.int x5), (6, Value.int x6), (7, Value.int x7)] [] sh h 0 0) (hL58 : ∀ (x0 : Nat) (x2 : Int32) (x3 : Int32) (x4 : Int32) (x5 : Int32) (x6 : Int32) (x7 : Int32) (x8 : Int32) (h : Hp), L58 x0 x2 x3 x4 x5 x6 x7 x8 h → G w E 9 58 [(0, rv w.2.2.2 x0), (2, Value.int x2), (3, Value.int x3), (4, Value.int x4), (5, Value.int x5), (6, Value.int x6), (7, Value.int x7), (8, Value.int x8)] [] sh h 0 0) (hL144 : ∀ (x0 : Nat) (x2 : Int32) (x3 : Int32) (x4 : Int32) (x5 : Int32) (x7 : Int32) (h : Hp), L144 x0 x2 x3 x4 x5 x7 h → G w E 9 144 [(0, rv w.2.2.2 x0), (2, Value.int x2), (3, Value.int x3), (4, Value.int x4), (5, Value.int x5), (7, Value.int x7)] [] sh h 0 0) (hV : V_X12_findSteps_135 w sh x0 x2 x3 x4 x5 x6 x7 h L17 L36 L58 L144 RET) : G w E 9 135 [(0, rv w.2.2.2 x0), (2, Value.int x2), (3, Value.int x3), (4, Value.int x4), (5, Value.int x5), (6, Value.int x6), (7, Value.int x7)] [] sh h 0 0 := by
  unfold V_X12_findSteps_135 at hV
  refine g_iinc (pc := 135) X 6 (v := (-1 : Int32)) (rest := [(0, rv w.2.2.2 x0), (2, Value.int x2), (3, Value.int x3), (4, Value.int x4), (5, Value.int x5), (6, Value.int x6)]) rfl (by decide) rfl (by decide) dX12_findSteps_135 (fun y1 e2 => ?_)
  have hV := hV y1 e2
  refine g_goto (pc := 138) X 36 dX12_findSteps_138 (by decide) ?_
  refine g_lv [1, 2, 3, 4, 5, 6, 0] rfl ?_
  exact hL36 x0 x2 x3 x4 x5 x6 y1 h hV
def V_X12_findSteps_133 (w : Wd) (sh : List Sh) (x0 : Nat) (x2 : Int32) (x3 : Int32) (x4 : Int32) (x6 : Int32) (x7 : Int32) (s0 : Int32) (h : Hp) (L17 : Nat → Int32 → Int32 → Hp → Prop) (L36 : Nat → Int32 → Int32 → Int32 → Int32 → Int32 → Int32 → Hp → Prop) (L58 : Nat → Int32 → Int32 → Int32 → Int32 → Int32 → Int32 → Int32 → Hp → Prop) (L144 : Nat → Int32 → Int32 → Int32 → Int32 → Int32 → Hp → Prop) (RET : Hp → Prop) : Prop :=
  ∀ y1 : Int32, y1 = s0 → (V_X12_findSteps_135 w sh x0 x2 x3 x4 y1 x6 x7 h L17 L36 L58 L144 RET)
set_option maxRecDepth 20000 in
set_option maxHeartbeats 4000000 in
theorem W_X12_findSteps_133 {w : Wd} {E : GE} {sh : List Sh} {x0 : Nat} {x2 : Int32} {x3 : Int32} {x4 : Int32} {x6 : Int32} {x7 : Int32} {s0 : Int32} {h : Hp} {L17 : Nat → Int32 → Int32 → Hp → Prop} {L36 : Nat → Int32 → Int32 → Int32 → Int32 → Int32 → Int32 → Hp → Prop} {L58 : Nat → Int32 → Int32 → Int32 → Int32 → Int32 → Int32 → Int32 → Hp → Prop} {L144 : Nat → Int32 → Int32 → Int32 → Int32 → Int32 → Hp → Prop} {RET : Hp → Prop} (X : Cx w E cX12_findSteps 9 RX12) (Tt : Rt w E none sh.length 0 0 (fun q sh9 h9 => q = none ∧ sh9 = sh ∧ RET h9)) (hR : gR E = { frames := 1, cells := 0, slots := 0, locals := 23 }) (hL17 : ∀ (x0 : Nat) (x2 : Int32) (x3 : Int32) (h : Hp), L17 x0 x2 x3 h → G w E 9 17 [(0, rv w.2.2.2 x0), (2, Value.int x2), (3, Value.int x3)] [] sh h 0 0) (hL36 : ∀ (x0 : Nat) (x2 : Int32) (x3 : Int32) (x4 : Int32) (x5 : Int32) (x6 : Int32) (x7 : Int32) (h : Hp), L36 x0 x2 x3 x4 x5 x6 x7 h → G w E 9 36 [(0, rv w.2.2.2 x0), (2, Value.int x2), (3, Value.int x3), (4, Value.int x4), (5, Value.int x5), (6, Value.int x6), (7, Value.int x7)] [] sh h 0 0) (hL58 : ∀ (x0 : Nat) (x2 : Int32) (x3 : Int32) (x4 : Int32) (x5 : Int32) (x6 : Int32) (x7 : Int32) (x8 : Int32) (h : Hp), L58 x0 x2 x3 x4 x5 x6 x7 x8 h → G w E 9 58 [(0, rv w.2.2.2 x0), (2, Value.int x2), (3, Value.int x3), (4, Value.int x4), (5, Value.int x5), (6, Value.int x6), (7, Value.int x7), (8, Value.int x8)] [] sh h 0 0) (hL144 : ∀ (x0 : Nat) (x2 : Int32) (x3 : Int32) (x4 : Int32) (x5 : Int32) (x7 : Int32) (h : Hp), L144 x0 x2 x3 x4 x5 x7 h → G w E 9 144 [(0, rv w.2.2.2 x0), (2, Value.int x2), (3, Value.int x3), (4, Value.int x4), (5, Value.int x5), (7, Value.int x7)] [] sh h 0 0) (hV : V_X12_findSteps_133 w sh x0 x2 x3 x4 x6 x7 s0 h L17 L36 L58 L144 RET) : G w E 9 133 [(0, rv w.2.2.2 x0), (2, Value.int x2), (3, Value.int x3), (4, Value.int x4), (6, Value.int x6), (7, Value.int x7)] [Value.int s0] sh h 0 0 := by
  unfold V_X12_findSteps_133 at hV
  refine g_istore (pc := 133) X (i := 5) (rest := [(0, rv w.2.2.2 x0), (2, Value.int x2), (3, Value.int x3), (4, Value.int x4), (6, Value.int x6), (7, Value.int x7)]) (by decide) rfl dX12_findSteps_133 (fun y1 e2 => ?_)
  have hV := hV y1 e2
  refine g_lv [1, 2, 3, 4, 0, 5, 6] rfl ?_
  exact W_X12_findSteps_135 X Tt hR hL17 hL36 hL58 hL144 hV
def V_X12_findSteps_117 (w : Wd) (sh : List Sh) (x0 : Nat) (x2 : Int32) (x3 : Int32) (x5 : Int32) (x6 : Int32) (x7 : Int32) (x8 : Int32) (s0 : Int32) (h : Hp) (L17 : Nat → Int32 → Int32 → Hp → Prop) (L36 : Nat → Int32 → Int32 → Int32 → Int32 → Int32 → Int32 → Hp → Prop) (L58 : Nat → Int32 → Int32 → Int32 → Int32 → Int32 → Int32 → Int32 → Hp → Prop) (L144 : Nat → Int32 → Int32 → Int32 → Int32 → Int32 → Hp → Prop) (RET : Hp → Prop) : Prop :=
  ∀ y1 : Int32, y1 = s0 → (((x8 ≤ x5) → (V_X12_findSteps_133 w sh x0 x2 x3 y1 x6 x7 x5 h L17 L36 L58 L144 RET)) ∧ ((¬ x8 ≤ x5) → (V_X12_findSteps_133 w sh x0 x2 x3 y1 x6 x7 x8 h L17 L36 L58 L144 RET)))
set_option maxRecDepth 20000 in
set_option maxHeartbeats 4000000 in
theorem W_X12_findSteps_117 {w : Wd} {E : GE} {sh : List Sh} {x0 : Nat} {x2 : Int32} {x3 : Int32} {x5 : Int32} {x6 : Int32} {x7 : Int32} {x8 : Int32} {s0 : Int32} {h : Hp} {L17 : Nat → Int32 → Int32 → Hp → Prop} {L36 : Nat → Int32 → Int32 → Int32 → Int32 → Int32 → Int32 → Hp → Prop} {L58 : Nat → Int32 → Int32 → Int32 → Int32 → Int32 → Int32 → Int32 → Hp → Prop} {L144 : Nat → Int32 → Int32 → Int32 → Int32 → Int32 → Hp → Prop} {RET : Hp → Prop} (X : Cx w E cX12_findSteps 9 RX12) (Tt : Rt w E none sh.length 0 0 (fun q sh9 h9 => q = none ∧ sh9 = sh ∧ RET h9)) (hR : gR E = { frames := 1, cells := 0, slots := 0, locals := 23 }) (hL17 : ∀ (x0 : Nat) (x2 : Int32) (x3 : Int32) (h : Hp), L17 x0 x2 x3 h → G w E 9 17 [(0, rv w.2.2.2 x0), (2, Value.int x2), (3, Value.int x3)] [] sh h 0 0) (hL36 : ∀ (x0 : Nat) (x2 : Int32) (x3 : Int32) (x4 : Int32) (x5 : Int32) (x6 : Int32) (x7 : Int32) (h : Hp), L36 x0 x2 x3 x4 x5 x6 x7 h → G w E 9 36 [(0, rv w.2.2.2 x0), (2, Value.int x2), (3, Value.int x3), (4, Value.int x4), (5, Value.int x5), (6, Value.int x6), (7, Value.int x7)] [] sh h 0 0) (hL58 : ∀ (x0 : Nat) (x2 : Int32) (x3 : Int32) (x4 : Int32) (x5 : Int32) (x6 : Int32) (x7 : Int32) (x8 : Int32) (h : Hp), L58 x0 x2 x3 x4 x5 x6 x7 x8 h → G w E 9 58 [(0, rv w.2.2.2 x0), (2, Value.int x2), (3, Value.int x3), (4, Value.int x4), (5, Value.int x5), (6, Value.int x6), (7, Value.int x7), (8, Value.int x8)] [] sh h 0 0) (hL144 : ∀ (x0 : Nat) (x2 : Int32) (x3 : Int32) (x4 : Int32) (x5 : Int32) (x7 : Int32) (h : Hp), L144 x0 x2 x3 x4 x5 x7 h → G w E 9 144 [(0, rv w.2.2.2 x0), (2, Value.int x2), (3, Value.int x3), (4, Value.int x4), (5, Value.int x5), (7, Value.int x7)] [] sh h 0 0) (hV : V_X12_findSteps_117 w sh x0 x2 x3 x5 x6 x7 x8 s0 h L17 L36 L58 L144 RET) : G w E 9 117 [(0, rv w.2.2.2 x0), (2, Value.int x2), (3, Value.int x3), (5, Value.int x5), (6, Value.int x6), (7, Value.int x7), (8, Value.int x8)] [Value.int s0] sh h 0 0 := by
  unfold V_X12_findSteps_117 at hV
  refine g_istore (pc := 117) X (i := 4) (rest := [(0, rv w.2.2.2 x0), (2, Value.int x2), (3, Value.int x3), (5, Value.int x5), (6, Value.int x6), (7, Value.int x7), (8, Value.int x8)]) (by decide) rfl dX12_findSteps_117 (fun y1 e2 => ?_)
  have hV := hV y1 e2
  refine g_iload (pc := 119) X 7 rfl dX12_findSteps_119 ?_
  refine g_iload (pc := 121) X 4 rfl dX12_findSteps_121 ?_
  refine g_icmp_le (pc := 123) X 131 dX12_findSteps_123 (by decide) (fun c3 => ?_) (fun c3 => ?_)
  · have hV := hV.1 c3
    refine g_iload (pc := 131) X 4 rfl dX12_findSteps_131 ?_
    refine g_lv [1, 2, 3, 0, 5, 6] rfl ?_
    exact W_X12_findSteps_133 X Tt hR hL17 hL36 hL58 hL144 hV
  · have hV := hV.2 c3
    refine g_iload (pc := 126) X 7 rfl dX12_findSteps_126 ?_
    refine g_goto (pc := 128) X 133 dX12_findSteps_128 (by decide) ?_
    refine g_lv [1, 2, 3, 0, 5, 6] rfl ?_
    exact W_X12_findSteps_133 X Tt hR hL17 hL36 hL58 hL144 hV
def V_X12_findSteps_94 (w : Wd) (sh : List Sh) (x0 : Nat) (x2 : Int32) (x3 : Int32) (x4 : Int32) (x5 : Int32) (x6 : Int32) (x7 : Int32) (x8 : Int32) (h : Hp) (L17 : Nat → Int32 → Int32 → Hp → Prop) (L36 : Nat → Int32 → Int32 → Int32 → Int32 → Int32 → Int32 → Hp → Prop) (L58 : Nat → Int32 → Int32 → Int32 → Int32 → Int32 → Int32 → Int32 → Hp → Prop) (L144 : Nat → Int32 → Int32 → Int32 → Int32 → Int32 → Hp → Prop) (RET : Hp → Prop) : Prop :=
  ((x8 < (4 : Int32)) → (V_X12_findSteps_135 w sh x0 x2 x3 x4 x5 x6 x7 h L17 L36 L58 L144 RET)) ∧ ((¬ x8 < (4 : Int32)) → (∀ y2 : Int32, y2 = x6 + (1 : Int32) → (((x8 ≤ x5) → (V_X12_findSteps_117 w sh x0 x2 x3 x5 y2 x7 x8 x4 h L17 L36 L58 L144 RET)) ∧ ((¬ x8 ≤ x5) → (V_X12_findSteps_117 w sh x0 x2 x3 x5 y2 x7 x8 x7 h L17 L36 L58 L144 RET)))))
set_option maxRecDepth 20000 in
set_option maxHeartbeats 4000000 in
theorem W_X12_findSteps_94 {w : Wd} {E : GE} {sh : List Sh} {x0 : Nat} {x2 : Int32} {x3 : Int32} {x4 : Int32} {x5 : Int32} {x6 : Int32} {x7 : Int32} {x8 : Int32} {h : Hp} {L17 : Nat → Int32 → Int32 → Hp → Prop} {L36 : Nat → Int32 → Int32 → Int32 → Int32 → Int32 → Int32 → Hp → Prop} {L58 : Nat → Int32 → Int32 → Int32 → Int32 → Int32 → Int32 → Int32 → Hp → Prop} {L144 : Nat → Int32 → Int32 → Int32 → Int32 → Int32 → Hp → Prop} {RET : Hp → Prop} (X : Cx w E cX12_findSteps 9 RX12) (Tt : Rt w E none sh.length 0 0 (fun q sh9 h9 => q = none ∧ sh9 = sh ∧ RET h9)) (hR : gR E = { frames := 1, cells := 0, slots := 0, locals := 23 }) (hL17 : ∀ (x0 : Nat) (x2 : Int32) (x3 : Int32) (h : Hp), L17 x0 x2 x3 h → G w E 9 17 [(0, rv w.2.2.2 x0), (2, Value.int x2), (3, Value.int x3)] [] sh h 0 0) (hL36 : ∀ (x0 : Nat) (x2 : Int32) (x3 : Int32) (x4 : Int32) (x5 : Int32) (x6 : Int32) (x7 : Int32) (h : Hp), L36 x0 x2 x3 x4 x5 x6 x7 h → G w E 9 36 [(0, rv w.2.2.2 x0), (2, Value.int x2), (3, Value.int x3), (4, Value.int x4), (5, Value.int x5), (6, Value.int x6), (7, Value.int x7)] [] sh h 0 0) (hL58 : ∀ (x0 : Nat) (x2 : Int32) (x3 : Int32) (x4 : Int32) (x5 : Int32) (x6 : Int32) (x7 : Int32) (x8 : Int32) (h : Hp), L58 x0 x2 x3 x4 x5 x6 x7 x8 h → G w E 9 58 [(0, rv w.2.2.2 x0), (2, Value.int x2), (3, Value.int x3), (4, Value.int x4), (5, Value.int x5), (6, Value.int x6), (7, Value.int x7), (8, Value.int x8)] [] sh h 0 0) (hL144 : ∀ (x0 : Nat) (x2 : Int32) (x3 : Int32) (x4 : Int32) (x5 : Int32) (x7 : Int32) (h : Hp), L144 x0 x2 x3 x4 x5 x7 h → G w E 9 144 [(0, rv w.2.2.2 x0), (2, Value.int x2), (3, Value.int x3), (4, Value.int x4), (5, Value.int x5), (7, Value.int x7)] [] sh h 0 0) (hV : V_X12_findSteps_94 w sh x0 x2 x3 x4 x5 x6 x7 x8 h L17 L36 L58 L144 RET) : G w E 9 94 [(0, rv w.2.2.2 x0), (2, Value.int x2), (3, Value.int x3), (4, Value.int x4), (5, Value.int x5), (6, Value.int x6), (7, Value.int x7), (8, Value.int x8)] [] sh h 0 0 := by
  unfold V_X12_findSteps_94 at hV
  refine g_iload (pc := 94) X 7 rfl dX12_findSteps_94 ?_
  refine g_iconst (pc := 96) (v := (4 : Int32)) X dX12_findSteps_96 (by decide) ?_
  refine g_icmp_lt (pc := 97) X 135 dX12_findSteps_97 (by decide) (fun c1 => ?_) (fun c1 => ?_)
  · have hV := hV.1 c1
    refine g_lv [0, 1, 2, 3, 4, 5, 6] rfl ?_
    exact W_X12_findSteps_135 X Tt hR hL17 hL36 hL58 hL144 hV
  · have hV := hV.2 c1
    refine g_iinc (pc := 100) X 5 (v := (1 : Int32)) (rest := [(0, rv w.2.2.2 x0), (2, Value.int x2), (3, Value.int x3), (4, Value.int x4), (5, Value.int x5), (7, Value.int x7), (8, Value.int x8)]) rfl (by decide) rfl (by decide) dX12_findSteps_100 (fun y2 e3 => ?_)
    have hV := hV y2 e3
    refine g_iload (pc := 103) X 7 rfl dX12_findSteps_103 ?_
    refine g_iload (pc := 105) X 5 rfl dX12_findSteps_105 ?_
    refine g_icmp_le (pc := 107) X 115 dX12_findSteps_107 (by decide) (fun c4 => ?_) (fun c4 => ?_)
    · have hV := hV.1 c4
      refine g_iload (pc := 115) X 4 rfl dX12_findSteps_115 ?_
      refine g_lv [1, 2, 3, 5, 0, 6, 7] rfl ?_
      exact W_X12_findSteps_117 X Tt hR hL17 hL36 hL58 hL144 hV
    · have hV := hV.2 c4
      refine g_iload (pc := 110) X 6 rfl dX12_findSteps_110 ?_
      refine g_goto (pc := 112) X 117 dX12_findSteps_112 (by decide) ?_
      refine g_lv [1, 2, 3, 5, 0, 6, 7] rfl ?_
      exact W_X12_findSteps_117 X Tt hR hL17 hL36 hL58 hL144 hV
def V_X12_findSteps_58 (w : Wd) (sh : List Sh) (x0 : Nat) (x2 : Int32) (x3 : Int32) (x4 : Int32) (x5 : Int32) (x6 : Int32) (x7 : Int32) (x8 : Int32) (h : Hp) (L17 : Nat → Int32 → Int32 → Hp → Prop) (L36 : Nat → Int32 → Int32 → Int32 → Int32 → Int32 → Int32 → Hp → Prop) (L58 : Nat → Int32 → Int32 → Int32 → Int32 → Int32 → Int32 → Int32 → Hp → Prop) (L144 : Nat → Int32 → Int32 → Int32 → Int32 → Int32 → Hp → Prop) (RET : Hp → Prop) : Prop :=
  ((x3 ≤ (x2 + x8)) → (V_X12_findSteps_94 w sh x0 x2 x3 x4 x5 x6 x7 x8 h L17 L36 L58 L144 RET)) ∧ ((¬ x3 ≤ (x2 + x8)) → (shAt sh x0 = some (.inr 12) ∧ (∃ n4 : Nat, shAt sh (h.2.1 x0 58) = some (.inl (0, n4)) ∧ (vp_in (x7 + x8) n4 ∧ (vp_in (x2 + x8) n4 ∧ (((¬ (b8 (h.1 (h.2.1 x0 58) (x7 + x8).toNatClampNeg)) = (b8 (h.1 (h.2.1 x0 58) (x2 + x8).toNatClampNeg))) → (V_X12_findSteps_94 w sh x0 x2 x3 x4 x5 x6 x7 x8 h L17 L36 L58 L144 RET)) ∧ (((b8 (h.1 (h.2.1 x0 58) (x7 + x8).toNatClampNeg)) = (b8 (h.1 (h.2.1 x0 58) (x2 + x8).toNatClampNeg))) → (∀ y8 : Int32, y8 = x8 + (1 : Int32) → (L58 x0 x2 x3 x4 x5 x6 x7 y8 h)))))))))
set_option maxRecDepth 20000 in
set_option maxHeartbeats 4000000 in
theorem W_X12_findSteps_58 {w : Wd} {E : GE} {sh : List Sh} {x0 : Nat} {x2 : Int32} {x3 : Int32} {x4 : Int32} {x5 : Int32} {x6 : Int32} {x7 : Int32} {x8 : Int32} {h : Hp} {L17 : Nat → Int32 → Int32 → Hp → Prop} {L36 : Nat → Int32 → Int32 → Int32 → Int32 → Int32 → Int32 → Hp → Prop} {L58 : Nat → Int32 → Int32 → Int32 → Int32 → Int32 → Int32 → Int32 → Hp → Prop} {L144 : Nat → Int32 → Int32 → Int32 → Int32 → Int32 → Hp → Prop} {RET : Hp → Prop} (X : Cx w E cX12_findSteps 9 RX12) (Tt : Rt w E none sh.length 0 0 (fun q sh9 h9 => q = none ∧ sh9 = sh ∧ RET h9)) (hR : gR E = { frames := 1, cells := 0, slots := 0, locals := 23 }) (hL17 : ∀ (x0 : Nat) (x2 : Int32) (x3 : Int32) (h : Hp), L17 x0 x2 x3 h → G w E 9 17 [(0, rv w.2.2.2 x0), (2, Value.int x2), (3, Value.int x3)] [] sh h 0 0) (hL36 : ∀ (x0 : Nat) (x2 : Int32) (x3 : Int32) (x4 : Int32) (x5 : Int32) (x6 : Int32) (x7 : Int32) (h : Hp), L36 x0 x2 x3 x4 x5 x6 x7 h → G w E 9 36 [(0, rv w.2.2.2 x0), (2, Value.int x2), (3, Value.int x3), (4, Value.int x4), (5, Value.int x5), (6, Value.int x6), (7, Value.int x7)] [] sh h 0 0) (hL58 : ∀ (x0 : Nat) (x2 : Int32) (x3 : Int32) (x4 : Int32) (x5 : Int32) (x6 : Int32) (x7 : Int32) (x8 : Int32) (h : Hp), L58 x0 x2 x3 x4 x5 x6 x7 x8 h → G w E 9 58 [(0, rv w.2.2.2 x0), (2, Value.int x2), (3, Value.int x3), (4, Value.int x4), (5, Value.int x5), (6, Value.int x6), (7, Value.int x7), (8, Value.int x8)] [] sh h 0 0) (hL144 : ∀ (x0 : Nat) (x2 : Int32) (x3 : Int32) (x4 : Int32) (x5 : Int32) (x7 : Int32) (h : Hp), L144 x0 x2 x3 x4 x5 x7 h → G w E 9 144 [(0, rv w.2.2.2 x0), (2, Value.int x2), (3, Value.int x3), (4, Value.int x4), (5, Value.int x5), (7, Value.int x7)] [] sh h 0 0) (hV : V_X12_findSteps_58 w sh x0 x2 x3 x4 x5 x6 x7 x8 h L17 L36 L58 L144 RET) : G w E 9 58 [(0, rv w.2.2.2 x0), (2, Value.int x2), (3, Value.int x3), (4, Value.int x4), (5, Value.int x5), (6, Value.int x6), (7, Value.int x7), (8, Value.int x8)] [] sh h 0 0 := by
  unfold V_X12_findSteps_58 at hV
  refine g_iload_n (pc := 58) X 1 rfl rfl dX12_findSteps_58 ?_
  refine g_iload (pc := 59) X 7 rfl dX12_findSteps_59 ?_
  refine g_iadd (pc := 61) X dX12_findSteps_61 ?_
  refine g_iload_n (pc := 62) X 2 rfl rfl dX12_findSteps_62 ?_
  refine g_icmp_ge (pc := 63) X 94 dX12_findSteps_63 (by decide) (fun c1 => ?_) (fun c1 => ?_)
  · have hV := hV.1 c1
    exact W_X12_findSteps_94 X Tt hR hL17 hL36 hL58 hL144 hV
  · have hV := hV.2 c1
    refine g_aload_n (pc := 66) X 0 rfl rfl dX12_findSteps_66 ?_
    obtain ⟨q2, hV⟩ := hV
    refine g_getR (pc := 67) X fl_X12_107 q2 dX12_findSteps_67 ?_
    refine g_iload (pc := 70) X 6 rfl dX12_findSteps_70 ?_
    refine g_iload (pc := 72) X 7 rfl dX12_findSteps_72 ?_
    refine g_iadd (pc := 74) X dX12_findSteps_74 ?_
    obtain ⟨n4, q3, hV⟩ := hV
    obtain ⟨q5, hV⟩ := hV
    refine g_bald (pc := 75) X q3 q5 dX12_findSteps_75 ?_
    refine g_aload_n (pc := 76) X 0 rfl rfl dX12_findSteps_76 ?_
    refine g_getR (pc := 77) X fl_X12_107 q2 dX12_findSteps_77 ?_
    refine g_iload_n (pc := 80) X 1 rfl rfl dX12_findSteps_80 ?_
    refine g_iload (pc := 81) X 7 rfl dX12_findSteps_81 ?_
    refine g_iadd (pc := 83) X dX12_findSteps_83 ?_
    obtain ⟨q6, hV⟩ := hV
    refine g_bald (pc := 84) X q3 q6 dX12_findSteps_84 ?_
    refine g_icmp_ne (pc := 85) X 94 dX12_findSteps_85 (by decide) (fun c7 => ?_) (fun c7 => ?_)
    · have hV := hV.1 c7
      exact W_X12_findSteps_94 X Tt hR hL17 hL36 hL58 hL144 hV
    · have hV := hV.2 c7
      refine g_iinc (pc := 88) X 7 (v := (1 : Int32)) (rest := [(0, rv w.2.2.2 x0), (2, Value.int x2), (3, Value.int x3), (4, Value.int x4), (5, Value.int x5), (6, Value.int x6), (7, Value.int x7)]) rfl (by decide) rfl (by decide) dX12_findSteps_88 (fun y8 e9 => ?_)
      have hV := hV y8 e9
      refine g_goto (pc := 91) X 58 dX12_findSteps_91 (by decide) ?_
      refine g_lv [1, 2, 3, 4, 5, 6, 7, 0] rfl ?_
      exact hL58 x0 x2 x3 x4 x5 x6 x7 y8 h hV
def V_X12_findSteps_36 (w : Wd) (sh : List Sh) (x0 : Nat) (x2 : Int32) (x3 : Int32) (x4 : Int32) (x5 : Int32) (x6 : Int32) (x7 : Int32) (h : Hp) (L17 : Nat → Int32 → Int32 → Hp → Prop) (L36 : Nat → Int32 → Int32 → Int32 → Int32 → Int32 → Int32 → Hp → Prop) (L58 : Nat → Int32 → Int32 → Int32 → Int32 → Int32 → Int32 → Int32 → Hp → Prop) (L144 : Nat → Int32 → Int32 → Int32 → Int32 → Int32 → Hp → Prop) (RET : Hp → Prop) : Prop :=
  ((x7 < 0) → (V_X12_findSteps_141 w sh x0 x2 x3 x4 x5 h L17 L36 L58 L144 RET)) ∧ ((¬ x7 < 0) → ((((16 : Int32) ≤ x6) → (V_X12_findSteps_141 w sh x0 x2 x3 x4 x5 h L17 L36 L58 L144 RET)) ∧ ((¬ (16 : Int32) ≤ x6) → (((x3 < (x2 + (4 : Int32))) → (V_X12_findSteps_141 w sh x0 x2 x3 x4 x5 h L17 L36 L58 L144 RET)) ∧ ((¬ x3 < (x2 + (4 : Int32))) → (∀ y4 : Int32, y4 = (0 : Int32) → (L58 x0 x2 x3 x4 x5 x6 x7 y4 h)))))))
set_option maxRecDepth 20000 in
set_option maxHeartbeats 4000000 in
theorem W_X12_findSteps_36 {w : Wd} {E : GE} {sh : List Sh} {x0 : Nat} {x2 : Int32} {x3 : Int32} {x4 : Int32} {x5 : Int32} {x6 : Int32} {x7 : Int32} {h : Hp} {L17 : Nat → Int32 → Int32 → Hp → Prop} {L36 : Nat → Int32 → Int32 → Int32 → Int32 → Int32 → Int32 → Hp → Prop} {L58 : Nat → Int32 → Int32 → Int32 → Int32 → Int32 → Int32 → Int32 → Hp → Prop} {L144 : Nat → Int32 → Int32 → Int32 → Int32 → Int32 → Hp → Prop} {RET : Hp → Prop} (X : Cx w E cX12_findSteps 9 RX12) (Tt : Rt w E none sh.length 0 0 (fun q sh9 h9 => q = none ∧ sh9 = sh ∧ RET h9)) (hR : gR E = { frames := 1, cells := 0, slots := 0, locals := 23 }) (hL17 : ∀ (x0 : Nat) (x2 : Int32) (x3 : Int32) (h : Hp), L17 x0 x2 x3 h → G w E 9 17 [(0, rv w.2.2.2 x0), (2, Value.int x2), (3, Value.int x3)] [] sh h 0 0) (hL36 : ∀ (x0 : Nat) (x2 : Int32) (x3 : Int32) (x4 : Int32) (x5 : Int32) (x6 : Int32) (x7 : Int32) (h : Hp), L36 x0 x2 x3 x4 x5 x6 x7 h → G w E 9 36 [(0, rv w.2.2.2 x0), (2, Value.int x2), (3, Value.int x3), (4, Value.int x4), (5, Value.int x5), (6, Value.int x6), (7, Value.int x7)] [] sh h 0 0) (hL58 : ∀ (x0 : Nat) (x2 : Int32) (x3 : Int32) (x4 : Int32) (x5 : Int32) (x6 : Int32) (x7 : Int32) (x8 : Int32) (h : Hp), L58 x0 x2 x3 x4 x5 x6 x7 x8 h → G w E 9 58 [(0, rv w.2.2.2 x0), (2, Value.int x2), (3, Value.int x3), (4, Value.int x4), (5, Value.int x5), (6, Value.int x6), (7, Value.int x7), (8, Value.int x8)] [] sh h 0 0) (hL144 : ∀ (x0 : Nat) (x2 : Int32) (x3 : Int32) (x4 : Int32) (x5 : Int32) (x7 : Int32) (h : Hp), L144 x0 x2 x3 x4 x5 x7 h → G w E 9 144 [(0, rv w.2.2.2 x0), (2, Value.int x2), (3, Value.int x3), (4, Value.int x4), (5, Value.int x5), (7, Value.int x7)] [] sh h 0 0) (hV : V_X12_findSteps_36 w sh x0 x2 x3 x4 x5 x6 x7 h L17 L36 L58 L144 RET) : G w E 9 36 [(0, rv w.2.2.2 x0), (2, Value.int x2), (3, Value.int x3), (4, Value.int x4), (5, Value.int x5), (6, Value.int x6), (7, Value.int x7)] [] sh h 0 0 := by
  unfold V_X12_findSteps_36 at hV
  refine g_iload (pc := 36) X 6 rfl dX12_findSteps_36 ?_
  refine g_if_lt (pc := 38) X 141 dX12_findSteps_38 (by decide) (fun c1 => ?_) (fun c1 => ?_)
  · have hV := hV.1 c1
    refine g_lv [0, 1, 2, 3, 4] rfl ?_
    exact W_X12_findSteps_141 X Tt hR hL17 hL36 hL58 hL144 hV
  · have hV := hV.2 c1
    refine g_iload (pc := 41) X 5 rfl dX12_findSteps_41 ?_
    refine g_bipush (pc := 43) (v := (16 : Int32)) X dX12_findSteps_43 (by decide) ?_
    refine g_icmp_ge (pc := 45) X 141 dX12_findSteps_45 (by decide) (fun c2 => ?_) (fun c2 => ?_)
    · have hV := hV.1 c2
      refine g_lv [0, 1, 2, 3, 4] rfl ?_
      exact W_X12_findSteps_141 X Tt hR hL17 hL36 hL58 hL144 hV
    · have hV := hV.2 c2
      refine g_iload_n (pc := 48) X 1 rfl rfl dX12_findSteps_48 ?_
      refine g_iconst (pc := 49) (v := (4 : Int32)) X dX12_findSteps_49 (by decide) ?_
      refine g_iadd (pc := 50) X dX12_findSteps_50 ?_
      refine g_iload_n (pc := 51) X 2 rfl rfl dX12_findSteps_51 ?_
      refine g_icmp_gt (pc := 52) X 141 dX12_findSteps_52 (by decide) (fun c3 => ?_) (fun c3 => ?_)
      · have hV := hV.1 c3
        refine g_lv [0, 1, 2, 3, 4] rfl ?_
        exact W_X12_findSteps_141 X Tt hR hL17 hL36 hL58 hL144 hV
      · have hV := hV.2 c3
        refine g_iconst (pc := 55) (v := (0 : Int32)) X dX12_findSteps_55 (by decide) ?_
        refine g_istore (pc := 56) X (i := 8) (rest := [(0, rv w.2.2.2 x0), (2, Value.int x2), (3, Value.int x3), (4, Value.int x4), (5, Value.int x5), (6, Value.int x6), (7, Value.int x7)]) (by decide) rfl dX12_findSteps_56 (fun y4 e5 => ?_)
        have hV := hV y4 e5
        refine g_lv [1, 2, 3, 4, 5, 6, 7, 0] rfl ?_
        exact hL58 x0 x2 x3 x4 x5 x6 x7 y4 h hV
def V_X12_findSteps_17 (w : Wd) (sh : List Sh) (x0 : Nat) (x2 : Int32) (x3 : Int32) (h : Hp) (L17 : Nat → Int32 → Int32 → Hp → Prop) (L36 : Nat → Int32 → Int32 → Int32 → Int32 → Int32 → Int32 → Hp → Prop) (L58 : Nat → Int32 → Int32 → Int32 → Int32 → Int32 → Int32 → Int32 → Hp → Prop) (L144 : Nat → Int32 → Int32 → Int32 → Int32 → Int32 → Hp → Prop) (RET : Hp → Prop) : Prop :=
  ((x3 ≤ x2) → (RET h)) ∧ ((¬ x3 ≤ x2) → (∀ y2 : Int32, y2 = (-1 : Int32) → (∀ y4 : Int32, y4 = (0 : Int32) → (∀ y6 : Int32, y6 = (0 : Int32) → (∀ y8 : Int32, y8 = (x2 - (1 : Int32)) → (L36 x0 x2 x3 y2 y4 y6 y8 h))))))
set_option maxRecDepth 20000 in
set_option maxHeartbeats 4000000 in
theorem W_X12_findSteps_17 {w : Wd} {E : GE} {sh : List Sh} {x0 : Nat} {x2 : Int32} {x3 : Int32} {h : Hp} {L17 : Nat → Int32 → Int32 → Hp → Prop} {L36 : Nat → Int32 → Int32 → Int32 → Int32 → Int32 → Int32 → Hp → Prop} {L58 : Nat → Int32 → Int32 → Int32 → Int32 → Int32 → Int32 → Int32 → Hp → Prop} {L144 : Nat → Int32 → Int32 → Int32 → Int32 → Int32 → Hp → Prop} {RET : Hp → Prop} (X : Cx w E cX12_findSteps 9 RX12) (Tt : Rt w E none sh.length 0 0 (fun q sh9 h9 => q = none ∧ sh9 = sh ∧ RET h9)) (hR : gR E = { frames := 1, cells := 0, slots := 0, locals := 23 }) (hL17 : ∀ (x0 : Nat) (x2 : Int32) (x3 : Int32) (h : Hp), L17 x0 x2 x3 h → G w E 9 17 [(0, rv w.2.2.2 x0), (2, Value.int x2), (3, Value.int x3)] [] sh h 0 0) (hL36 : ∀ (x0 : Nat) (x2 : Int32) (x3 : Int32) (x4 : Int32) (x5 : Int32) (x6 : Int32) (x7 : Int32) (h : Hp), L36 x0 x2 x3 x4 x5 x6 x7 h → G w E 9 36 [(0, rv w.2.2.2 x0), (2, Value.int x2), (3, Value.int x3), (4, Value.int x4), (5, Value.int x5), (6, Value.int x6), (7, Value.int x7)] [] sh h 0 0) (hL58 : ∀ (x0 : Nat) (x2 : Int32) (x3 : Int32) (x4 : Int32) (x5 : Int32) (x6 : Int32) (x7 : Int32) (x8 : Int32) (h : Hp), L58 x0 x2 x3 x4 x5 x6 x7 x8 h → G w E 9 58 [(0, rv w.2.2.2 x0), (2, Value.int x2), (3, Value.int x3), (4, Value.int x4), (5, Value.int x5), (6, Value.int x6), (7, Value.int x7), (8, Value.int x8)] [] sh h 0 0) (hL144 : ∀ (x0 : Nat) (x2 : Int32) (x3 : Int32) (x4 : Int32) (x5 : Int32) (x7 : Int32) (h : Hp), L144 x0 x2 x3 x4 x5 x7 h → G w E 9 144 [(0, rv w.2.2.2 x0), (2, Value.int x2), (3, Value.int x3), (4, Value.int x4), (5, Value.int x5), (7, Value.int x7)] [] sh h 0 0) (hV : V_X12_findSteps_17 w sh x0 x2 x3 h L17 L36 L58 L144 RET) : G w E 9 17 [(0, rv w.2.2.2 x0), (2, Value.int x2), (3, Value.int x3)] [] sh h 0 0 := by
  unfold V_X12_findSteps_17 at hV
  refine g_iload_n (pc := 17) X 1 rfl rfl dX12_findSteps_17 ?_
  refine g_iload_n (pc := 18) X 2 rfl rfl dX12_findSteps_18 ?_
  refine g_icmp_ge (pc := 19) X 291 dX12_findSteps_19 (by decide) (fun c1 => ?_) (fun c1 => ?_)
  · have hV := hV.1 c1
    exact g_vret (pc := 291) X Tt ⟨rfl, rfl, hV⟩ dX12_findSteps_291
  · have hV := hV.2 c1
    refine g_iconst (pc := 22) (v := (-1 : Int32)) X dX12_findSteps_22 (by decide) ?_
    refine g_istore (pc := 23) X (i := 4) (rest := [(0, rv w.2.2.2 x0), (2, Value.int x2), (3, Value.int x3)]) (by decide) rfl dX12_findSteps_23 (fun y2 e3 => ?_)
    have hV := hV y2 e3
    refine g_iconst (pc := 25) (v := (0 : Int32)) X dX12_findSteps_25 (by decide) ?_
    refine g_istore (pc := 26) X (i := 5) (rest := [(4, Value.int y2), (0, rv w.2.2.2 x0), (2, Value.int x2), (3, Value.int x3)]) (by decide) rfl dX12_findSteps_26 (fun y4 e5 => ?_)
    have hV := hV y4 e5
    refine g_iconst (pc := 28) (v := (0 : Int32)) X dX12_findSteps_28 (by decide) ?_
    refine g_istore (pc := 29) X (i := 6) (rest := [(5, Value.int y4), (4, Value.int y2), (0, rv w.2.2.2 x0), (2, Value.int x2), (3, Value.int x3)]) (by decide) rfl dX12_findSteps_29 (fun y6 e7 => ?_)
    have hV := hV y6 e7
    refine g_iload_n (pc := 31) X 4 rfl rfl dX12_findSteps_31 ?_
    refine g_iconst (pc := 32) (v := (1 : Int32)) X dX12_findSteps_32 (by decide) ?_
    refine g_isub (pc := 33) X dX12_findSteps_33 ?_
    refine g_istore (pc := 34) X (i := 7) (rest := [(6, Value.int y6), (5, Value.int y4), (4, Value.int y2), (0, rv w.2.2.2 x0), (2, Value.int x2), (3, Value.int x3)]) (by decide) rfl dX12_findSteps_34 (fun y8 e9 => ?_)
    have hV := hV y8 e9
    refine g_lv [4, 5, 6, 3, 2, 1, 0] rfl ?_
    exact hL36 x0 x2 x3 y2 y4 y6 y8 h hV
def V_X12_findSteps_0 (w : Wd) (sh : List Sh) (x0 : Nat) (x1 : Int32) (h : Hp) (L17 : Nat → Int32 → Int32 → Hp → Prop) (L36 : Nat → Int32 → Int32 → Int32 → Int32 → Int32 → Int32 → Hp → Prop) (L58 : Nat → Int32 → Int32 → Int32 → Int32 → Int32 → Int32 → Int32 → Hp → Prop) (L144 : Nat → Int32 → Int32 → Int32 → Int32 → Int32 → Hp → Prop) (RET : Hp → Prop) : Prop :=
  shAt sh x0 = some (.inr 12) ∧ (∀ h2 : Hp, h2 = wI h x0 51 (0 : Int32) → (∀ y4 : Int32, y4 = (h2.1 x0 59) → (∀ y6 : Int32, y6 = ((h2.1 x0 59) + x1) → (L17 x0 y4 y6 h2))))
set_option maxRecDepth 20000 in
set_option maxHeartbeats 4000000 in
theorem W_X12_findSteps_0 {w : Wd} {E : GE} {sh : List Sh} {x0 : Nat} {x1 : Int32} {h : Hp} {L17 : Nat → Int32 → Int32 → Hp → Prop} {L36 : Nat → Int32 → Int32 → Int32 → Int32 → Int32 → Int32 → Hp → Prop} {L58 : Nat → Int32 → Int32 → Int32 → Int32 → Int32 → Int32 → Int32 → Hp → Prop} {L144 : Nat → Int32 → Int32 → Int32 → Int32 → Int32 → Hp → Prop} {RET : Hp → Prop} (X : Cx w E cX12_findSteps 9 RX12) (Tt : Rt w E none sh.length 0 0 (fun q sh9 h9 => q = none ∧ sh9 = sh ∧ RET h9)) (hR : gR E = { frames := 1, cells := 0, slots := 0, locals := 23 }) (hL17 : ∀ (x0 : Nat) (x2 : Int32) (x3 : Int32) (h : Hp), L17 x0 x2 x3 h → G w E 9 17 [(0, rv w.2.2.2 x0), (2, Value.int x2), (3, Value.int x3)] [] sh h 0 0) (hL36 : ∀ (x0 : Nat) (x2 : Int32) (x3 : Int32) (x4 : Int32) (x5 : Int32) (x6 : Int32) (x7 : Int32) (h : Hp), L36 x0 x2 x3 x4 x5 x6 x7 h → G w E 9 36 [(0, rv w.2.2.2 x0), (2, Value.int x2), (3, Value.int x3), (4, Value.int x4), (5, Value.int x5), (6, Value.int x6), (7, Value.int x7)] [] sh h 0 0) (hL58 : ∀ (x0 : Nat) (x2 : Int32) (x3 : Int32) (x4 : Int32) (x5 : Int32) (x6 : Int32) (x7 : Int32) (x8 : Int32) (h : Hp), L58 x0 x2 x3 x4 x5 x6 x7 x8 h → G w E 9 58 [(0, rv w.2.2.2 x0), (2, Value.int x2), (3, Value.int x3), (4, Value.int x4), (5, Value.int x5), (6, Value.int x6), (7, Value.int x7), (8, Value.int x8)] [] sh h 0 0) (hL144 : ∀ (x0 : Nat) (x2 : Int32) (x3 : Int32) (x4 : Int32) (x5 : Int32) (x7 : Int32) (h : Hp), L144 x0 x2 x3 x4 x5 x7 h → G w E 9 144 [(0, rv w.2.2.2 x0), (2, Value.int x2), (3, Value.int x3), (4, Value.int x4), (5, Value.int x5), (7, Value.int x7)] [] sh h 0 0) (hV : V_X12_findSteps_0 w sh x0 x1 h L17 L36 L58 L144 RET) : G w E 9 0 [(0, rv w.2.2.2 x0), (1, Value.int x1)] [] sh h 0 0 := by
  unfold V_X12_findSteps_0 at hV
  refine g_aload_n (pc := 0) X 0 rfl rfl dX12_findSteps_0 ?_
  refine g_iconst (pc := 1) (v := (0 : Int32)) X dX12_findSteps_1 (by decide) ?_
  obtain ⟨q1, hV⟩ := hV
  refine g_putI (pc := 2) X fl_X12_314 q1 rfl rfl dX12_findSteps_2 (fun h2 e3 => ?_)
  have hV := hV h2 e3
  refine g_aload_n (pc := 5) X 0 rfl rfl dX12_findSteps_5 ?_
  refine g_getI (pc := 6) X fl_X12_293 q1 dX12_findSteps_6 ?_
  refine g_istore_n (pc := 9) X (i := 2) (rest := [(0, rv w.2.2.2 x0), (1, Value.int x1)]) rfl (by decide) rfl dX12_findSteps_9 (fun y4 e5 => ?_)
  have hV := hV y4 e5
  refine g_aload_n (pc := 10) X 1 rfl rfl dX12_findSteps_10 ?_
  refine g_getI (pc := 11) X fl_X12_293 q1 dX12_findSteps_11 ?_
  refine g_iload_n (pc := 14) X 2 rfl rfl dX12_findSteps_14 ?_
  refine g_iadd (pc := 15) X dX12_findSteps_15 ?_
  refine g_istore_n (pc := 16) X (i := 3) (rest := [(2, Value.int y4), (0, rv w.2.2.2 x0), (1, Value.int x1)]) rfl (by decide) rfl dX12_findSteps_16 (fun y6 e7 => ?_)
  have hV := hV y6 e7
  refine g_lv [2, 1, 0] rfl ?_
  exact hL17 x0 y4 y6 h2 hV
def C_X12_findSteps (w : Wd) (sh : List Sh) (x0 : Nat) (x1 : Int32) (h : Hp) (RET : Hp → Prop) : Prop := CV w yX12_findSteps (.code yX12_findSteps cX12_findSteps 9 none) 1 23 [rv w.2.2.2 x0, Value.int x1] sh h RET
set_option maxRecDepth 20000 in
theorem K_X12_findSteps {w : Wd} {sh : List Sh} {x0 : Nat} {x1 : Int32} {h : Hp} {RET : Hp → Prop} {α : Type} {r : α → α → Prop} (wf : WellFounded r) (I17 : α → Nat → Int32 → Int32 → Hp → Prop) (I36 : α → Nat → Int32 → Int32 → Int32 → Int32 → Int32 → Int32 → Hp → Prop) (I58 : α → Nat → Int32 → Int32 → Int32 → Int32 → Int32 → Int32 → Int32 → Hp → Prop) (I144 : α → Nat → Int32 → Int32 → Int32 → Int32 → Int32 → Hp → Prop) (hE : V_X12_findSteps_0 w sh x0 x1 h (fun x0 x2 x3 h => ∃ a, I17 a x0 x2 x3 h) (fun x0 x2 x3 x4 x5 x6 x7 h => ∃ a, I36 a x0 x2 x3 x4 x5 x6 x7 h) (fun x0 x2 x3 x4 x5 x6 x7 x8 h => ∃ a, I58 a x0 x2 x3 x4 x5 x6 x7 x8 h) (fun x0 x2 x3 x4 x5 x7 h => ∃ a, I144 a x0 x2 x3 x4 x5 x7 h) RET) (h17 : ∀ (b : α) (x0 : Nat) (x2 : Int32) (x3 : Int32) (h : Hp), I17 b x0 x2 x3 h → V_X12_findSteps_17 w sh x0 x2 x3 h (fun x0 x2 x3 h => ∃ a, r a b ∧ I17 a x0 x2 x3 h) (fun x0 x2 x3 x4 x5 x6 x7 h => ∃ a, r a b ∧ I36 a x0 x2 x3 x4 x5 x6 x7 h) (fun x0 x2 x3 x4 x5 x6 x7 x8 h => ∃ a, r a b ∧ I58 a x0 x2 x3 x4 x5 x6 x7 x8 h) (fun x0 x2 x3 x4 x5 x7 h => ∃ a, r a b ∧ I144 a x0 x2 x3 x4 x5 x7 h) RET) (h36 : ∀ (b : α) (x0 : Nat) (x2 : Int32) (x3 : Int32) (x4 : Int32) (x5 : Int32) (x6 : Int32) (x7 : Int32) (h : Hp), I36 b x0 x2 x3 x4 x5 x6 x7 h → V_X12_findSteps_36 w sh x0 x2 x3 x4 x5 x6 x7 h (fun x0 x2 x3 h => ∃ a, r a b ∧ I17 a x0 x2 x3 h) (fun x0 x2 x3 x4 x5 x6 x7 h => ∃ a, r a b ∧ I36 a x0 x2 x3 x4 x5 x6 x7 h) (fun x0 x2 x3 x4 x5 x6 x7 x8 h => ∃ a, r a b ∧ I58 a x0 x2 x3 x4 x5 x6 x7 x8 h) (fun x0 x2 x3 x4 x5 x7 h => ∃ a, r a b ∧ I144 a x0 x2 x3 x4 x5 x7 h) RET) (h58 : ∀ (b : α) (x0 : Nat) (x2 : Int32) (x3 : Int32) (x4 : Int32) (x5 : Int32) (x6 : Int32) (x7 : Int32) (x8 : Int32) (h : Hp), I58 b x0 x2 x3 x4 x5 x6 x7 x8 h → V_X12_findSteps_58 w sh x0 x2 x3 x4 x5 x6 x7 x8 h (fun x0 x2 x3 h => ∃ a, r a b ∧ I17 a x0 x2 x3 h) (fun x0 x2 x3 x4 x5 x6 x7 h => ∃ a, r a b ∧ I36 a x0 x2 x3 x4 x5 x6 x7 h) (fun x0 x2 x3 x4 x5 x6 x7 x8 h => ∃ a, r a b ∧ I58 a x0 x2 x3 x4 x5 x6 x7 x8 h) (fun x0 x2 x3 x4 x5 x7 h => ∃ a, r a b ∧ I144 a x0 x2 x3 x4 x5 x7 h) RET) (h144 : ∀ (b : α) (x0 : Nat) (x2 : Int32) (x3 : Int32) (x4 : Int32) (x5 : Int32) (x7 : Int32) (h : Hp), I144 b x0 x2 x3 x4 x5 x7 h → V_X12_findSteps_144 w sh x0 x2 x3 x4 x5 x7 h (fun x0 x2 x3 h => ∃ a, r a b ∧ I17 a x0 x2 x3 h) (fun x0 x2 x3 x4 x5 x6 x7 h => ∃ a, r a b ∧ I36 a x0 x2 x3 x4 x5 x6 x7 h) (fun x0 x2 x3 x4 x5 x6 x7 x8 h => ∃ a, r a b ∧ I58 a x0 x2 x3 x4 x5 x6 x7 x8 h) (fun x0 x2 x3 x4 x5 x7 h => ∃ a, r a b ∧ I144 a x0 x2 x3 x4 x5 x7 h) RET) : C_X12_findSteps w sh x0 x1 h RET :=
  Ct_of (by decide +kernel) (by simp [lg_sl, rv_cat, cat_int, cat_long]) (fun E X Tt hR _ => by
    have key : ∀ a : α, (∀ (x0 : Nat) (x2 : Int32) (x3 : Int32) (h : Hp), I17 a x0 x2 x3 h → G w E 9 17 [(0, rv w.2.2.2 x0), (2, Value.int x2), (3, Value.int x3)] [] sh h 0 0) ∧ (∀ (x0 : Nat) (x2 : Int32) (x3 : Int32) (x4 : Int32) (x5 : Int32) (x6 : Int32) (x7 : Int32) (h : Hp), I36 a x0 x2 x3 x4 x5 x6 x7 h → G w E 9 36 [(0, rv w.2.2.2 x0), (2, Value.int x2), (3, Value.int x3), (4, Value.int x4), (5, Value.int x5), (6, Value.int x6), (7, Value.int x7)] [] sh h 0 0) ∧ (∀ (x0 : Nat) (x2 : Int32) (x3 : Int32) (x4 : Int32) (x5 : Int32) (x6 : Int32) (x7 : Int32) (x8 : Int32) (h : Hp), I58 a x0 x2 x3 x4 x5 x6 x7 x8 h → G w E 9 58 [(0, rv w.2.2.2 x0), (2, Value.int x2), (3, Value.int x3), (4, Value.int x4), (5, Value.int x5), (6, Value.int x6), (7, Value.int x7), (8, Value.int x8)] [] sh h 0 0) ∧ (∀ (x0 : Nat) (x2 : Int32) (x3 : Int32) (x4 : Int32) (x5 : Int32) (x7 : Int32) (h : Hp), I144 a x0 x2 x3 x4 x5 x7 h → G w E 9 144 [(0, rv w.2.2.2 x0), (2, Value.int x2), (3, Value.int x3), (4, Value.int x4), (5, Value.int x5), (7, Value.int x7)] [] sh h 0 0) := by
      intro a
      induction a using wf.induction with
      | _ a ih =>
        exact ⟨(fun x0 x2 x3 h hi => W_X12_findSteps_17 X Tt hR (fun x0 x2 x3 h hx => by obtain ⟨a2, ha, hi⟩ := hx; exact ((ih a2 ha)).1 x0 x2 x3 h hi) (fun x0 x2 x3 x4 x5 x6 x7 h hx => by obtain ⟨a2, ha, hi⟩ := hx; exact (((ih a2 ha)).2).1 x0 x2 x3 x4 x5 x6 x7 h hi) (fun x0 x2 x3 x4 x5 x6 x7 x8 h hx => by obtain ⟨a2, ha, hi⟩ := hx; exact ((((ih a2 ha)).2).2).1 x0 x2 x3 x4 x5 x6 x7 x8 h hi) (fun x0 x2 x3 x4 x5 x7 h hx => by obtain ⟨a2, ha, hi⟩ := hx; exact ((((ih a2 ha)).2).2).2 x0 x2 x3 x4 x5 x7 h hi) (h17 a x0 x2 x3 h hi)), (fun x0 x2 x3 x4 x5 x6 x7 h hi => W_X12_findSteps_36 X Tt hR (fun x0 x2 x3 h hx => by obtain ⟨a2, ha, hi⟩ := hx; exact ((ih a2 ha)).1 x0 x2 x3 h hi) (fun x0 x2 x3 x4 x5 x6 x7 h hx => by obtain ⟨a2, ha, hi⟩ := hx; exact (((ih a2 ha)).2).1 x0 x2 x3 x4 x5 x6 x7 h hi) (fun x0 x2 x3 x4 x5 x6 x7 x8 h hx => by obtain ⟨a2, ha, hi⟩ := hx; exact ((((ih a2 ha)).2).2).1 x0 x2 x3 x4 x5 x6 x7 x8 h hi) (fun x0 x2 x3 x4 x5 x7 h hx => by obtain ⟨a2, ha, hi⟩ := hx; exact ((((ih a2 ha)).2).2).2 x0 x2 x3 x4 x5 x7 h hi) (h36 a x0 x2 x3 x4 x5 x6 x7 h hi)), (fun x0 x2 x3 x4 x5 x6 x7 x8 h hi => W_X12_findSteps_58 X Tt hR (fun x0 x2 x3 h hx => by obtain ⟨a2, ha, hi⟩ := hx; exact ((ih a2 ha)).1 x0 x2 x3 h hi) (fun x0 x2 x3 x4 x5 x6 x7 h hx => by obtain ⟨a2, ha, hi⟩ := hx; exact (((ih a2 ha)).2).1 x0 x2 x3 x4 x5 x6 x7 h hi) (fun x0 x2 x3 x4 x5 x6 x7 x8 h hx => by obtain ⟨a2, ha, hi⟩ := hx; exact ((((ih a2 ha)).2).2).1 x0 x2 x3 x4 x5 x6 x7 x8 h hi) (fun x0 x2 x3 x4 x5 x7 h hx => by obtain ⟨a2, ha, hi⟩ := hx; exact ((((ih a2 ha)).2).2).2 x0 x2 x3 x4 x5 x7 h hi) (h58 a x0 x2 x3 x4 x5 x6 x7 x8 h hi)), (fun x0 x2 x3 x4 x5 x7 h hi => W_X12_findSteps_144 X Tt hR (fun x0 x2 x3 h hx => by obtain ⟨a2, ha, hi⟩ := hx; exact ((ih a2 ha)).1 x0 x2 x3 h hi) (fun x0 x2 x3 x4 x5 x6 x7 h hx => by obtain ⟨a2, ha, hi⟩ := hx; exact (((ih a2 ha)).2).1 x0 x2 x3 x4 x5 x6 x7 h hi) (fun x0 x2 x3 x4 x5 x6 x7 x8 h hx => by obtain ⟨a2, ha, hi⟩ := hx; exact ((((ih a2 ha)).2).2).1 x0 x2 x3 x4 x5 x6 x7 x8 h hi) (fun x0 x2 x3 x4 x5 x7 h hx => by obtain ⟨a2, ha, hi⟩ := hx; exact ((((ih a2 ha)).2).2).2 x0 x2 x3 x4 x5 x7 h hi) (h144 a x0 x2 x3 x4 x5 x7 h hi))⟩
    rw [show lv_args 0 [rv w.2.2.2 x0, Value.int x1] = [(0, rv w.2.2.2 x0), (1, Value.int x1)] from by simp [lv_args, rv_cat, cat_int, cat_long]]
    refine g_lv [0, 1] rfl ?_
    exact W_X12_findSteps_0 X Tt hR (fun x0 x2 x3 h hx => by obtain ⟨a2, hi⟩ := hx; exact ((key a2)).1 x0 x2 x3 h hi) (fun x0 x2 x3 x4 x5 x6 x7 h hx => by obtain ⟨a2, hi⟩ := hx; exact (((key a2)).2).1 x0 x2 x3 x4 x5 x6 x7 h hi) (fun x0 x2 x3 x4 x5 x6 x7 x8 h hx => by obtain ⟨a2, hi⟩ := hx; exact ((((key a2)).2).2).1 x0 x2 x3 x4 x5 x6 x7 x8 h hi) (fun x0 x2 x3 x4 x5 x7 h hx => by obtain ⟨a2, hi⟩ := hx; exact ((((key a2)).2).2).2 x0 x2 x3 x4 x5 x7 h hi) hE)
def V_X12_addAddress_0 (w : Wd) (sh : List Sh) (x0 : Nat) (x1 : Int32) (h : Hp)  (RET : Hp → Prop) : Prop :=
  shAt sh x0 = some (.inr 12) ∧ (∃ n3 : Nat, shAt sh (h.2.1 x0 47) = some (.inl (0, n3)) ∧ (vp_in ((20000 : Int32) + (h.1 x0 50)) n3 ∧ (∀ h5 : Hp, h5 = wI h (h.2.1 x0 47) ((20000 : Int32) + (h.1 x0 50)).toNatClampNeg (b8 x1) → (∀ h7 : Hp, h7 = wI h5 x0 50 ((h5.1 x0 50) + (1 : Int32)) → (RET h7)))))
set_option maxRecDepth 20000 in
set_option maxHeartbeats 4000000 in
theorem W_X12_addAddress_0 {w : Wd} {E : GE} {sh : List Sh} {x0 : Nat} {x1 : Int32} {h : Hp}  {RET : Hp → Prop} (X : Cx w E cX12_addAddress 2 RX12) (Tt : Rt w E none sh.length 0 0 (fun q sh9 h9 => q = none ∧ sh9 = sh ∧ RET h9)) (hR : gR E = { frames := 0, cells := 0, slots := 0, locals := 0 }) (hV : V_X12_addAddress_0 w sh x0 x1 h RET) : G w E 2 0 [(0, rv w.2.2.2 x0), (1, Value.int x1)] [] sh h 0 0 := by
  unfold V_X12_addAddress_0 at hV
  refine g_aload_n (pc := 0) X 0 rfl rfl dX12_addAddress_0 ?_
  obtain ⟨q1, hV⟩ := hV
  refine g_getR (pc := 1) X fl_X12_86 q1 dX12_addAddress_1 ?_
  refine g_sipush (pc := 4) (v := (20000 : Int32)) X dX12_addAddress_4 (by decide) ?_
  refine g_aload_n (pc := 7) X 0 rfl rfl dX12_addAddress_7 ?_
  refine g_getI (pc := 8) X fl_X12_311 q1 dX12_addAddress_8 ?_
  refine g_iadd (pc := 11) X dX12_addAddress_11 ?_
  refine g_iload_n (pc := 12) X 1 rfl rfl dX12_addAddress_12 ?_
  refine g_i2b (pc := 13) X dX12_addAddress_13 ?_
  obtain ⟨n3, q2, hV⟩ := hV
  obtain ⟨q4, hV⟩ := hV
  refine g_bast (pc := 14) X q2 q4 dX12_addAddress_14 (fun h5 e6 => ?_)
  have hV := hV h5 e6
  refine g_aload_n (pc := 15) X 0 rfl rfl dX12_addAddress_15 ?_
  refine g_dup (pc := 16) X dX12_addAddress_16 (rv_cat _ _) ?_
  refine g_getI (pc := 17) X fl_X12_311 q1 dX12_addAddress_17 ?_
  refine g_iconst (pc := 20) (v := (1 : Int32)) X dX12_addAddress_20 (by decide) ?_
  refine g_iadd (pc := 21) X dX12_addAddress_21 ?_
  refine g_putI (pc := 22) X fl_X12_311 q1 rfl rfl dX12_addAddress_22 (fun h7 e8 => ?_)
  have hV := hV h7 e8
  exact g_vret (pc := 25) X Tt ⟨rfl, rfl, hV⟩ dX12_addAddress_25
def C_X12_addAddress (w : Wd) (sh : List Sh) (x0 : Nat) (x1 : Int32) (h : Hp) (RET : Hp → Prop) : Prop := CV w yX12_addAddress (.code yX12_addAddress cX12_addAddress 2 none) 0 0 [rv w.2.2.2 x0, Value.int x1] sh h RET
theorem K_X12_addAddress {w : Wd} {sh : List Sh} {x0 : Nat} {x1 : Int32} {h : Hp} {RET : Hp → Prop} (hV : V_X12_addAddress_0 w sh x0 x1 h RET) : C_X12_addAddress w sh x0 x1 h RET :=
  Ct_of (by decide +kernel) (by simp [lg_sl, rv_cat, cat_int, cat_long]) (fun E X Tt hR _ => by
    rw [show lv_args 0 [rv w.2.2.2 x0, Value.int x1] = [(0, rv w.2.2.2 x0), (1, Value.int x1)] from by simp [lv_args, rv_cat, cat_int, cat_long]]
    refine g_lv [0, 1] rfl ?_
    exact W_X12_addAddress_0 X Tt hR hV)
def V_X12_findModes_366 (w : Wd) (sh : List Sh) (x0 : Nat) (x2 : Int32) (x3 : Int32) (x4 : Int32) (x5 : Int32) (x6 : Int32) (h : Hp) (L17 : Nat → Int32 → Int32 → Int32 → Hp → Prop) (L41 : Nat → Int32 → Int32 → Int32 → Hp → Prop) (L80 : Nat → Int32 → Int32 → Int32 → Int32 → Int32 → Hp → Prop) (L127 : Nat → Int32 → Int32 → Int32 → Int32 → Int32 → Int32 → Int32 → Int32 → Int32 → Int32 → Hp → Prop) (L278 : Nat → Int32 → Int32 → Int32 → Int32 → Int32 → Int32 → Int32 → Int32 → Int32 → Hp → Prop) (RET : Hp → Prop) : Prop :=
  shAt sh x0 = some (.inr 12) ∧ (∃ n3 : Nat, shAt sh (h.2.1 x0 53) = some (.inl (1, n3)) ∧ (vp_in x6 n3 ∧ (∀ y5 : Int32, y5 = (x5 + (h.1 (h.2.1 x0 53) x6.toNatClampNeg)) → (∀ y7 : Int32, y7 = x6 + (1 : Int32) → (L80 x0 x2 x3 x4 y5 y7 h)))))
set_option maxRecDepth 20000 in
set_option maxHeartbeats 4000000 in
theorem W_X12_findModes_366 {w : Wd} {E : GE} {sh : List Sh} {x0 : Nat} {x2 : Int32} {x3 : Int32} {x4 : Int32} {x5 : Int32} {x6 : Int32} {h : Hp} {L17 : Nat → Int32 → Int32 → Int32 → Hp → Prop} {L41 : Nat → Int32 → Int32 → Int32 → Hp → Prop} {L80 : Nat → Int32 → Int32 → Int32 → Int32 → Int32 → Hp → Prop} {L127 : Nat → Int32 → Int32 → Int32 → Int32 → Int32 → Int32 → Int32 → Int32 → Int32 → Int32 → Hp → Prop} {L278 : Nat → Int32 → Int32 → Int32 → Int32 → Int32 → Int32 → Int32 → Int32 → Int32 → Hp → Prop} {RET : Hp → Prop} (X : Cx w E cX12_findModes 13 RX12) (Tt : Rt w E none sh.length 0 0 (fun q sh9 h9 => q = none ∧ sh9 = sh ∧ RET h9)) (hR : gR E = { frames := 1, cells := 0, slots := 0, locals := 22 }) (hL17 : ∀ (x0 : Nat) (x2 : Int32) (x3 : Int32) (x4 : Int32) (h : Hp), L17 x0 x2 x3 x4 h → G w E 13 17 [(0, rv w.2.2.2 x0), (2, Value.int x2), (3, Value.int x3), (4, Value.int x4)] [] sh h 0 0) (hL41 : ∀ (x0 : Nat) (x2 : Int32) (x3 : Int32) (x4 : Int32) (h : Hp), L41 x0 x2 x3 x4 h → G w E 13 41 [(0, rv w.2.2.2 x0), (2, Value.int x2), (3, Value.int x3), (4, Value.int x4)] [] sh h 0 0) (hL80 : ∀ (x0 : Nat) (x2 : Int32) (x3 : Int32) (x4 : Int32) (x5 : Int32) (x6 : Int32) (h : Hp), L80 x0 x2 x3 x4 x5 x6 h → G w E 13 80 [(0, rv w.2.2.2 x0), (2, Value.int x2), (3, Value.int x3), (4, Value.int x4), (5, Value.int x5), (6, Value.int x6)] [] sh h 0 0) (hL127 : ∀ (x0 : Nat) (x2 : Int32) (x3 : Int32) (x4 : Int32) (x5 : Int32) (x6 : Int32) (x7 : Int32) (x8 : Int32) (x9 : Int32) (x10 : Int32) (x11 : Int32) (h : Hp), L127 x0 x2 x3 x4 x5 x6 x7 x8 x9 x10 x11 h → G w E 13 127 [(0, rv w.2.2.2 x0), (2, Value.int x2), (3, Value.int x3), (4, Value.int x4), (5, Value.int x5), (6, Value.int x6), (7, Value.int x7), (8, Value.int x8), (9, Value.int x9), (10, Value.int x10), (11, Value.int x11)] [] sh h 0 0) (hL278 : ∀ (x0 : Nat) (x2 : Int32) (x3 : Int32) (x4 : Int32) (x5 : Int32) (x6 : Int32) (x7 : Int32) (x8 : Int32) (x10 : Int32) (x12 : Int32) (h : Hp), L278 x0 x2 x3 x4 x5 x6 x7 x8 x10 x12 h → G w E 13 278 [(0, rv w.2.2.2 x0), (2, Value.int x2), (3, Value.int x3), (4, Value.int x4), (5, Value.int x5), (6, Value.int x6), (7, Value.int x7), (8, Value.int x8), (10, Value.int x10), (12, Value.int x12)] [] sh h 0 0) (hV : V_X12_findModes_366 w sh x0 x2 x3 x4 x5 x6 h L17 L41 L80 L127 L278 RET) : G w E 13 366 [(0, rv w.2.2.2 x0), (2, Value.int x2), (3, Value.int x3), (4, Value.int x4), (5, Value.int x5), (6, Value.int x6)] [] sh h 0 0 := by
  unfold V_X12_findModes_366 at hV
  refine g_iload (pc := 366) X 4 rfl dX12_findModes_366 ?_
  refine g_aload_n (pc := 368) X 0 rfl rfl dX12_findModes_368 ?_
  obtain ⟨q1, hV⟩ := hV
  refine g_getR (pc := 369) X fl_X12_92 q1 dX12_findModes_369 ?_
  refine g_iload (pc := 372) X 5 rfl dX12_findModes_372 ?_
  obtain ⟨n3, q2, hV⟩ := hV
  obtain ⟨q4, hV⟩ := hV
  refine g_iald (pc := 374) X q2 q4 dX12_findModes_374 ?_
  refine g_iadd (pc := 375) X dX12_findModes_375 ?_
  refine g_istore (pc := 376) X (i := 5) (rest := [(0, rv w.2.2.2 x0), (2, Value.int x2), (3, Value.int x3), (4, Value.int x4), (6, Value.int x6)]) (by decide) rfl dX12_findModes_376 (fun y5 e6 => ?_)
  have hV := hV y5 e6
  refine g_iinc (pc := 378) X 5 (v := (1 : Int32)) (rest := [(5, Value.int y5), (0, rv w.2.2.2 x0), (2, Value.int x2), (3, Value.int x3), (4, Value.int x4)]) rfl (by decide) rfl (by decide) dX12_findModes_378 (fun y7 e8 => ?_)
  have hV := hV y7 e8
  refine g_goto (pc := 381) X 80 dX12_findModes_381 (by decide) ?_
  refine g_lv [2, 3, 4, 5, 1, 0] rfl ?_
  exact hL80 x0 x2 x3 x4 y5 y7 h hV
def V_X12_findModes_347 (w : Wd) (sh : List Sh) (x0 : Nat) (x2 : Int32) (x3 : Int32) (x4 : Int32) (x5 : Int32) (x6 : Int32) (x7 : Int32) (h : Hp) (L17 : Nat → Int32 → Int32 → Int32 → Hp → Prop) (L41 : Nat → Int32 → Int32 → Int32 → Hp → Prop) (L80 : Nat → Int32 → Int32 → Int32 → Int32 → Int32 → Hp → Prop) (L127 : Nat → Int32 → Int32 → Int32 → Int32 → Int32 → Int32 → Int32 → Int32 → Int32 → Int32 → Hp → Prop) (L278 : Nat → Int32 → Int32 → Int32 → Int32 → Int32 → Int32 → Int32 → Int32 → Int32 → Hp → Prop) (RET : Hp → Prop) : Prop :=
  ((x3 ≤ 0) → (V_X12_findModes_366 w sh x0 x2 x3 x4 x5 x6 h L17 L41 L80 L127 L278 RET)) ∧ ((¬ x3 ≤ 0) → (shAt sh x0 = some (.inr 12) ∧ (¬ ((256 : Int32) * x3) = 0 ∧ (∃ n5 : Nat, shAt sh (h.2.1 x0 57) = some (.inl (1, n5)) ∧ (vp_in (x7 - x7 / ((256 : Int32) * x3) * ((256 : Int32) * x3)) n5 ∧ (∀ h7 : Hp, h7 = wI h (h.2.1 x0 57) (x7 - x7 / ((256 : Int32) * x3) * ((256 : Int32) * x3)).toNatClampNeg x7 → (V_X12_findModes_366 w sh x0 x2 x3 x4 x5 x6 h7 L17 L41 L80 L127 L278 RET)))))))
set_option maxRecDepth 20000 in
set_option maxHeartbeats 4000000 in
theorem W_X12_findModes_347 {w : Wd} {E : GE} {sh : List Sh} {x0 : Nat} {x2 : Int32} {x3 : Int32} {x4 : Int32} {x5 : Int32} {x6 : Int32} {x7 : Int32} {h : Hp} {L17 : Nat → Int32 → Int32 → Int32 → Hp → Prop} {L41 : Nat → Int32 → Int32 → Int32 → Hp → Prop} {L80 : Nat → Int32 → Int32 → Int32 → Int32 → Int32 → Hp → Prop} {L127 : Nat → Int32 → Int32 → Int32 → Int32 → Int32 → Int32 → Int32 → Int32 → Int32 → Int32 → Hp → Prop} {L278 : Nat → Int32 → Int32 → Int32 → Int32 → Int32 → Int32 → Int32 → Int32 → Int32 → Hp → Prop} {RET : Hp → Prop} (X : Cx w E cX12_findModes 13 RX12) (Tt : Rt w E none sh.length 0 0 (fun q sh9 h9 => q = none ∧ sh9 = sh ∧ RET h9)) (hR : gR E = { frames := 1, cells := 0, slots := 0, locals := 22 }) (hL17 : ∀ (x0 : Nat) (x2 : Int32) (x3 : Int32) (x4 : Int32) (h : Hp), L17 x0 x2 x3 x4 h → G w E 13 17 [(0, rv w.2.2.2 x0), (2, Value.int x2), (3, Value.int x3), (4, Value.int x4)] [] sh h 0 0) (hL41 : ∀ (x0 : Nat) (x2 : Int32) (x3 : Int32) (x4 : Int32) (h : Hp), L41 x0 x2 x3 x4 h → G w E 13 41 [(0, rv w.2.2.2 x0), (2, Value.int x2), (3, Value.int x3), (4, Value.int x4)] [] sh h 0 0) (hL80 : ∀ (x0 : Nat) (x2 : Int32) (x3 : Int32) (x4 : Int32) (x5 : Int32) (x6 : Int32) (h : Hp), L80 x0 x2 x3 x4 x5 x6 h → G w E 13 80 [(0, rv w.2.2.2 x0), (2, Value.int x2), (3, Value.int x3), (4, Value.int x4), (5, Value.int x5), (6, Value.int x6)] [] sh h 0 0) (hL127 : ∀ (x0 : Nat) (x2 : Int32) (x3 : Int32) (x4 : Int32) (x5 : Int32) (x6 : Int32) (x7 : Int32) (x8 : Int32) (x9 : Int32) (x10 : Int32) (x11 : Int32) (h : Hp), L127 x0 x2 x3 x4 x5 x6 x7 x8 x9 x10 x11 h → G w E 13 127 [(0, rv w.2.2.2 x0), (2, Value.int x2), (3, Value.int x3), (4, Value.int x4), (5, Value.int x5), (6, Value.int x6), (7, Value.int x7), (8, Value.int x8), (9, Value.int x9), (10, Value.int x10), (11, Value.int x11)] [] sh h 0 0) (hL278 : ∀ (x0 : Nat) (x2 : Int32) (x3 : Int32) (x4 : Int32) (x5 : Int32) (x6 : Int32) (x7 : Int32) (x8 : Int32) (x10 : Int32) (x12 : Int32) (h : Hp), L278 x0 x2 x3 x4 x5 x6 x7 x8 x10 x12 h → G w E 13 278 [(0, rv w.2.2.2 x0), (2, Value.int x2), (3, Value.int x3), (4, Value.int x4), (5, Value.int x5), (6, Value.int x6), (7, Value.int x7), (8, Value.int x8), (10, Value.int x10), (12, Value.int x12)] [] sh h 0 0) (hV : V_X12_findModes_347 w sh x0 x2 x3 x4 x5 x6 x7 h L17 L41 L80 L127 L278 RET) : G w E 13 347 [(0, rv w.2.2.2 x0), (2, Value.int x2), (3, Value.int x3), (4, Value.int x4), (5, Value.int x5), (6, Value.int x6), (7, Value.int x7)] [] sh h 0 0 := by
  unfold V_X12_findModes_347 at hV
  refine g_iload_n (pc := 347) X 2 rfl rfl dX12_findModes_347 ?_
  refine g_if_le (pc := 348) X 366 dX12_findModes_348 (by decide) (fun c1 => ?_) (fun c1 => ?_)
  · have hV := hV.1 c1
    refine g_lv [0, 1, 2, 3, 4, 5] rfl ?_
    exact W_X12_findModes_366 X Tt hR hL17 hL41 hL80 hL127 hL278 hV
  · have hV := hV.2 c1
    refine g_aload_n (pc := 351) X 0 rfl rfl dX12_findModes_351 ?_
    obtain ⟨q2, hV⟩ := hV
    refine g_getR (pc := 352) X fl_X12_104 q2 dX12_findModes_352 ?_
    refine g_iload (pc := 355) X 6 rfl dX12_findModes_355 ?_
    refine g_sipush (pc := 357) (v := (256 : Int32)) X dX12_findModes_357 (by decide) ?_
    refine g_iload_n (pc := 360) X 2 rfl rfl dX12_findModes_360 ?_
    refine g_imul (pc := 361) X dX12_findModes_361 ?_
    obtain ⟨q3, hV⟩ := hV
    refine g_irem (pc := 362) X dX12_findModes_362 q3 ?_
    refine g_iload (pc := 363) X 6 rfl dX12_findModes_363 ?_
    obtain ⟨n5, q4, hV⟩ := hV
    obtain ⟨q6, hV⟩ := hV
    refine g_iast (pc := 365) X q4 q6 dX12_findModes_365 (fun h7 e8 => ?_)
    have hV := hV h7 e8
    refine g_lv [0, 1, 2, 3, 4, 5] rfl ?_
    exact W_X12_findModes_366 X Tt hR hL17 hL41 hL80 hL127 hL278 hV
def V_X12_findModes_317 (w : Wd) (sh : List Sh) (x0 : Nat) (x2 : Int32) (x3 : Int32) (x4 : Int32) (x5 : Int32) (x6 : Int32) (x7 : Int32) (x8 : Int32) (h : Hp) (L17 : Nat → Int32 → Int32 → Int32 → Hp → Prop) (L41 : Nat → Int32 → Int32 → Int32 → Hp → Prop) (L80 : Nat → Int32 → Int32 → Int32 → Int32 → Int32 → Hp → Prop) (L127 : Nat → Int32 → Int32 → Int32 → Int32 → Int32 → Int32 → Int32 → Int32 → Int32 → Int32 → Hp → Prop) (L278 : Nat → Int32 → Int32 → Int32 → Int32 → Int32 → Int32 → Int32 → Int32 → Int32 → Hp → Prop) (RET : Hp → Prop) : Prop :=
  shAt sh x0 = some (.inr 12) ∧ (∃ n3 : Nat, shAt sh (h.2.1 x0 55) = some (.inl (1, n3)) ∧ (vp_in x6 n3 ∧ (∀ h5 : Hp, h5 = wI h (h.2.1 x0 55) x6.toNatClampNeg x8 → (((x2 ≤ 0) → (V_X12_findModes_347 w sh x0 x2 x3 x4 x5 x6 x7 h5 L17 L41 L80 L127 L278 RET)) ∧ ((¬ x2 ≤ 0) → (∃ n9 : Nat, shAt sh (h.2.1 x0 56) = some (.inl (1, n9)) ∧ (vp_in x4 n9 ∧ (∀ h11 : Hp, h11 = wI h5 (h.2.1 x0 56) x4.toNatClampNeg x7 → (¬ x2 = 0 ∧ (∀ y14 : Int32, y14 = ((x4 + (1 : Int32)) - (x4 + (1 : Int32)) / x2 * x2) → (V_X12_findModes_347 w sh x0 x2 x3 y14 x5 x6 x7 h11 L17 L41 L80 L127 L278 RET)))))))))))
set_option maxRecDepth 20000 in
set_option maxHeartbeats 4000000 in
theorem W_X12_findModes_317 {w : Wd} {E : GE} {sh : List Sh} {x0 : Nat} {x2 : Int32} {x3 : Int32} {x4 : Int32} {x5 : Int32} {x6 : Int32} {x7 : Int32} {x8 : Int32} {h : Hp} {L17 : Nat → Int32 → Int32 → Int32 → Hp → Prop} {L41 : Nat → Int32 → Int32 → Int32 → Hp → Prop} {L80 : Nat → Int32 → Int32 → Int32 → Int32 → Int32 → Hp → Prop} {L127 : Nat → Int32 → Int32 → Int32 → Int32 → Int32 → Int32 → Int32 → Int32 → Int32 → Int32 → Hp → Prop} {L278 : Nat → Int32 → Int32 → Int32 → Int32 → Int32 → Int32 → Int32 → Int32 → Int32 → Hp → Prop} {RET : Hp → Prop} (X : Cx w E cX12_findModes 13 RX12) (Tt : Rt w E none sh.length 0 0 (fun q sh9 h9 => q = none ∧ sh9 = sh ∧ RET h9)) (hR : gR E = { frames := 1, cells := 0, slots := 0, locals := 22 }) (hL17 : ∀ (x0 : Nat) (x2 : Int32) (x3 : Int32) (x4 : Int32) (h : Hp), L17 x0 x2 x3 x4 h → G w E 13 17 [(0, rv w.2.2.2 x0), (2, Value.int x2), (3, Value.int x3), (4, Value.int x4)] [] sh h 0 0) (hL41 : ∀ (x0 : Nat) (x2 : Int32) (x3 : Int32) (x4 : Int32) (h : Hp), L41 x0 x2 x3 x4 h → G w E 13 41 [(0, rv w.2.2.2 x0), (2, Value.int x2), (3, Value.int x3), (4, Value.int x4)] [] sh h 0 0) (hL80 : ∀ (x0 : Nat) (x2 : Int32) (x3 : Int32) (x4 : Int32) (x5 : Int32) (x6 : Int32) (h : Hp), L80 x0 x2 x3 x4 x5 x6 h → G w E 13 80 [(0, rv w.2.2.2 x0), (2, Value.int x2), (3, Value.int x3), (4, Value.int x4), (5, Value.int x5), (6, Value.int x6)] [] sh h 0 0) (hL127 : ∀ (x0 : Nat) (x2 : Int32) (x3 : Int32) (x4 : Int32) (x5 : Int32) (x6 : Int32) (x7 : Int32) (x8 : Int32) (x9 : Int32) (x10 : Int32) (x11 : Int32) (h : Hp), L127 x0 x2 x3 x4 x5 x6 x7 x8 x9 x10 x11 h → G w E 13 127 [(0, rv w.2.2.2 x0), (2, Value.int x2), (3, Value.int x3), (4, Value.int x4), (5, Value.int x5), (6, Value.int x6), (7, Value.int x7), (8, Value.int x8), (9, Value.int x9), (10, Value.int x10), (11, Value.int x11)] [] sh h 0 0) (hL278 : ∀ (x0 : Nat) (x2 : Int32) (x3 : Int32) (x4 : Int32) (x5 : Int32) (x6 : Int32) (x7 : Int32) (x8 : Int32) (x10 : Int32) (x12 : Int32) (h : Hp), L278 x0 x2 x3 x4 x5 x6 x7 x8 x10 x12 h → G w E 13 278 [(0, rv w.2.2.2 x0), (2, Value.int x2), (3, Value.int x3), (4, Value.int x4), (5, Value.int x5), (6, Value.int x6), (7, Value.int x7), (8, Value.int x8), (10, Value.int x10), (12, Value.int x12)] [] sh h 0 0) (hV : V_X12_findModes_317 w sh x0 x2 x3 x4 x5 x6 x7 x8 h L17 L41 L80 L127 L278 RET) : G w E 13 317 [(0, rv w.2.2.2 x0), (2, Value.int x2), (3, Value.int x3), (4, Value.int x4), (5, Value.int x5), (6, Value.int x6), (7, Value.int x7), (8, Value.int x8)] [] sh h 0 0 := by
  unfold V_X12_findModes_317 at hV
  refine g_aload_n (pc := 317) X 0 rfl rfl dX12_findModes_317 ?_
  obtain ⟨q1, hV⟩ := hV
  refine g_getR (pc := 318) X fl_X12_98 q1 dX12_findModes_318 ?_
  refine g_iload (pc := 321) X 5 rfl dX12_findModes_321 ?_
  refine g_iload (pc := 323) X 7 rfl dX12_findModes_323 ?_
  obtain ⟨n3, q2, hV⟩ := hV
  obtain ⟨q4, hV⟩ := hV
  refine g_iast (pc := 325) X q2 q4 dX12_findModes_325 (fun h5 e6 => ?_)
  have hV := hV h5 e6
  refine g_iload_n (pc := 326) X 1 rfl rfl dX12_findModes_326 ?_
  refine g_if_le (pc := 327) X 347 dX12_findModes_327 (by decide) (fun c7 => ?_) (fun c7 => ?_)
  · have hV := hV.1 c7
    refine g_lv [0, 1, 2, 3, 4, 5, 6] rfl ?_
    exact W_X12_findModes_347 X Tt hR hL17 hL41 hL80 hL127 hL278 hV
  · have hV := hV.2 c7
    refine g_aload_n (pc := 330) X 0 rfl rfl dX12_findModes_330 ?_
    refine g_getRe (pc := 331) X fl_X12_101 q1 (congrFun (congrFun (rfI e6) _) _) dX12_findModes_331 ?_
    refine g_iload (pc := 334) X 3 rfl dX12_findModes_334 ?_
    refine g_iload (pc := 336) X 6 rfl dX12_findModes_336 ?_
    obtain ⟨n9, q8, hV⟩ := hV
    obtain ⟨q10, hV⟩ := hV
    refine g_iast (pc := 338) X q8 q10 dX12_findModes_338 (fun h11 e12 => ?_)
    have hV := hV h11 e12
    refine g_iload (pc := 339) X 3 rfl dX12_findModes_339 ?_
    refine g_iconst (pc := 341) (v := (1 : Int32)) X dX12_findModes_341 (by decide) ?_
    refine g_iadd (pc := 342) X dX12_findModes_342 ?_
    refine g_iload_n (pc := 343) X 1 rfl rfl dX12_findModes_343 ?_
    obtain ⟨q13, hV⟩ := hV
    refine g_irem (pc := 344) X dX12_findModes_344 q13 ?_
    refine g_istore (pc := 345) X (i := 4) (rest := [(0, rv w.2.2.2 x0), (2, Value.int x2), (3, Value.int x3), (5, Value.int x5), (6, Value.int x6), (7, Value.int x7), (8, Value.int x8)]) (by decide) rfl dX12_findModes_345 (fun y14 e15 => ?_)
    have hV := hV y14 e15
    refine g_lv [1, 2, 3, 0, 4, 5, 6] rfl ?_
    exact W_X12_findModes_347 X Tt hR hL17 hL41 hL80 hL127 hL278 hV
def V_X12_findModes_307 (w : Wd) (sh : List Sh) (x0 : Nat) (x2 : Int32) (x3 : Int32) (x4 : Int32) (x5 : Int32) (x6 : Int32) (x7 : Int32) (x8 : Int32) (x10 : Int32) (x12 : Int32) (s0 : Int32) (s1 : Int32) (s2 : Nat) (h : Hp) (L17 : Nat → Int32 → Int32 → Int32 → Hp → Prop) (L41 : Nat → Int32 → Int32 → Int32 → Hp → Prop) (L80 : Nat → Int32 → Int32 → Int32 → Int32 → Int32 → Hp → Prop) (L127 : Nat → Int32 → Int32 → Int32 → Int32 → Int32 → Int32 → Int32 → Int32 → Int32 → Int32 → Hp → Prop) (L278 : Nat → Int32 → Int32 → Int32 → Int32 → Int32 → Int32 → Int32 → Int32 → Int32 → Hp → Prop) (RET : Hp → Prop) : Prop :=
  shAt sh s2 = some (.inr 12) ∧ (∃ P2 : Hp → Prop, C_X12_addAddress w sh s2 (s1 ||| s0) h P2 ∧ (∀ h5 : Hp, P2 h5 → (∀ y6 : Int32, y6 = x12 + (-1 : Int32) → (L278 x0 x2 x3 x4 x5 x6 x7 x8 x10 y6 h5))))
set_option maxRecDepth 20000 in
set_option maxHeartbeats 4000000 in
theorem W_X12_findModes_307 {w : Wd} {E : GE} {sh : List Sh} {x0 : Nat} {x2 : Int32} {x3 : Int32} {x4 : Int32} {x5 : Int32} {x6 : Int32} {x7 : Int32} {x8 : Int32} {x10 : Int32} {x12 : Int32} {s0 : Int32} {s1 : Int32} {s2 : Nat} {h : Hp} {L17 : Nat → Int32 → Int32 → Int32 → Hp → Prop} {L41 : Nat → Int32 → Int32 → Int32 → Hp → Prop} {L80 : Nat → Int32 → Int32 → Int32 → Int32 → Int32 → Hp → Prop} {L127 : Nat → Int32 → Int32 → Int32 → Int32 → Int32 → Int32 → Int32 → Int32 → Int32 → Int32 → Hp → Prop} {L278 : Nat → Int32 → Int32 → Int32 → Int32 → Int32 → Int32 → Int32 → Int32 → Int32 → Hp → Prop} {RET : Hp → Prop} (X : Cx w E cX12_findModes 13 RX12) (Tt : Rt w E none sh.length 0 0 (fun q sh9 h9 => q = none ∧ sh9 = sh ∧ RET h9)) (hR : gR E = { frames := 1, cells := 0, slots := 0, locals := 22 }) (hL17 : ∀ (x0 : Nat) (x2 : Int32) (x3 : Int32) (x4 : Int32) (h : Hp), L17 x0 x2 x3 x4 h → G w E 13 17 [(0, rv w.2.2.2 x0), (2, Value.int x2), (3, Value.int x3), (4, Value.int x4)] [] sh h 0 0) (hL41 : ∀ (x0 : Nat) (x2 : Int32) (x3 : Int32) (x4 : Int32) (h : Hp), L41 x0 x2 x3 x4 h → G w E 13 41 [(0, rv w.2.2.2 x0), (2, Value.int x2), (3, Value.int x3), (4, Value.int x4)] [] sh h 0 0) (hL80 : ∀ (x0 : Nat) (x2 : Int32) (x3 : Int32) (x4 : Int32) (x5 : Int32) (x6 : Int32) (h : Hp), L80 x0 x2 x3 x4 x5 x6 h → G w E 13 80 [(0, rv w.2.2.2 x0), (2, Value.int x2), (3, Value.int x3), (4, Value.int x4), (5, Value.int x5), (6, Value.int x6)] [] sh h 0 0) (hL127 : ∀ (x0 : Nat) (x2 : Int32) (x3 : Int32) (x4 : Int32) (x5 : Int32) (x6 : Int32) (x7 : Int32) (x8 : Int32) (x9 : Int32) (x10 : Int32) (x11 : Int32) (h : Hp), L127 x0 x2 x3 x4 x5 x6 x7 x8 x9 x10 x11 h → G w E 13 127 [(0, rv w.2.2.2 x0), (2, Value.int x2), (3, Value.int x3), (4, Value.int x4), (5, Value.int x5), (6, Value.int x6), (7, Value.int x7), (8, Value.int x8), (9, Value.int x9), (10, Value.int x10), (11, Value.int x11)] [] sh h 0 0) (hL278 : ∀ (x0 : Nat) (x2 : Int32) (x3 : Int32) (x4 : Int32) (x5 : Int32) (x6 : Int32) (x7 : Int32) (x8 : Int32) (x10 : Int32) (x12 : Int32) (h : Hp), L278 x0 x2 x3 x4 x5 x6 x7 x8 x10 x12 h → G w E 13 278 [(0, rv w.2.2.2 x0), (2, Value.int x2), (3, Value.int x3), (4, Value.int x4), (5, Value.int x5), (6, Value.int x6), (7, Value.int x7), (8, Value.int x8), (10, Value.int x10), (12, Value.int x12)] [] sh h 0 0) (hV : V_X12_findModes_307 w sh x0 x2 x3 x4 x5 x6 x7 x8 x10 x12 s0 s1 s2 h L17 L41 L80 L127 L278 RET) : G w E 13 307 [(0, rv w.2.2.2 x0), (2, Value.int x2), (3, Value.int x3), (4, Value.int x4), (5, Value.int x5), (6, Value.int x6), (7, Value.int x7), (8, Value.int x8), (10, Value.int x10), (12, Value.int x12)] [Value.int s0, Value.int s1, rv w.2.2.2 s2] sh h 0 0 := by
  unfold V_X12_findModes_307 at hV
  refine g_ior (pc := 307) X dX12_findModes_307 ?_
  obtain ⟨q1, hV⟩ := hV
  obtain ⟨P2, t3, hV⟩ := hV
  refine g_cVV (pc := 308) X (As := [Value.int (s1 ||| s0)]) ml_X12_321 rfl q1 t3 (by rw [hR]; exact ⟨by decide, by decide, by decide, by decide⟩) rfl rfl (Nat.zero_le _) dX12_findModes_308 (fun h5 p4 => ?_)
  have hV := hV h5 p4
  refine g_iinc (pc := 311) X 9 (v := (-1 : Int32)) (rest := [(0, rv w.2.2.2 x0), (2, Value.int x2), (3, Value.int x3), (4, Value.int x4), (5, Value.int x5), (6, Value.int x6), (7, Value.int x7), (8, Value.int x8), (10, Value.int x10)]) rfl (by decide) rfl (by decide) dX12_findModes_311 (fun y6 e7 => ?_)
  have hV := hV y6 e7
  refine g_goto (pc := 314) X 278 dX12_findModes_314 (by decide) ?_
  refine g_lv [1, 2, 3, 4, 5, 6, 7, 8, 9, 0] rfl ?_
  exact hL278 x0 x2 x3 x4 x5 x6 x7 x8 x10 y6 h5 hV
def V_X12_findModes_278 (w : Wd) (sh : List Sh) (x0 : Nat) (x2 : Int32) (x3 : Int32) (x4 : Int32) (x5 : Int32) (x6 : Int32) (x7 : Int32) (x8 : Int32) (x10 : Int32) (x12 : Int32) (h : Hp) (L17 : Nat → Int32 → Int32 → Int32 → Hp → Prop) (L41 : Nat → Int32 → Int32 → Int32 → Hp → Prop) (L80 : Nat → Int32 → Int32 → Int32 → Int32 → Int32 → Hp → Prop) (L127 : Nat → Int32 → Int32 → Int32 → Int32 → Int32 → Int32 → Int32 → Int32 → Int32 → Int32 → Hp → Prop) (L278 : Nat → Int32 → Int32 → Int32 → Int32 → Int32 → Int32 → Int32 → Int32 → Int32 → Hp → Prop) (RET : Hp → Prop) : Prop :=
  ((x12 < 0) → (V_X12_findModes_317 w sh x0 x2 x3 x4 x5 x6 x7 x8 h L17 L41 L80 L127 L278 RET)) ∧ ((¬ x12 < 0) → (((x12 ≤ 0) → (V_X12_findModes_307 w sh x0 x2 x3 x4 x5 x6 x7 x8 x10 x12 (0 : Int32) ((x10 >>> (((7 : Int32) * x12) &&& 31)) &&& (127 : Int32)) x0 h L17 L41 L80 L127 L278 RET)) ∧ ((¬ x12 ≤ 0) → (V_X12_findModes_307 w sh x0 x2 x3 x4 x5 x6 x7 x8 x10 x12 (128 : Int32) ((x10 >>> (((7 : Int32) * x12) &&& 31)) &&& (127 : Int32)) x0 h L17 L41 L80 L127 L278 RET))))
set_option maxRecDepth 20000 in
set_option maxHeartbeats 4000000 in
theorem W_X12_findModes_278 {w : Wd} {E : GE} {sh : List Sh} {x0 : Nat} {x2 : Int32} {x3 : Int32} {x4 : Int32} {x5 : Int32} {x6 : Int32} {x7 : Int32} {x8 : Int32} {x10 : Int32} {x12 : Int32} {h : Hp} {L17 : Nat → Int32 → Int32 → Int32 → Hp → Prop} {L41 : Nat → Int32 → Int32 → Int32 → Hp → Prop} {L80 : Nat → Int32 → Int32 → Int32 → Int32 → Int32 → Hp → Prop} {L127 : Nat → Int32 → Int32 → Int32 → Int32 → Int32 → Int32 → Int32 → Int32 → Int32 → Int32 → Hp → Prop} {L278 : Nat → Int32 → Int32 → Int32 → Int32 → Int32 → Int32 → Int32 → Int32 → Int32 → Hp → Prop} {RET : Hp → Prop} (X : Cx w E cX12_findModes 13 RX12) (Tt : Rt w E none sh.length 0 0 (fun q sh9 h9 => q = none ∧ sh9 = sh ∧ RET h9)) (hR : gR E = { frames := 1, cells := 0, slots := 0, locals := 22 }) (hL17 : ∀ (x0 : Nat) (x2 : Int32) (x3 : Int32) (x4 : Int32) (h : Hp), L17 x0 x2 x3 x4 h → G w E 13 17 [(0, rv w.2.2.2 x0), (2, Value.int x2), (3, Value.int x3), (4, Value.int x4)] [] sh h 0 0) (hL41 : ∀ (x0 : Nat) (x2 : Int32) (x3 : Int32) (x4 : Int32) (h : Hp), L41 x0 x2 x3 x4 h → G w E 13 41 [(0, rv w.2.2.2 x0), (2, Value.int x2), (3, Value.int x3), (4, Value.int x4)] [] sh h 0 0) (hL80 : ∀ (x0 : Nat) (x2 : Int32) (x3 : Int32) (x4 : Int32) (x5 : Int32) (x6 : Int32) (h : Hp), L80 x0 x2 x3 x4 x5 x6 h → G w E 13 80 [(0, rv w.2.2.2 x0), (2, Value.int x2), (3, Value.int x3), (4, Value.int x4), (5, Value.int x5), (6, Value.int x6)] [] sh h 0 0) (hL127 : ∀ (x0 : Nat) (x2 : Int32) (x3 : Int32) (x4 : Int32) (x5 : Int32) (x6 : Int32) (x7 : Int32) (x8 : Int32) (x9 : Int32) (x10 : Int32) (x11 : Int32) (h : Hp), L127 x0 x2 x3 x4 x5 x6 x7 x8 x9 x10 x11 h → G w E 13 127 [(0, rv w.2.2.2 x0), (2, Value.int x2), (3, Value.int x3), (4, Value.int x4), (5, Value.int x5), (6, Value.int x6), (7, Value.int x7), (8, Value.int x8), (9, Value.int x9), (10, Value.int x10), (11, Value.int x11)] [] sh h 0 0) (hL278 : ∀ (x0 : Nat) (x2 : Int32) (x3 : Int32) (x4 : Int32) (x5 : Int32) (x6 : Int32) (x7 : Int32) (x8 : Int32) (x10 : Int32) (x12 : Int32) (h : Hp), L278 x0 x2 x3 x4 x5 x6 x7 x8 x10 x12 h → G w E 13 278 [(0, rv w.2.2.2 x0), (2, Value.int x2), (3, Value.int x3), (4, Value.int x4), (5, Value.int x5), (6, Value.int x6), (7, Value.int x7), (8, Value.int x8), (10, Value.int x10), (12, Value.int x12)] [] sh h 0 0) (hV : V_X12_findModes_278 w sh x0 x2 x3 x4 x5 x6 x7 x8 x10 x12 h L17 L41 L80 L127 L278 RET) : G w E 13 278 [(0, rv w.2.2.2 x0), (2, Value.int x2), (3, Value.int x3), (4, Value.int x4), (5, Value.int x5), (6, Value.int x6), (7, Value.int x7), (8, Value.int x8), (10, Value.int x10), (12, Value.int x12)] [] sh h 0 0 := by
  unfold V_X12_findModes_278 at hV
  refine g_iload (pc := 278) X 9 rfl dX12_findModes_278 ?_
  refine g_if_lt (pc := 280) X 317 dX12_findModes_280 (by decide) (fun c1 => ?_) (fun c1 => ?_)
  · have hV := hV.1 c1
    refine g_lv [0, 1, 2, 3, 4, 5, 6, 7] rfl ?_
    exact W_X12_findModes_317 X Tt hR hL17 hL41 hL80 hL127 hL278 hV
  · have hV := hV.2 c1
    refine g_aload_n (pc := 283) X 0 rfl rfl dX12_findModes_283 ?_
    refine g_iload (pc := 284) X 8 rfl dX12_findModes_284 ?_
    refine g_bipush (pc := 286) (v := (7 : Int32)) X dX12_findModes_286 (by decide) ?_
    refine g_iload (pc := 288) X 9 rfl dX12_findModes_288 ?_
    refine g_imul (pc := 290) X dX12_findModes_290 ?_
    refine g_ishr (pc := 291) X dX12_findModes_291 ?_
    refine g_bipush (pc := 292) (v := (127 : Int32)) X dX12_findModes_292 (by decide) ?_
    refine g_iand (pc := 294) X dX12_findModes_294 ?_
    refine g_iload (pc := 295) X 9 rfl dX12_findModes_295 ?_
    refine g_if_le (pc := 297) X 306 dX12_findModes_297 (by decide) (fun c2 => ?_) (fun c2 => ?_)
    · have hV := hV.1 c2
      refine g_iconst (pc := 306) (v := (0 : Int32)) X dX12_findModes_306 (by decide) ?_
      exact W_X12_findModes_307 X Tt hR hL17 hL41 hL80 hL127 hL278 hV
    · have hV := hV.2 c2
      refine g_sipush (pc := 300) (v := (128 : Int32)) X dX12_findModes_300 (by decide) ?_
      refine g_goto (pc := 303) X 307 dX12_findModes_303 (by decide) ?_
      exact W_X12_findModes_307 X Tt hR hL17 hL41 hL80 hL127 hL278 hV
def V_X12_findModes_234 (w : Wd) (sh : List Sh) (x0 : Nat) (x2 : Int32) (x3 : Int32) (x4 : Int32) (x5 : Int32) (x6 : Int32) (x7 : Int32) (x8 : Int32) (x9 : Int32) (x10 : Int32) (s0 : Int32) (h : Hp) (L17 : Nat → Int32 → Int32 → Int32 → Hp → Prop) (L41 : Nat → Int32 → Int32 → Int32 → Hp → Prop) (L80 : Nat → Int32 → Int32 → Int32 → Int32 → Int32 → Hp → Prop) (L127 : Nat → Int32 → Int32 → Int32 → Int32 → Int32 → Int32 → Int32 → Int32 → Int32 → Int32 → Hp → Prop) (L278 : Nat → Int32 → Int32 → Int32 → Int32 → Int32 → Int32 → Int32 → Int32 → Int32 → Hp → Prop) (RET : Hp → Prop) : Prop :=
  ∀ y1 : Int32, y1 = s0 → (((y1 = 0) → (∀ y4 : Int32, y4 = (x9 - (1 : Int32)) → (L278 x0 x2 x3 x4 x5 x6 x7 x8 x10 y4 h))) ∧ ((¬ y1 = 0) → (¬ ((256 : Int32) * x3) = 0 ∧ (∀ y7 : Int32, y7 = (((2 : Int32) + x2) + ((x7 - x7 / ((256 : Int32) * x3) * ((256 : Int32) * x3)) / (256 : Int32))) → (shAt sh x0 = some (.inr 12) ∧ (∃ P10 : Hp → Prop, C_X12_addAddress w sh x0 (x7 - x7 / (256 : Int32) * (256 : Int32)) h P10 ∧ (∀ h13 : Hp, P10 h13 → (V_X12_findModes_317 w sh x0 x2 x3 x4 x5 x6 x7 y7 h13 L17 L41 L80 L127 L278 RET))))))))
set_option maxRecDepth 20000 in
set_option maxHeartbeats 4000000 in
theorem W_X12_findModes_234 {w : Wd} {E : GE} {sh : List Sh} {x0 : Nat} {x2 : Int32} {x3 : Int32} {x4 : Int32} {x5 : Int32} {x6 : Int32} {x7 : Int32} {x8 : Int32} {x9 : Int32} {x10 : Int32} {s0 : Int32} {h : Hp} {L17 : Nat → Int32 → Int32 → Int32 → Hp → Prop} {L41 : Nat → Int32 → Int32 → Int32 → Hp → Prop} {L80 : Nat → Int32 → Int32 → Int32 → Int32 → Int32 → Hp → Prop} {L127 : Nat → Int32 → Int32 → Int32 → Int32 → Int32 → Int32 → Int32 → Int32 → Int32 → Int32 → Hp → Prop} {L278 : Nat → Int32 → Int32 → Int32 → Int32 → Int32 → Int32 → Int32 → Int32 → Int32 → Hp → Prop} {RET : Hp → Prop} (X : Cx w E cX12_findModes 13 RX12) (Tt : Rt w E none sh.length 0 0 (fun q sh9 h9 => q = none ∧ sh9 = sh ∧ RET h9)) (hR : gR E = { frames := 1, cells := 0, slots := 0, locals := 22 }) (hL17 : ∀ (x0 : Nat) (x2 : Int32) (x3 : Int32) (x4 : Int32) (h : Hp), L17 x0 x2 x3 x4 h → G w E 13 17 [(0, rv w.2.2.2 x0), (2, Value.int x2), (3, Value.int x3), (4, Value.int x4)] [] sh h 0 0) (hL41 : ∀ (x0 : Nat) (x2 : Int32) (x3 : Int32) (x4 : Int32) (h : Hp), L41 x0 x2 x3 x4 h → G w E 13 41 [(0, rv w.2.2.2 x0), (2, Value.int x2), (3, Value.int x3), (4, Value.int x4)] [] sh h 0 0) (hL80 : ∀ (x0 : Nat) (x2 : Int32) (x3 : Int32) (x4 : Int32) (x5 : Int32) (x6 : Int32) (h : Hp), L80 x0 x2 x3 x4 x5 x6 h → G w E 13 80 [(0, rv w.2.2.2 x0), (2, Value.int x2), (3, Value.int x3), (4, Value.int x4), (5, Value.int x5), (6, Value.int x6)] [] sh h 0 0) (hL127 : ∀ (x0 : Nat) (x2 : Int32) (x3 : Int32) (x4 : Int32) (x5 : Int32) (x6 : Int32) (x7 : Int32) (x8 : Int32) (x9 : Int32) (x10 : Int32) (x11 : Int32) (h : Hp), L127 x0 x2 x3 x4 x5 x6 x7 x8 x9 x10 x11 h → G w E 13 127 [(0, rv w.2.2.2 x0), (2, Value.int x2), (3, Value.int x3), (4, Value.int x4), (5, Value.int x5), (6, Value.int x6), (7, Value.int x7), (8, Value.int x8), (9, Value.int x9), (10, Value.int x10), (11, Value.int x11)] [] sh h 0 0) (hL278 : ∀ (x0 : Nat) (x2 : Int32) (x3 : Int32) (x4 : Int32) (x5 : Int32) (x6 : Int32) (x7 : Int32) (x8 : Int32) (x10 : Int32) (x12 : Int32) (h : Hp), L278 x0 x2 x3 x4 x5 x6 x7 x8 x10 x12 h → G w E 13 278 [(0, rv w.2.2.2 x0), (2, Value.int x2), (3, Value.int x3), (4, Value.int x4), (5, Value.int x5), (6, Value.int x6), (7, Value.int x7), (8, Value.int x8), (10, Value.int x10), (12, Value.int x12)] [] sh h 0 0) (hV : V_X12_findModes_234 w sh x0 x2 x3 x4 x5 x6 x7 x8 x9 x10 s0 h L17 L41 L80 L127 L278 RET) : G w E 13 234 [(0, rv w.2.2.2 x0), (2, Value.int x2), (3, Value.int x3), (4, Value.int x4), (5, Value.int x5), (6, Value.int x6), (7, Value.int x7), (8, Value.int x8), (9, Value.int x9), (10, Value.int x10)] [Value.int s0] sh h 0 0 := by
  unfold V_X12_findModes_234 at hV
  refine g_istore (pc := 234) X (i := 11) (rest := [(0, rv w.2.2.2 x0), (2, Value.int x2), (3, Value.int x3), (4, Value.int x4), (5, Value.int x5), (6, Value.int x6), (7, Value.int x7), (8, Value.int x8), (9, Value.int x9), (10, Value.int x10)]) (by decide) rfl dX12_findModes_234 (fun y1 e2 => ?_)
  have hV := hV y1 e2
  refine g_iload (pc := 236) X 0 rfl dX12_findModes_236 ?_
  refine g_if_eq (pc := 238) X 272 dX12_findModes_238 (by decide) (fun c3 => ?_) (fun c3 => ?_)
  · have hV := hV.1 c3
    refine g_iload (pc := 272) X 9 rfl dX12_findModes_272 ?_
    refine g_iconst (pc := 274) (v := (1 : Int32)) X dX12_findModes_274 (by decide) ?_
    refine g_isub (pc := 275) X dX12_findModes_275 ?_
    refine g_istore (pc := 276) X (i := 12) (rest := [(11, Value.int y1), (0, rv w.2.2.2 x0), (2, Value.int x2), (3, Value.int x3), (4, Value.int x4), (5, Value.int x5), (6, Value.int x6), (7, Value.int x7), (8, Value.int x8), (9, Value.int x9), (10, Value.int x10)]) (by decide) rfl dX12_findModes_276 (fun y4 e5 => ?_)
    have hV := hV y4 e5
    refine g_lv [2, 3, 4, 5, 6, 7, 8, 9, 11, 0] rfl ?_
    exact hL278 x0 x2 x3 x4 x5 x6 x7 x8 x10 y4 h hV
  · have hV := hV.2 c3
    refine g_iconst (pc := 241) (v := (2 : Int32)) X dX12_findModes_241 (by decide) ?_
    refine g_iload_n (pc := 242) X 2 rfl rfl dX12_findModes_242 ?_
    refine g_iadd (pc := 243) X dX12_findModes_243 ?_
    refine g_iload (pc := 244) X 7 rfl dX12_findModes_244 ?_
    refine g_sipush (pc := 246) (v := (256 : Int32)) X dX12_findModes_246 (by decide) ?_
    refine g_iload_n (pc := 249) X 3 rfl rfl dX12_findModes_249 ?_
    refine g_imul (pc := 250) X dX12_findModes_250 ?_
    obtain ⟨q6, hV⟩ := hV
    refine g_irem (pc := 251) X dX12_findModes_251 q6 ?_
    refine g_sipush (pc := 252) (v := (256 : Int32)) X dX12_findModes_252 (by decide) ?_
    refine g_idiv (pc := 255) X dX12_findModes_255 (by decide) ?_
    refine g_iadd (pc := 256) X dX12_findModes_256 ?_
    refine g_istore (pc := 257) X (i := 8) (rest := [(11, Value.int y1), (0, rv w.2.2.2 x0), (2, Value.int x2), (3, Value.int x3), (4, Value.int x4), (5, Value.int x5), (6, Value.int x6), (7, Value.int x7), (9, Value.int x9), (10, Value.int x10)]) (by decide) rfl dX12_findModes_257 (fun y7 e8 => ?_)
    have hV := hV y7 e8
    refine g_aload_n (pc := 259) X 2 rfl rfl dX12_findModes_259 ?_
    refine g_iload (pc := 260) X 8 rfl dX12_findModes_260 ?_
    refine g_sipush (pc := 262) (v := (256 : Int32)) X dX12_findModes_262 (by decide) ?_
    refine g_irem (pc := 265) X dX12_findModes_265 (by decide) ?_
    obtain ⟨q9, hV⟩ := hV
    obtain ⟨P10, t11, hV⟩ := hV
    refine g_cVV (pc := 266) X (As := [Value.int (x7 - x7 / (256 : Int32) * (256 : Int32))]) ml_X12_321 rfl q9 t11 (by rw [hR]; exact ⟨by decide, by decide, by decide, by decide⟩) rfl rfl (Nat.zero_le _) dX12_findModes_266 (fun h13 p12 => ?_)
    have hV := hV h13 p12
    refine g_goto (pc := 269) X 317 dX12_findModes_269 (by decide) ?_
    refine g_lv [2, 3, 4, 5, 6, 7, 8, 0] rfl ?_
    exact W_X12_findModes_317 X Tt hR hL17 hL41 hL80 hL127 hL278 hV
def V_X12_findModes_233 (w : Wd) (sh : List Sh) (x0 : Nat) (x2 : Int32) (x3 : Int32) (x4 : Int32) (x5 : Int32) (x6 : Int32) (x7 : Int32) (x8 : Int32) (x9 : Int32) (x10 : Int32) (h : Hp) (L17 : Nat → Int32 → Int32 → Int32 → Hp → Prop) (L41 : Nat → Int32 → Int32 → Int32 → Hp → Prop) (L80 : Nat → Int32 → Int32 → Int32 → Int32 → Int32 → Hp → Prop) (L127 : Nat → Int32 → Int32 → Int32 → Int32 → Int32 → Int32 → Int32 → Int32 → Int32 → Int32 → Hp → Prop) (L278 : Nat → Int32 → Int32 → Int32 → Int32 → Int32 → Int32 → Int32 → Int32 → Int32 → Hp → Prop) (RET : Hp → Prop) : Prop :=
  V_X12_findModes_234 w sh x0 x2 x3 x4 x5 x6 x7 x8 x9 x10 (0 : Int32) h L17 L41 L80 L127 L278 RET
set_option maxRecDepth 20000 in
set_option maxHeartbeats 4000000 in
theorem W_X12_findModes_233 {w : Wd} {E : GE} {sh : List Sh} {x0 : Nat} {x2 : Int32} {x3 : Int32} {x4 : Int32} {x5 : Int32} {x6 : Int32} {x7 : Int32} {x8 : Int32} {x9 : Int32} {x10 : Int32} {h : Hp} {L17 : Nat → Int32 → Int32 → Int32 → Hp → Prop} {L41 : Nat → Int32 → Int32 → Int32 → Hp → Prop} {L80 : Nat → Int32 → Int32 → Int32 → Int32 → Int32 → Hp → Prop} {L127 : Nat → Int32 → Int32 → Int32 → Int32 → Int32 → Int32 → Int32 → Int32 → Int32 → Int32 → Hp → Prop} {L278 : Nat → Int32 → Int32 → Int32 → Int32 → Int32 → Int32 → Int32 → Int32 → Int32 → Hp → Prop} {RET : Hp → Prop} (X : Cx w E cX12_findModes 13 RX12) (Tt : Rt w E none sh.length 0 0 (fun q sh9 h9 => q = none ∧ sh9 = sh ∧ RET h9)) (hR : gR E = { frames := 1, cells := 0, slots := 0, locals := 22 }) (hL17 : ∀ (x0 : Nat) (x2 : Int32) (x3 : Int32) (x4 : Int32) (h : Hp), L17 x0 x2 x3 x4 h → G w E 13 17 [(0, rv w.2.2.2 x0), (2, Value.int x2), (3, Value.int x3), (4, Value.int x4)] [] sh h 0 0) (hL41 : ∀ (x0 : Nat) (x2 : Int32) (x3 : Int32) (x4 : Int32) (h : Hp), L41 x0 x2 x3 x4 h → G w E 13 41 [(0, rv w.2.2.2 x0), (2, Value.int x2), (3, Value.int x3), (4, Value.int x4)] [] sh h 0 0) (hL80 : ∀ (x0 : Nat) (x2 : Int32) (x3 : Int32) (x4 : Int32) (x5 : Int32) (x6 : Int32) (h : Hp), L80 x0 x2 x3 x4 x5 x6 h → G w E 13 80 [(0, rv w.2.2.2 x0), (2, Value.int x2), (3, Value.int x3), (4, Value.int x4), (5, Value.int x5), (6, Value.int x6)] [] sh h 0 0) (hL127 : ∀ (x0 : Nat) (x2 : Int32) (x3 : Int32) (x4 : Int32) (x5 : Int32) (x6 : Int32) (x7 : Int32) (x8 : Int32) (x9 : Int32) (x10 : Int32) (x11 : Int32) (h : Hp), L127 x0 x2 x3 x4 x5 x6 x7 x8 x9 x10 x11 h → G w E 13 127 [(0, rv w.2.2.2 x0), (2, Value.int x2), (3, Value.int x3), (4, Value.int x4), (5, Value.int x5), (6, Value.int x6), (7, Value.int x7), (8, Value.int x8), (9, Value.int x9), (10, Value.int x10), (11, Value.int x11)] [] sh h 0 0) (hL278 : ∀ (x0 : Nat) (x2 : Int32) (x3 : Int32) (x4 : Int32) (x5 : Int32) (x6 : Int32) (x7 : Int32) (x8 : Int32) (x10 : Int32) (x12 : Int32) (h : Hp), L278 x0 x2 x3 x4 x5 x6 x7 x8 x10 x12 h → G w E 13 278 [(0, rv w.2.2.2 x0), (2, Value.int x2), (3, Value.int x3), (4, Value.int x4), (5, Value.int x5), (6, Value.int x6), (7, Value.int x7), (8, Value.int x8), (10, Value.int x10), (12, Value.int x12)] [] sh h 0 0) (hV : V_X12_findModes_233 w sh x0 x2 x3 x4 x5 x6 x7 x8 x9 x10 h L17 L41 L80 L127 L278 RET) : G w E 13 233 [(0, rv w.2.2.2 x0), (2, Value.int x2), (3, Value.int x3), (4, Value.int x4), (5, Value.int x5), (6, Value.int x6), (7, Value.int x7), (8, Value.int x8), (9, Value.int x9), (10, Value.int x10)] [] sh h 0 0 := by
  unfold V_X12_findModes_233 at hV
  refine g_iconst (pc := 233) (v := (0 : Int32)) X dX12_findModes_233 (by decide) ?_
  exact W_X12_findModes_234 X Tt hR hL17 hL41 hL80 hL127 hL278 hV
def V_X12_findModes_195 (w : Wd) (sh : List Sh) (x0 : Nat) (x2 : Int32) (x3 : Int32) (x4 : Int32) (x5 : Int32) (x6 : Int32) (x7 : Int32) (x8 : Int32) (x9 : Int32) (x10 : Int32) (x11 : Int32) (h : Hp) (L17 : Nat → Int32 → Int32 → Int32 → Hp → Prop) (L41 : Nat → Int32 → Int32 → Int32 → Hp → Prop) (L80 : Nat → Int32 → Int32 → Int32 → Int32 → Int32 → Hp → Prop) (L127 : Nat → Int32 → Int32 → Int32 → Int32 → Int32 → Int32 → Int32 → Int32 → Int32 → Int32 → Hp → Prop) (L278 : Nat → Int32 → Int32 → Int32 → Int32 → Int32 → Int32 → Int32 → Int32 → Int32 → Hp → Prop) (RET : Hp → Prop) : Prop :=
  ∀ y1 : Int32, y1 = x11 + (1 : Int32) → (L127 x0 x2 x3 x4 x5 x6 x7 x8 x9 x10 y1 h)
set_option maxRecDepth 20000 in
set_option maxHeartbeats 4000000 in
theorem W_X12_findModes_195 {w : Wd} {E : GE} {sh : List Sh} {x0 : Nat} {x2 : Int32} {x3 : Int32} {x4 : Int32} {x5 : Int32} {x6 : Int32} {x7 : Int32} {x8 : Int32} {x9 : Int32} {x10 : Int32} {x11 : Int32} {h : Hp} {L17 : Nat → Int32 → Int32 → Int32 → Hp → Prop} {L41 : Nat → Int32 → Int32 → Int32 → Hp → Prop} {L80 : Nat → Int32 → Int32 → Int32 → Int32 → Int32 → Hp → Prop} {L127 : Nat → Int32 → Int32 → Int32 → Int32 → Int32 → Int32 → Int32 → Int32 → Int32 → Int32 → Hp → Prop} {L278 : Nat → Int32 → Int32 → Int32 → Int32 → Int32 → Int32 → Int32 → Int32 → Int32 → Hp → Prop} {RET : Hp → Prop} (X : Cx w E cX12_findModes 13 RX12) (Tt : Rt w E none sh.length 0 0 (fun q sh9 h9 => q = none ∧ sh9 = sh ∧ RET h9)) (hR : gR E = { frames := 1, cells := 0, slots := 0, locals := 22 }) (hL17 : ∀ (x0 : Nat) (x2 : Int32) (x3 : Int32) (x4 : Int32) (h : Hp), L17 x0 x2 x3 x4 h → G w E 13 17 [(0, rv w.2.2.2 x0), (2, Value.int x2), (3, Value.int x3), (4, Value.int x4)] [] sh h 0 0) (hL41 : ∀ (x0 : Nat) (x2 : Int32) (x3 : Int32) (x4 : Int32) (h : Hp), L41 x0 x2 x3 x4 h → G w E 13 41 [(0, rv w.2.2.2 x0), (2, Value.int x2), (3, Value.int x3), (4, Value.int x4)] [] sh h 0 0) (hL80 : ∀ (x0 : Nat) (x2 : Int32) (x3 : Int32) (x4 : Int32) (x5 : Int32) (x6 : Int32) (h : Hp), L80 x0 x2 x3 x4 x5 x6 h → G w E 13 80 [(0, rv w.2.2.2 x0), (2, Value.int x2), (3, Value.int x3), (4, Value.int x4), (5, Value.int x5), (6, Value.int x6)] [] sh h 0 0) (hL127 : ∀ (x0 : Nat) (x2 : Int32) (x3 : Int32) (x4 : Int32) (x5 : Int32) (x6 : Int32) (x7 : Int32) (x8 : Int32) (x9 : Int32) (x10 : Int32) (x11 : Int32) (h : Hp), L127 x0 x2 x3 x4 x5 x6 x7 x8 x9 x10 x11 h → G w E 13 127 [(0, rv w.2.2.2 x0), (2, Value.int x2), (3, Value.int x3), (4, Value.int x4), (5, Value.int x5), (6, Value.int x6), (7, Value.int x7), (8, Value.int x8), (9, Value.int x9), (10, Value.int x10), (11, Value.int x11)] [] sh h 0 0) (hL278 : ∀ (x0 : Nat) (x2 : Int32) (x3 : Int32) (x4 : Int32) (x5 : Int32) (x6 : Int32) (x7 : Int32) (x8 : Int32) (x10 : Int32) (x12 : Int32) (h : Hp), L278 x0 x2 x3 x4 x5 x6 x7 x8 x10 x12 h → G w E 13 278 [(0, rv w.2.2.2 x0), (2, Value.int x2), (3, Value.int x3), (4, Value.int x4), (5, Value.int x5), (6, Value.int x6), (7, Value.int x7), (8, Value.int x8), (10, Value.int x10), (12, Value.int x12)] [] sh h 0 0) (hV : V_X12_findModes_195 w sh x0 x2 x3 x4 x5 x6 x7 x8 x9 x10 x11 h L17 L41 L80 L127 L278 RET) : G w E 13 195 [(0, rv w.2.2.2 x0), (2, Value.int x2), (3, Value.int x3), (4, Value.int x4), (5, Value.int x5), (6, Value.int x6), (7, Value.int x7), (8, Value.int x8), (9, Value.int x9), (10, Value.int x10), (11, Value.int x11)] [] sh h 0 0 := by
  unfold V_X12_findModes_195 at hV
  refine g_iinc (pc := 195) X 10 (v := (1 : Int32)) (rest := [(0, rv w.2.2.2 x0), (2, Value.int x2), (3, Value.int x3), (4, Value.int x4), (5, Value.int x5), (6, Value.int x6), (7, Value.int x7), (8, Value.int x8), (9, Value.int x9), (10, Value.int x10)]) rfl (by decide) rfl (by decide) dX12_findModes_195 (fun y1 e2 => ?_)
  have hV := hV y1 e2
  refine g_goto (pc := 198) X 127 dX12_findModes_198 (by decide) ?_
  refine g_lv [1, 2, 3, 4, 5, 6, 7, 8, 9, 10, 0] rfl ?_
  exact hL127 x0 x2 x3 x4 x5 x6 x7 x8 x9 x10 y1 h hV
def V_X12_findModes_161 (w : Wd) (sh : List Sh) (x0 : Nat) (x2 : Int32) (x3 : Int32) (x4 : Int32) (x5 : Int32) (x6 : Int32) (x7 : Int32) (x8 : Int32) (x9 : Int32) (x10 : Int32) (x11 : Int32) (s0 : Int32) (h : Hp) (L17 : Nat → Int32 → Int32 → Int32 → Hp → Prop) (L41 : Nat → Int32 → Int32 → Int32 → Hp → Prop) (L80 : Nat → Int32 → Int32 → Int32 → Int32 → Int32 → Hp → Prop) (L127 : Nat → Int32 → Int32 → Int32 → Int32 → Int32 → Int32 → Int32 → Int32 → Int32 → Int32 → Hp → Prop) (L278 : Nat → Int32 → Int32 → Int32 → Int32 → Int32 → Int32 → Int32 → Int32 → Int32 → Hp → Prop) (RET : Hp → Prop) : Prop :=
  ∀ y1 : Int32, y1 = s0 → (((y1 < 0) → (V_X12_findModes_195 w sh x0 x2 x3 x4 x5 x6 x7 x8 x9 x10 x11 h L17 L41 L80 L127 L278 RET)) ∧ ((¬ y1 < 0) → (∃ P4 : Int32 → Hp → Prop, C_X12_bigSize w sh (y1.toInt64) h P4 ∧ (∀ (v8 : Int32) (h7 : Hp), P4 v8 h7 → (((x9 ≤ v8) → (V_X12_findModes_195 w sh x0 x2 x3 x4 x5 x6 x7 x8 x9 x10 x11 h7 L17 L41 L80 L127 L278 RET)) ∧ ((¬ x9 ≤ v8) → (∃ P10 : Int32 → Hp → Prop, C_X12_bigSize w sh (y1.toInt64) h7 P10 ∧ (∀ (v14 : Int32) (h13 : Hp), P10 v14 h13 → (∀ y15 : Int32, y15 = v14 → (∀ y17 : Int32, y17 = x11 → (∀ y19 : Int32, y19 = y1 → (V_X12_findModes_195 w sh x0 x2 x3 x4 x5 x6 x7 y17 y15 y19 x11 h13 L17 L41 L80 L127 L278 RET))))))))))))
set_option maxRecDepth 20000 in
set_option maxHeartbeats 4000000 in
theorem W_X12_findModes_161 {w : Wd} {E : GE} {sh : List Sh} {x0 : Nat} {x2 : Int32} {x3 : Int32} {x4 : Int32} {x5 : Int32} {x6 : Int32} {x7 : Int32} {x8 : Int32} {x9 : Int32} {x10 : Int32} {x11 : Int32} {s0 : Int32} {h : Hp} {L17 : Nat → Int32 → Int32 → Int32 → Hp → Prop} {L41 : Nat → Int32 → Int32 → Int32 → Hp → Prop} {L80 : Nat → Int32 → Int32 → Int32 → Int32 → Int32 → Hp → Prop} {L127 : Nat → Int32 → Int32 → Int32 → Int32 → Int32 → Int32 → Int32 → Int32 → Int32 → Int32 → Hp → Prop} {L278 : Nat → Int32 → Int32 → Int32 → Int32 → Int32 → Int32 → Int32 → Int32 → Int32 → Hp → Prop} {RET : Hp → Prop} (X : Cx w E cX12_findModes 13 RX12) (Tt : Rt w E none sh.length 0 0 (fun q sh9 h9 => q = none ∧ sh9 = sh ∧ RET h9)) (hR : gR E = { frames := 1, cells := 0, slots := 0, locals := 22 }) (hL17 : ∀ (x0 : Nat) (x2 : Int32) (x3 : Int32) (x4 : Int32) (h : Hp), L17 x0 x2 x3 x4 h → G w E 13 17 [(0, rv w.2.2.2 x0), (2, Value.int x2), (3, Value.int x3), (4, Value.int x4)] [] sh h 0 0) (hL41 : ∀ (x0 : Nat) (x2 : Int32) (x3 : Int32) (x4 : Int32) (h : Hp), L41 x0 x2 x3 x4 h → G w E 13 41 [(0, rv w.2.2.2 x0), (2, Value.int x2), (3, Value.int x3), (4, Value.int x4)] [] sh h 0 0) (hL80 : ∀ (x0 : Nat) (x2 : Int32) (x3 : Int32) (x4 : Int32) (x5 : Int32) (x6 : Int32) (h : Hp), L80 x0 x2 x3 x4 x5 x6 h → G w E 13 80 [(0, rv w.2.2.2 x0), (2, Value.int x2), (3, Value.int x3), (4, Value.int x4), (5, Value.int x5), (6, Value.int x6)] [] sh h 0 0) (hL127 : ∀ (x0 : Nat) (x2 : Int32) (x3 : Int32) (x4 : Int32) (x5 : Int32) (x6 : Int32) (x7 : Int32) (x8 : Int32) (x9 : Int32) (x10 : Int32) (x11 : Int32) (h : Hp), L127 x0 x2 x3 x4 x5 x6 x7 x8 x9 x10 x11 h → G w E 13 127 [(0, rv w.2.2.2 x0), (2, Value.int x2), (3, Value.int x3), (4, Value.int x4), (5, Value.int x5), (6, Value.int x6), (7, Value.int x7), (8, Value.int x8), (9, Value.int x9), (10, Value.int x10), (11, Value.int x11)] [] sh h 0 0) (hL278 : ∀ (x0 : Nat) (x2 : Int32) (x3 : Int32) (x4 : Int32) (x5 : Int32) (x6 : Int32) (x7 : Int32) (x8 : Int32) (x10 : Int32) (x12 : Int32) (h : Hp), L278 x0 x2 x3 x4 x5 x6 x7 x8 x10 x12 h → G w E 13 278 [(0, rv w.2.2.2 x0), (2, Value.int x2), (3, Value.int x3), (4, Value.int x4), (5, Value.int x5), (6, Value.int x6), (7, Value.int x7), (8, Value.int x8), (10, Value.int x10), (12, Value.int x12)] [] sh h 0 0) (hV : V_X12_findModes_161 w sh x0 x2 x3 x4 x5 x6 x7 x8 x9 x10 x11 s0 h L17 L41 L80 L127 L278 RET) : G w E 13 161 [(0, rv w.2.2.2 x0), (2, Value.int x2), (3, Value.int x3), (4, Value.int x4), (5, Value.int x5), (6, Value.int x6), (7, Value.int x7), (8, Value.int x8), (9, Value.int x9), (10, Value.int x10), (11, Value.int x11)] [Value.int s0] sh h 0 0 := by
  unfold V_X12_findModes_161 at hV
  refine g_istore (pc := 161) X (i := 12) (rest := [(0, rv w.2.2.2 x0), (2, Value.int x2), (3, Value.int x3), (4, Value.int x4), (5, Value.int x5), (6, Value.int x6), (7, Value.int x7), (8, Value.int x8), (9, Value.int x9), (10, Value.int x10), (11, Value.int x11)]) (by decide) rfl dX12_findModes_161 (fun y1 e2 => ?_)
  have hV := hV y1 e2
  refine g_iload (pc := 163) X 0 rfl dX12_findModes_163 ?_
  refine g_if_lt (pc := 165) X 195 dX12_findModes_165 (by decide) (fun c3 => ?_) (fun c3 => ?_)
  · have hV := hV.1 c3
    refine g_lv [1, 2, 3, 4, 5, 6, 7, 8, 9, 10, 11] rfl ?_
    exact W_X12_findModes_195 X Tt hR hL17 hL41 hL80 hL127 hL278 hV
  · have hV := hV.2 c3
    refine g_iload (pc := 168) X 0 rfl dX12_findModes_168 ?_
    refine g_i2l (pc := 170) X dX12_findModes_170 ?_
    obtain ⟨P4, t5, hV⟩ := hV
    refine g_cSI (pc := 171) X (As := [Value.long (y1.toInt64)]) ml_X12_267 t5 (by rw [hR]; exact ⟨by decide, by decide, by decide, by decide⟩) rfl rfl (Nat.zero_le _) dX12_findModes_171 (fun v8 h7 p6 => ?_)
    have hV := hV v8 h7 p6
    refine g_iload (pc := 174) X 9 rfl dX12_findModes_174 ?_
    refine g_icmp_ge (pc := 176) X 195 dX12_findModes_176 (by decide) (fun c9 => ?_) (fun c9 => ?_)
    · have hV := hV.1 c9
      refine g_lv [1, 2, 3, 4, 5, 6, 7, 8, 9, 10, 11] rfl ?_
      exact W_X12_findModes_195 X Tt hR hL17 hL41 hL80 hL127 hL278 hV
    · have hV := hV.2 c9
      refine g_iload (pc := 179) X 0 rfl dX12_findModes_179 ?_
      refine g_i2l (pc := 181) X dX12_findModes_181 ?_
      obtain ⟨P10, t11, hV⟩ := hV
      refine g_cSI (pc := 182) X (As := [Value.long (y1.toInt64)]) ml_X12_267 t11 (by rw [hR]; exact ⟨by decide, by decide, by decide, by decide⟩) rfl rfl (Nat.zero_le _) dX12_findModes_182 (fun v14 h13 p12 => ?_)
      have hV := hV v14 h13 p12
      refine g_istore (pc := 185) X (i := 9) (rest := [(12, Value.int y1), (0, rv w.2.2.2 x0), (2, Value.int x2), (3, Value.int x3), (4, Value.int x4), (5, Value.int x5), (6, Value.int x6), (7, Value.int x7), (8, Value.int x8), (10, Value.int x10), (11, Value.int x11)]) (by decide) rfl dX12_findModes_185 (fun y15 e16 => ?_)
      have hV := hV y15 e16
      refine g_iload (pc := 187) X 11 rfl dX12_findModes_187 ?_
      refine g_istore (pc := 189) X (i := 8) (rest := [(9, Value.int y15), (12, Value.int y1), (0, rv w.2.2.2 x0), (2, Value.int x2), (3, Value.int x3), (4, Value.int x4), (5, Value.int x5), (6, Value.int x6), (7, Value.int x7), (10, Value.int x10), (11, Value.int x11)]) (by decide) rfl dX12_findModes_189 (fun y17 e18 => ?_)
      have hV := hV y17 e18
      refine g_iload (pc := 191) X 2 rfl dX12_findModes_191 ?_
      refine g_istore (pc := 193) X (i := 10) (rest := [(8, Value.int y17), (9, Value.int y15), (12, Value.int y1), (0, rv w.2.2.2 x0), (2, Value.int x2), (3, Value.int x3), (4, Value.int x4), (5, Value.int x5), (6, Value.int x6), (7, Value.int x7), (11, Value.int x11)]) (by decide) rfl dX12_findModes_193 (fun y19 e20 => ?_)
      have hV := hV y19 e20
      refine g_lv [4, 5, 6, 7, 8, 9, 10, 1, 2, 0, 11] rfl ?_
      exact W_X12_findModes_195 X Tt hR hL17 hL41 hL80 hL127 hL278 hV
def V_X12_findModes_127 (w : Wd) (sh : List Sh) (x0 : Nat) (x2 : Int32) (x3 : Int32) (x4 : Int32) (x5 : Int32) (x6 : Int32) (x7 : Int32) (x8 : Int32) (x9 : Int32) (x10 : Int32) (x11 : Int32) (h : Hp) (L17 : Nat → Int32 → Int32 → Int32 → Hp → Prop) (L41 : Nat → Int32 → Int32 → Int32 → Hp → Prop) (L80 : Nat → Int32 → Int32 → Int32 → Int32 → Int32 → Hp → Prop) (L127 : Nat → Int32 → Int32 → Int32 → Int32 → Int32 → Int32 → Int32 → Int32 → Int32 → Int32 → Hp → Prop) (L278 : Nat → Int32 → Int32 → Int32 → Int32 → Int32 → Int32 → Int32 → Int32 → Int32 → Hp → Prop) (RET : Hp → Prop) : Prop :=
  ((((2 : Int32) + x2) ≤ x11) → (((x3 ≤ 0) → (V_X12_findModes_233 w sh x0 x2 x3 x4 x5 x6 x7 x8 x9 x10 h L17 L41 L80 L127 L278 RET)) ∧ ((¬ x3 ≤ 0) → (shAt sh x0 = some (.inr 12) ∧ (¬ ((256 : Int32) * x3) = 0 ∧ (∃ n6 : Nat, shAt sh (h.2.1 x0 57) = some (.inl (1, n6)) ∧ (vp_in (x7 - x7 / ((256 : Int32) * x3) * ((256 : Int32) * x3)) n6 ∧ (((¬ (h.1 (h.2.1 x0 57) (x7 - x7 / ((256 : Int32) * x3) * ((256 : Int32) * x3)).toNatClampNeg) = x7) → (V_X12_findModes_233 w sh x0 x2 x3 x4 x5 x6 x7 x8 x9 x10 h L17 L41 L80 L127 L278 RET)) ∧ (((h.1 (h.2.1 x0 57) (x7 - x7 / ((256 : Int32) * x3) * ((256 : Int32) * x3)).toNatClampNeg) = x7) → (((x9 ≤ (1 : Int32)) → (V_X12_findModes_233 w sh x0 x2 x3 x4 x5 x6 x7 x8 x9 x10 h L17 L41 L80 L127 L278 RET)) ∧ ((¬ x9 ≤ (1 : Int32)) → (V_X12_findModes_234 w sh x0 x2 x3 x4 x5 x6 x7 x8 x9 x10 (1 : Int32) h L17 L41 L80 L127 L278 RET)))))))))))) ∧ ((¬ ((2 : Int32) + x2) ≤ x11) → (((¬ x11 = (1 : Int32)) → (shAt sh x0 = some (.inr 12) ∧ (∃ n13 : Nat, shAt sh (h.2.1 x0 56) = some (.inl (1, n13)) ∧ (vp_in (x11 - (2 : Int32)) n13 ∧ (V_X12_findModes_161 w sh x0 x2 x3 x4 x5 x6 x7 x8 x9 x10 x11 (x7 - (h.1 (h.2.1 x0 56) (x11 - (2 : Int32)).toNatClampNeg)) h L17 L41 L80 L127 L278 RET))))) ∧ ((x11 = (1 : Int32)) → (V_X12_findModes_161 w sh x0 x2 x3 x4 x5 x6 x7 x8 x9 x10 x11 (x5 - x7) h L17 L41 L80 L127 L278 RET))))
set_option maxRecDepth 20000 in
set_option maxHeartbeats 4000000 in
theorem W_X12_findModes_127 {w : Wd} {E : GE} {sh : List Sh} {x0 : Nat} {x2 : Int32} {x3 : Int32} {x4 : Int32} {x5 : Int32} {x6 : Int32} {x7 : Int32} {x8 : Int32} {x9 : Int32} {x10 : Int32} {x11 : Int32} {h : Hp} {L17 : Nat → Int32 → Int32 → Int32 → Hp → Prop} {L41 : Nat → Int32 → Int32 → Int32 → Hp → Prop} {L80 : Nat → Int32 → Int32 → Int32 → Int32 → Int32 → Hp → Prop} {L127 : Nat → Int32 → Int32 → Int32 → Int32 → Int32 → Int32 → Int32 → Int32 → Int32 → Int32 → Hp → Prop} {L278 : Nat → Int32 → Int32 → Int32 → Int32 → Int32 → Int32 → Int32 → Int32 → Int32 → Hp → Prop} {RET : Hp → Prop} (X : Cx w E cX12_findModes 13 RX12) (Tt : Rt w E none sh.length 0 0 (fun q sh9 h9 => q = none ∧ sh9 = sh ∧ RET h9)) (hR : gR E = { frames := 1, cells := 0, slots := 0, locals := 22 }) (hL17 : ∀ (x0 : Nat) (x2 : Int32) (x3 : Int32) (x4 : Int32) (h : Hp), L17 x0 x2 x3 x4 h → G w E 13 17 [(0, rv w.2.2.2 x0), (2, Value.int x2), (3, Value.int x3), (4, Value.int x4)] [] sh h 0 0) (hL41 : ∀ (x0 : Nat) (x2 : Int32) (x3 : Int32) (x4 : Int32) (h : Hp), L41 x0 x2 x3 x4 h → G w E 13 41 [(0, rv w.2.2.2 x0), (2, Value.int x2), (3, Value.int x3), (4, Value.int x4)] [] sh h 0 0) (hL80 : ∀ (x0 : Nat) (x2 : Int32) (x3 : Int32) (x4 : Int32) (x5 : Int32) (x6 : Int32) (h : Hp), L80 x0 x2 x3 x4 x5 x6 h → G w E 13 80 [(0, rv w.2.2.2 x0), (2, Value.int x2), (3, Value.int x3), (4, Value.int x4), (5, Value.int x5), (6, Value.int x6)] [] sh h 0 0) (hL127 : ∀ (x0 : Nat) (x2 : Int32) (x3 : Int32) (x4 : Int32) (x5 : Int32) (x6 : Int32) (x7 : Int32) (x8 : Int32) (x9 : Int32) (x10 : Int32) (x11 : Int32) (h : Hp), L127 x0 x2 x3 x4 x5 x6 x7 x8 x9 x10 x11 h → G w E 13 127 [(0, rv w.2.2.2 x0), (2, Value.int x2), (3, Value.int x3), (4, Value.int x4), (5, Value.int x5), (6, Value.int x6), (7, Value.int x7), (8, Value.int x8), (9, Value.int x9), (10, Value.int x10), (11, Value.int x11)] [] sh h 0 0) (hL278 : ∀ (x0 : Nat) (x2 : Int32) (x3 : Int32) (x4 : Int32) (x5 : Int32) (x6 : Int32) (x7 : Int32) (x8 : Int32) (x10 : Int32) (x12 : Int32) (h : Hp), L278 x0 x2 x3 x4 x5 x6 x7 x8 x10 x12 h → G w E 13 278 [(0, rv w.2.2.2 x0), (2, Value.int x2), (3, Value.int x3), (4, Value.int x4), (5, Value.int x5), (6, Value.int x6), (7, Value.int x7), (8, Value.int x8), (10, Value.int x10), (12, Value.int x12)] [] sh h 0 0) (hV : V_X12_findModes_127 w sh x0 x2 x3 x4 x5 x6 x7 x8 x9 x10 x11 h L17 L41 L80 L127 L278 RET) : G w E 13 127 [(0, rv w.2.2.2 x0), (2, Value.int x2), (3, Value.int x3), (4, Value.int x4), (5, Value.int x5), (6, Value.int x6), (7, Value.int x7), (8, Value.int x8), (9, Value.int x9), (10, Value.int x10), (11, Value.int x11)] [] sh h 0 0 := by
  unfold V_X12_findModes_127 at hV
  refine g_iload (pc := 127) X 10 rfl dX12_findModes_127 ?_
  refine g_iconst (pc := 129) (v := (2 : Int32)) X dX12_findModes_129 (by decide) ?_
  refine g_iload_n (pc := 130) X 1 rfl rfl dX12_findModes_130 ?_
  refine g_iadd (pc := 131) X dX12_findModes_131 ?_
  refine g_icmp_ge (pc := 132) X 201 dX12_findModes_132 (by decide) (fun c1 => ?_) (fun c1 => ?_)
  · have hV := hV.1 c1
    refine g_iload_n (pc := 201) X 2 rfl rfl dX12_findModes_201 ?_
    refine g_if_le (pc := 202) X 233 dX12_findModes_202 (by decide) (fun c2 => ?_) (fun c2 => ?_)
    · have hV := hV.1 c2
      refine g_lv [0, 1, 2, 3, 4, 5, 6, 7, 8, 9] rfl ?_
      exact W_X12_findModes_233 X Tt hR hL17 hL41 hL80 hL127 hL278 hV
    · have hV := hV.2 c2
      refine g_aload_n (pc := 205) X 0 rfl rfl dX12_findModes_205 ?_
      obtain ⟨q3, hV⟩ := hV
      refine g_getR (pc := 206) X fl_X12_104 q3 dX12_findModes_206 ?_
      refine g_iload (pc := 209) X 6 rfl dX12_findModes_209 ?_
      refine g_sipush (pc := 211) (v := (256 : Int32)) X dX12_findModes_211 (by decide) ?_
      refine g_iload_n (pc := 214) X 2 rfl rfl dX12_findModes_214 ?_
      refine g_imul (pc := 215) X dX12_findModes_215 ?_
      obtain ⟨q4, hV⟩ := hV
      refine g_irem (pc := 216) X dX12_findModes_216 q4 ?_
      obtain ⟨n6, q5, hV⟩ := hV
      obtain ⟨q7, hV⟩ := hV
      refine g_iald (pc := 217) X q5 q7 dX12_findModes_217 ?_
      refine g_iload (pc := 218) X 6 rfl dX12_findModes_218 ?_
      refine g_icmp_ne (pc := 220) X 233 dX12_findModes_220 (by decide) (fun c8 => ?_) (fun c8 => ?_)
      · have hV := hV.1 c8
        refine g_lv [0, 1, 2, 3, 4, 5, 6, 7, 8, 9] rfl ?_
        exact W_X12_findModes_233 X Tt hR hL17 hL41 hL80 hL127 hL278 hV
      · have hV := hV.2 c8
        refine g_iconst (pc := 223) (v := (1 : Int32)) X dX12_findModes_223 (by decide) ?_
        refine g_iload (pc := 224) X 8 rfl dX12_findModes_224 ?_
        refine g_icmp_ge (pc := 226) X 233 dX12_findModes_226 (by decide) (fun c9 => ?_) (fun c9 => ?_)
        · have hV := hV.1 c9
          refine g_lv [0, 1, 2, 3, 4, 5, 6, 7, 8, 9] rfl ?_
          exact W_X12_findModes_233 X Tt hR hL17 hL41 hL80 hL127 hL278 hV
        · have hV := hV.2 c9
          refine g_iconst (pc := 229) (v := (1 : Int32)) X dX12_findModes_229 (by decide) ?_
          refine g_goto (pc := 230) X 234 dX12_findModes_230 (by decide) ?_
          refine g_lv [0, 1, 2, 3, 4, 5, 6, 7, 8, 9] rfl ?_
          exact W_X12_findModes_234 X Tt hR hL17 hL41 hL80 hL127 hL278 hV
  · have hV := hV.2 c1
    refine g_iload (pc := 135) X 10 rfl dX12_findModes_135 ?_
    refine g_iconst (pc := 137) (v := (1 : Int32)) X dX12_findModes_137 (by decide) ?_
    refine g_icmp_ne (pc := 138) X 149 dX12_findModes_138 (by decide) (fun c10 => ?_) (fun c10 => ?_)
    · have hV := hV.1 c10
      refine g_iload (pc := 149) X 6 rfl dX12_findModes_149 ?_
      refine g_aload_n (pc := 151) X 0 rfl rfl dX12_findModes_151 ?_
      obtain ⟨q11, hV⟩ := hV
      refine g_getR (pc := 152) X fl_X12_101 q11 dX12_findModes_152 ?_
      refine g_iload (pc := 155) X 10 rfl dX12_findModes_155 ?_
      refine g_iconst (pc := 157) (v := (2 : Int32)) X dX12_findModes_157 (by decide) ?_
      refine g_isub (pc := 158) X dX12_findModes_158 ?_
      obtain ⟨n13, q12, hV⟩ := hV
      obtain ⟨q14, hV⟩ := hV
      refine g_iald (pc := 159) X q12 q14 dX12_findModes_159 ?_
      refine g_isub (pc := 160) X dX12_findModes_160 ?_
      exact W_X12_findModes_161 X Tt hR hL17 hL41 hL80 hL127 hL278 hV
    · have hV := hV.2 c10
      refine g_iload (pc := 141) X 4 rfl dX12_findModes_141 ?_
      refine g_iload (pc := 143) X 6 rfl dX12_findModes_143 ?_
      refine g_isub (pc := 145) X dX12_findModes_145 ?_
      refine g_goto (pc := 146) X 161 dX12_findModes_146 (by decide) ?_
      exact W_X12_findModes_161 X Tt hR hL17 hL41 hL80 hL127 hL278 hV
def V_X12_findModes_80 (w : Wd) (sh : List Sh) (x0 : Nat) (x2 : Int32) (x3 : Int32) (x4 : Int32) (x5 : Int32) (x6 : Int32) (h : Hp) (L17 : Nat → Int32 → Int32 → Int32 → Hp → Prop) (L41 : Nat → Int32 → Int32 → Int32 → Hp → Prop) (L80 : Nat → Int32 → Int32 → Int32 → Int32 → Int32 → Hp → Prop) (L127 : Nat → Int32 → Int32 → Int32 → Int32 → Int32 → Int32 → Int32 → Int32 → Int32 → Int32 → Hp → Prop) (L278 : Nat → Int32 → Int32 → Int32 → Int32 → Int32 → Int32 → Int32 → Int32 → Int32 → Hp → Prop) (RET : Hp → Prop) : Prop :=
  shAt sh x0 = some (.inr 12) ∧ ((((h.1 x0 51) ≤ x6) → (RET h)) ∧ ((¬ (h.1 x0 51) ≤ x6) → (∃ n4 : Nat, shAt sh (h.2.1 x0 52) = some (.inl (1, n4)) ∧ (vp_in x6 n4 ∧ (((¬ (h.1 (h.2.1 x0 52) x6.toNatClampNeg) = (3 : Int32)) → (V_X12_findModes_366 w sh x0 x2 x3 x4 x5 x6 h L17 L41 L80 L127 L278 RET)) ∧ (((h.1 (h.2.1 x0 52) x6.toNatClampNeg) = (3 : Int32)) → (∃ n8 : Nat, shAt sh (h.2.1 x0 54) = some (.inl (1, n8)) ∧ (vp_in x6 n8 ∧ (∀ y10 : Int32, y10 = (h.1 (h.2.1 x0 54) x6.toNatClampNeg) → (∀ y12 : Int32, y12 = (0 : Int32) → (∃ P14 : Int32 → Hp → Prop, C_X12_bigSize w sh (y10.toInt64) h P14 ∧ (∀ (v18 : Int32) (h17 : Hp), P14 v18 h17 → (∀ y19 : Int32, y19 = v18 → (∀ y21 : Int32, y21 = y10 → (∀ y23 : Int32, y23 = (1 : Int32) → (L127 x0 x2 x3 x4 x5 x6 y10 y12 y19 y21 y23 h17))))))))))))))))
set_option maxRecDepth 20000 in
set_option maxHeartbeats 4000000 in
theorem W_X12_findModes_80 {w : Wd} {E : GE} {sh : List Sh} {x0 : Nat} {x2 : Int32} {x3 : Int32} {x4 : Int32} {x5 : Int32} {x6 : Int32} {h : Hp} {L17 : Nat → Int32 → Int32 → Int32 → Hp → Prop} {L41 : Nat → Int32 → Int32 → Int32 → Hp → Prop} {L80 : Nat → Int32 → Int32 → Int32 → Int32 → Int32 → Hp → Prop} {L127 : Nat → Int32 → Int32 → Int32 → Int32 → Int32 → Int32 → Int32 → Int32 → Int32 → Int32 → Hp → Prop} {L278 : Nat → Int32 → Int32 → Int32 → Int32 → Int32 → Int32 → Int32 → Int32 → Int32 → Hp → Prop} {RET : Hp → Prop} (X : Cx w E cX12_findModes 13 RX12) (Tt : Rt w E none sh.length 0 0 (fun q sh9 h9 => q = none ∧ sh9 = sh ∧ RET h9)) (hR : gR E = { frames := 1, cells := 0, slots := 0, locals := 22 }) (hL17 : ∀ (x0 : Nat) (x2 : Int32) (x3 : Int32) (x4 : Int32) (h : Hp), L17 x0 x2 x3 x4 h → G w E 13 17 [(0, rv w.2.2.2 x0), (2, Value.int x2), (3, Value.int x3), (4, Value.int x4)] [] sh h 0 0) (hL41 : ∀ (x0 : Nat) (x2 : Int32) (x3 : Int32) (x4 : Int32) (h : Hp), L41 x0 x2 x3 x4 h → G w E 13 41 [(0, rv w.2.2.2 x0), (2, Value.int x2), (3, Value.int x3), (4, Value.int x4)] [] sh h 0 0) (hL80 : ∀ (x0 : Nat) (x2 : Int32) (x3 : Int32) (x4 : Int32) (x5 : Int32) (x6 : Int32) (h : Hp), L80 x0 x2 x3 x4 x5 x6 h → G w E 13 80 [(0, rv w.2.2.2 x0), (2, Value.int x2), (3, Value.int x3), (4, Value.int x4), (5, Value.int x5), (6, Value.int x6)] [] sh h 0 0) (hL127 : ∀ (x0 : Nat) (x2 : Int32) (x3 : Int32) (x4 : Int32) (x5 : Int32) (x6 : Int32) (x7 : Int32) (x8 : Int32) (x9 : Int32) (x10 : Int32) (x11 : Int32) (h : Hp), L127 x0 x2 x3 x4 x5 x6 x7 x8 x9 x10 x11 h → G w E 13 127 [(0, rv w.2.2.2 x0), (2, Value.int x2), (3, Value.int x3), (4, Value.int x4), (5, Value.int x5), (6, Value.int x6), (7, Value.int x7), (8, Value.int x8), (9, Value.int x9), (10, Value.int x10), (11, Value.int x11)] [] sh h 0 0) (hL278 : ∀ (x0 : Nat) (x2 : Int32) (x3 : Int32) (x4 : Int32) (x5 : Int32) (x6 : Int32) (x7 : Int32) (x8 : Int32) (x10 : Int32) (x12 : Int32) (h : Hp), L278 x0 x2 x3 x4 x5 x6 x7 x8 x10 x12 h → G w E 13 278 [(0, rv w.2.2.2 x0), (2, Value.int x2), (3, Value.int x3), (4, Value.int x4), (5, Value.int x5), (6, Value.int x6), (7, Value.int x7), (8, Value.int x8), (10, Value.int x10), (12, Value.int x12)] [] sh h 0 0) (hV : V_X12_findModes_80 w sh x0 x2 x3 x4 x5 x6 h L17 L41 L80 L127 L278 RET) : G w E 13 80 [(0, rv w.2.2.2 x0), (2, Value.int x2), (3, Value.int x3), (4, Value.int x4), (5, Value.int x5), (6, Value.int x6)] [] sh h 0 0 := by
  unfold V_X12_findModes_80 at hV
  refine g_iload (pc := 80) X 5 rfl dX12_findModes_80 ?_
  refine g_aload_n (pc := 82) X 0 rfl rfl dX12_findModes_82 ?_
  obtain ⟨q1, hV⟩ := hV
  refine g_getI (pc := 83) X fl_X12_314 q1 dX12_findModes_83 ?_
  refine g_icmp_ge (pc := 86) X 384 dX12_findModes_86 (by decide) (fun c2 => ?_) (fun c2 => ?_)
  · have hV := hV.1 c2
    exact g_vret (pc := 384) X Tt ⟨rfl, rfl, hV⟩ dX12_findModes_384
  · have hV := hV.2 c2
    refine g_aload_n (pc := 89) X 0 rfl rfl dX12_findModes_89 ?_
    refine g_getR (pc := 90) X fl_X12_89 q1 dX12_findModes_90 ?_
    refine g_iload (pc := 93) X 5 rfl dX12_findModes_93 ?_
    obtain ⟨n4, q3, hV⟩ := hV
    obtain ⟨q5, hV⟩ := hV
    refine g_iald (pc := 95) X q3 q5 dX12_findModes_95 ?_
    refine g_iconst (pc := 96) (v := (3 : Int32)) X dX12_findModes_96 (by decide) ?_
    refine g_icmp_ne (pc := 97) X 366 dX12_findModes_97 (by decide) (fun c6 => ?_) (fun c6 => ?_)
    · have hV := hV.1 c6
      exact W_X12_findModes_366 X Tt hR hL17 hL41 hL80 hL127 hL278 hV
    · have hV := hV.2 c6
      refine g_aload_n (pc := 100) X 0 rfl rfl dX12_findModes_100 ?_
      refine g_getR (pc := 101) X fl_X12_95 q1 dX12_findModes_101 ?_
      refine g_iload (pc := 104) X 5 rfl dX12_findModes_104 ?_
      obtain ⟨n8, q7, hV⟩ := hV
      obtain ⟨q9, hV⟩ := hV
      refine g_iald (pc := 106) X q7 q9 dX12_findModes_106 ?_
      refine g_istore (pc := 107) X (i := 7) (rest := [(0, rv w.2.2.2 x0), (2, Value.int x2), (3, Value.int x3), (4, Value.int x4), (5, Value.int x5), (6, Value.int x6)]) (by decide) rfl dX12_findModes_107 (fun y10 e11 => ?_)
      have hV := hV y10 e11
      refine g_iconst (pc := 109) (v := (0 : Int32)) X dX12_findModes_109 (by decide) ?_
      refine g_istore (pc := 110) X (i := 8) (rest := [(7, Value.int y10), (0, rv w.2.2.2 x0), (2, Value.int x2), (3, Value.int x3), (4, Value.int x4), (5, Value.int x5), (6, Value.int x6)]) (by decide) rfl dX12_findModes_110 (fun y12 e13 => ?_)
      have hV := hV y12 e13
      refine g_iload (pc := 112) X 1 rfl dX12_findModes_112 ?_
      refine g_i2l (pc := 114) X dX12_findModes_114 ?_
      obtain ⟨P14, t15, hV⟩ := hV
      refine g_cSI (pc := 115) X (As := [Value.long (y10.toInt64)]) ml_X12_267 t15 (by rw [hR]; exact ⟨by decide, by decide, by decide, by decide⟩) rfl rfl (Nat.zero_le _) dX12_findModes_115 (fun v18 h17 p16 => ?_)
      have hV := hV v18 h17 p16
      refine g_istore (pc := 118) X (i := 9) (rest := [(8, Value.int y12), (7, Value.int y10), (0, rv w.2.2.2 x0), (2, Value.int x2), (3, Value.int x3), (4, Value.int x4), (5, Value.int x5), (6, Value.int x6)]) (by decide) rfl dX12_findModes_118 (fun y19 e20 => ?_)
      have hV := hV y19 e20
      refine g_iload (pc := 120) X 2 rfl dX12_findModes_120 ?_
      refine g_istore (pc := 122) X (i := 10) (rest := [(9, Value.int y19), (8, Value.int y12), (7, Value.int y10), (0, rv w.2.2.2 x0), (2, Value.int x2), (3, Value.int x3), (4, Value.int x4), (5, Value.int x5), (6, Value.int x6)]) (by decide) rfl dX12_findModes_122 (fun y21 e22 => ?_)
      have hV := hV y21 e22
      refine g_iconst (pc := 124) (v := (1 : Int32)) X dX12_findModes_124 (by decide) ?_
      refine g_istore (pc := 125) X (i := 11) (rest := [(10, Value.int y21), (9, Value.int y19), (8, Value.int y12), (7, Value.int y10), (0, rv w.2.2.2 x0), (2, Value.int x2), (3, Value.int x3), (4, Value.int x4), (5, Value.int x5), (6, Value.int x6)]) (by decide) rfl dX12_findModes_125 (fun y23 e24 => ?_)
      have hV := hV y23 e24
      refine g_lv [5, 6, 7, 8, 9, 10, 4, 3, 2, 1, 0] rfl ?_
      exact hL127 x0 x2 x3 x4 x5 x6 y10 y12 y19 y21 y23 h17 hV
def V_X12_findModes_41 (w : Wd) (sh : List Sh) (x0 : Nat) (x2 : Int32) (x3 : Int32) (x4 : Int32) (h : Hp) (L17 : Nat → Int32 → Int32 → Int32 → Hp → Prop) (L41 : Nat → Int32 → Int32 → Int32 → Hp → Prop) (L80 : Nat → Int32 → Int32 → Int32 → Int32 → Int32 → Hp → Prop) (L127 : Nat → Int32 → Int32 → Int32 → Int32 → Int32 → Int32 → Int32 → Int32 → Int32 → Int32 → Hp → Prop) (L278 : Nat → Int32 → Int32 → Int32 → Int32 → Int32 → Int32 → Int32 → Int32 → Int32 → Hp → Prop) (RET : Hp → Prop) : Prop :=
  (((4096 : Int32) ≤ x4) → (∀ y2 : Int32, y2 = (0 : Int32) → (shAt sh x0 = some (.inr 12) ∧ (∀ h5 : Hp, h5 = wI h x0 50 (0 : Int32) → (∀ y7 : Int32, y7 = (h5.1 x0 59) → (∀ y9 : Int32, y9 = (0 : Int32) → (L80 x0 x2 x3 y2 y7 y9 h5))))))) ∧ ((¬ (4096 : Int32) ≤ x4) → (shAt sh x0 = some (.inr 12) ∧ (∃ n13 : Nat, shAt sh (h.2.1 x0 57) = some (.inl (1, n13)) ∧ (vp_in x4 n13 ∧ (∀ h15 : Hp, h15 = wI h (h.2.1 x0 57) x4.toNatClampNeg (0 : Int32) → (∀ y17 : Int32, y17 = x4 + (1 : Int32) → (L41 x0 x2 x3 y17 h15)))))))
set_option maxRecDepth 20000 in
set_option maxHeartbeats 4000000 in
theorem W_X12_findModes_41 {w : Wd} {E : GE} {sh : List Sh} {x0 : Nat} {x2 : Int32} {x3 : Int32} {x4 : Int32} {h : Hp} {L17 : Nat → Int32 → Int32 → Int32 → Hp → Prop} {L41 : Nat → Int32 → Int32 → Int32 → Hp → Prop} {L80 : Nat → Int32 → Int32 → Int32 → Int32 → Int32 → Hp → Prop} {L127 : Nat → Int32 → Int32 → Int32 → Int32 → Int32 → Int32 → Int32 → Int32 → Int32 → Int32 → Hp → Prop} {L278 : Nat → Int32 → Int32 → Int32 → Int32 → Int32 → Int32 → Int32 → Int32 → Int32 → Hp → Prop} {RET : Hp → Prop} (X : Cx w E cX12_findModes 13 RX12) (Tt : Rt w E none sh.length 0 0 (fun q sh9 h9 => q = none ∧ sh9 = sh ∧ RET h9)) (hR : gR E = { frames := 1, cells := 0, slots := 0, locals := 22 }) (hL17 : ∀ (x0 : Nat) (x2 : Int32) (x3 : Int32) (x4 : Int32) (h : Hp), L17 x0 x2 x3 x4 h → G w E 13 17 [(0, rv w.2.2.2 x0), (2, Value.int x2), (3, Value.int x3), (4, Value.int x4)] [] sh h 0 0) (hL41 : ∀ (x0 : Nat) (x2 : Int32) (x3 : Int32) (x4 : Int32) (h : Hp), L41 x0 x2 x3 x4 h → G w E 13 41 [(0, rv w.2.2.2 x0), (2, Value.int x2), (3, Value.int x3), (4, Value.int x4)] [] sh h 0 0) (hL80 : ∀ (x0 : Nat) (x2 : Int32) (x3 : Int32) (x4 : Int32) (x5 : Int32) (x6 : Int32) (h : Hp), L80 x0 x2 x3 x4 x5 x6 h → G w E 13 80 [(0, rv w.2.2.2 x0), (2, Value.int x2), (3, Value.int x3), (4, Value.int x4), (5, Value.int x5), (6, Value.int x6)] [] sh h 0 0) (hL127 : ∀ (x0 : Nat) (x2 : Int32) (x3 : Int32) (x4 : Int32) (x5 : Int32) (x6 : Int32) (x7 : Int32) (x8 : Int32) (x9 : Int32) (x10 : Int32) (x11 : Int32) (h : Hp), L127 x0 x2 x3 x4 x5 x6 x7 x8 x9 x10 x11 h → G w E 13 127 [(0, rv w.2.2.2 x0), (2, Value.int x2), (3, Value.int x3), (4, Value.int x4), (5, Value.int x5), (6, Value.int x6), (7, Value.int x7), (8, Value.int x8), (9, Value.int x9), (10, Value.int x10), (11, Value.int x11)] [] sh h 0 0) (hL278 : ∀ (x0 : Nat) (x2 : Int32) (x3 : Int32) (x4 : Int32) (x5 : Int32) (x6 : Int32) (x7 : Int32) (x8 : Int32) (x10 : Int32) (x12 : Int32) (h : Hp), L278 x0 x2 x3 x4 x5 x6 x7 x8 x10 x12 h → G w E 13 278 [(0, rv w.2.2.2 x0), (2, Value.int x2), (3, Value.int x3), (4, Value.int x4), (5, Value.int x5), (6, Value.int x6), (7, Value.int x7), (8, Value.int x8), (10, Value.int x10), (12, Value.int x12)] [] sh h 0 0) (hV : V_X12_findModes_41 w sh x0 x2 x3 x4 h L17 L41 L80 L127 L278 RET) : G w E 13 41 [(0, rv w.2.2.2 x0), (2, Value.int x2), (3, Value.int x3), (4, Value.int x4)] [] sh h 0 0 := by
  unfold V_X12_findModes_41 at hV
  refine g_iload (pc := 41) X 3 rfl dX12_findModes_41 ?_
  refine g_sipush (pc := 43) (v := (4096 : Int32)) X dX12_findModes_43 (by decide) ?_
  refine g_icmp_ge (pc := 46) X 63 dX12_findModes_46 (by decide) (fun c1 => ?_) (fun c1 => ?_)
  · have hV := hV.1 c1
    refine g_iconst (pc := 63) (v := (0 : Int32)) X dX12_findModes_63 (by decide) ?_
    refine g_istore (pc := 64) X (i := 4) (rest := [(0, rv w.2.2.2 x0), (2, Value.int x2), (3, Value.int x3)]) (by decide) rfl dX12_findModes_64 (fun y2 e3 => ?_)
    have hV := hV y2 e3
    refine g_aload_n (pc := 66) X 1 rfl rfl dX12_findModes_66 ?_
    refine g_iconst (pc := 67) (v := (0 : Int32)) X dX12_findModes_67 (by decide) ?_
    obtain ⟨q4, hV⟩ := hV
    refine g_putI (pc := 68) X fl_X12_311 q4 rfl rfl dX12_findModes_68 (fun h5 e6 => ?_)
    have hV := hV h5 e6
    refine g_aload_n (pc := 71) X 1 rfl rfl dX12_findModes_71 ?_
    refine g_getI (pc := 72) X fl_X12_293 q4 dX12_findModes_72 ?_
    refine g_istore (pc := 75) X (i := 5) (rest := [(4, Value.int y2), (0, rv w.2.2.2 x0), (2, Value.int x2), (3, Value.int x3)]) (by decide) rfl dX12_findModes_75 (fun y7 e8 => ?_)
    have hV := hV y7 e8
    refine g_iconst (pc := 77) (v := (0 : Int32)) X dX12_findModes_77 (by decide) ?_
    refine g_istore (pc := 78) X (i := 6) (rest := [(5, Value.int y7), (4, Value.int y2), (0, rv w.2.2.2 x0), (2, Value.int x2), (3, Value.int x3)]) (by decide) rfl dX12_findModes_78 (fun y9 e10 => ?_)
    have hV := hV y9 e10
    refine g_lv [3, 4, 5, 2, 1, 0] rfl ?_
    exact hL80 x0 x2 x3 y2 y7 y9 h5 hV
  · have hV := hV.2 c1
    refine g_aload_n (pc := 49) X 0 rfl rfl dX12_findModes_49 ?_
    obtain ⟨q11, hV⟩ := hV
    refine g_getR (pc := 50) X fl_X12_104 q11 dX12_findModes_50 ?_
    refine g_iload (pc := 53) X 3 rfl dX12_findModes_53 ?_
    refine g_iconst (pc := 55) (v := (0 : Int32)) X dX12_findModes_55 (by decide) ?_
    obtain ⟨n13, q12, hV⟩ := hV
    obtain ⟨q14, hV⟩ := hV
    refine g_iast (pc := 56) X q12 q14 dX12_findModes_56 (fun h15 e16 => ?_)
    have hV := hV h15 e16
    refine g_iinc (pc := 57) X 3 (v := (1 : Int32)) (rest := [(0, rv w.2.2.2 x0), (2, Value.int x2), (3, Value.int x3)]) rfl (by decide) rfl (by decide) dX12_findModes_57 (fun y17 e18 => ?_)
    have hV := hV y17 e18
    refine g_goto (pc := 60) X 41 dX12_findModes_60 (by decide) ?_
    refine g_lv [1, 2, 3, 0] rfl ?_
    exact hL41 x0 x2 x3 y17 h15 hV
def V_X12_findModes_17 (w : Wd) (sh : List Sh) (x0 : Nat) (x2 : Int32) (x3 : Int32) (x4 : Int32) (h : Hp) (L17 : Nat → Int32 → Int32 → Int32 → Hp → Prop) (L41 : Nat → Int32 → Int32 → Int32 → Hp → Prop) (L80 : Nat → Int32 → Int32 → Int32 → Int32 → Int32 → Hp → Prop) (L127 : Nat → Int32 → Int32 → Int32 → Int32 → Int32 → Int32 → Int32 → Int32 → Int32 → Int32 → Hp → Prop) (L278 : Nat → Int32 → Int32 → Int32 → Int32 → Int32 → Int32 → Int32 → Int32 → Int32 → Hp → Prop) (RET : Hp → Prop) : Prop :=
  (((32 : Int32) ≤ x4) → (∀ y2 : Int32, y2 = (0 : Int32) → (L41 x0 x2 x3 y2 h))) ∧ ((¬ (32 : Int32) ≤ x4) → (shAt sh x0 = some (.inr 12) ∧ (∃ n6 : Nat, shAt sh (h.2.1 x0 56) = some (.inl (1, n6)) ∧ (vp_in x4 n6 ∧ (∀ h8 : Hp, h8 = wI h (h.2.1 x0 56) x4.toNatClampNeg (0 : Int32) → (∀ y10 : Int32, y10 = x4 + (1 : Int32) → (L17 x0 x2 x3 y10 h8)))))))
set_option maxRecDepth 20000 in
set_option maxHeartbeats 4000000 in
theorem W_X12_findModes_17 {w : Wd} {E : GE} {sh : List Sh} {x0 : Nat} {x2 : Int32} {x3 : Int32} {x4 : Int32} {h : Hp} {L17 : Nat → Int32 → Int32 → Int32 → Hp → Prop} {L41 : Nat → Int32 → Int32 → Int32 → Hp → Prop} {L80 : Nat → Int32 → Int32 → Int32 → Int32 → Int32 → Hp → Prop} {L127 : Nat → Int32 → Int32 → Int32 → Int32 → Int32 → Int32 → Int32 → Int32 → Int32 → Int32 → Hp → Prop} {L278 : Nat → Int32 → Int32 → Int32 → Int32 → Int32 → Int32 → Int32 → Int32 → Int32 → Hp → Prop} {RET : Hp → Prop} (X : Cx w E cX12_findModes 13 RX12) (Tt : Rt w E none sh.length 0 0 (fun q sh9 h9 => q = none ∧ sh9 = sh ∧ RET h9)) (hR : gR E = { frames := 1, cells := 0, slots := 0, locals := 22 }) (hL17 : ∀ (x0 : Nat) (x2 : Int32) (x3 : Int32) (x4 : Int32) (h : Hp), L17 x0 x2 x3 x4 h → G w E 13 17 [(0, rv w.2.2.2 x0), (2, Value.int x2), (3, Value.int x3), (4, Value.int x4)] [] sh h 0 0) (hL41 : ∀ (x0 : Nat) (x2 : Int32) (x3 : Int32) (x4 : Int32) (h : Hp), L41 x0 x2 x3 x4 h → G w E 13 41 [(0, rv w.2.2.2 x0), (2, Value.int x2), (3, Value.int x3), (4, Value.int x4)] [] sh h 0 0) (hL80 : ∀ (x0 : Nat) (x2 : Int32) (x3 : Int32) (x4 : Int32) (x5 : Int32) (x6 : Int32) (h : Hp), L80 x0 x2 x3 x4 x5 x6 h → G w E 13 80 [(0, rv w.2.2.2 x0), (2, Value.int x2), (3, Value.int x3), (4, Value.int x4), (5, Value.int x5), (6, Value.int x6)] [] sh h 0 0) (hL127 : ∀ (x0 : Nat) (x2 : Int32) (x3 : Int32) (x4 : Int32) (x5 : Int32) (x6 : Int32) (x7 : Int32) (x8 : Int32) (x9 : Int32) (x10 : Int32) (x11 : Int32) (h : Hp), L127 x0 x2 x3 x4 x5 x6 x7 x8 x9 x10 x11 h → G w E 13 127 [(0, rv w.2.2.2 x0), (2, Value.int x2), (3, Value.int x3), (4, Value.int x4), (5, Value.int x5), (6, Value.int x6), (7, Value.int x7), (8, Value.int x8), (9, Value.int x9), (10, Value.int x10), (11, Value.int x11)] [] sh h 0 0) (hL278 : ∀ (x0 : Nat) (x2 : Int32) (x3 : Int32) (x4 : Int32) (x5 : Int32) (x6 : Int32) (x7 : Int32) (x8 : Int32) (x10 : Int32) (x12 : Int32) (h : Hp), L278 x0 x2 x3 x4 x5 x6 x7 x8 x10 x12 h → G w E 13 278 [(0, rv w.2.2.2 x0), (2, Value.int x2), (3, Value.int x3), (4, Value.int x4), (5, Value.int x5), (6, Value.int x6), (7, Value.int x7), (8, Value.int x8), (10, Value.int x10), (12, Value.int x12)] [] sh h 0 0) (hV : V_X12_findModes_17 w sh x0 x2 x3 x4 h L17 L41 L80 L127 L278 RET) : G w E 13 17 [(0, rv w.2.2.2 x0), (2, Value.int x2), (3, Value.int x3), (4, Value.int x4)] [] sh h 0 0 := by
  unfold V_X12_findModes_17 at hV
  refine g_iload (pc := 17) X 3 rfl dX12_findModes_17 ?_
  refine g_bipush (pc := 19) (v := (32 : Int32)) X dX12_findModes_19 (by decide) ?_
  refine g_icmp_ge (pc := 21) X 38 dX12_findModes_21 (by decide) (fun c1 => ?_) (fun c1 => ?_)
  · have hV := hV.1 c1
    refine g_iconst (pc := 38) (v := (0 : Int32)) X dX12_findModes_38 (by decide) ?_
    refine g_istore (pc := 39) X (i := 4) (rest := [(0, rv w.2.2.2 x0), (2, Value.int x2), (3, Value.int x3)]) (by decide) rfl dX12_findModes_39 (fun y2 e3 => ?_)
    have hV := hV y2 e3
    refine g_lv [1, 2, 3, 0] rfl ?_
    exact hL41 x0 x2 x3 y2 h hV
  · have hV := hV.2 c1
    refine g_aload_n (pc := 24) X 0 rfl rfl dX12_findModes_24 ?_
    obtain ⟨q4, hV⟩ := hV
    refine g_getR (pc := 25) X fl_X12_101 q4 dX12_findModes_25 ?_
    refine g_iload (pc := 28) X 3 rfl dX12_findModes_28 ?_
    refine g_iconst (pc := 30) (v := (0 : Int32)) X dX12_findModes_30 (by decide) ?_
    obtain ⟨n6, q5, hV⟩ := hV
    obtain ⟨q7, hV⟩ := hV
    refine g_iast (pc := 31) X q5 q7 dX12_findModes_31 (fun h8 e9 => ?_)
    have hV := hV h8 e9
    refine g_iinc (pc := 32) X 3 (v := (1 : Int32)) (rest := [(0, rv w.2.2.2 x0), (2, Value.int x2), (3, Value.int x3)]) rfl (by decide) rfl (by decide) dX12_findModes_32 (fun y10 e11 => ?_)
    have hV := hV y10 e11
    refine g_goto (pc := 35) X 17 dX12_findModes_35 (by decide) ?_
    refine g_lv [1, 2, 3, 0] rfl ?_
    exact hL17 x0 x2 x3 y10 h8 hV
def V_X12_findModes_0 (w : Wd) (sh : List Sh) (x0 : Nat) (x1 : Int32) (h : Hp) (L17 : Nat → Int32 → Int32 → Int32 → Hp → Prop) (L41 : Nat → Int32 → Int32 → Int32 → Hp → Prop) (L80 : Nat → Int32 → Int32 → Int32 → Int32 → Int32 → Hp → Prop) (L127 : Nat → Int32 → Int32 → Int32 → Int32 → Int32 → Int32 → Int32 → Int32 → Int32 → Int32 → Hp → Prop) (L278 : Nat → Int32 → Int32 → Int32 → Int32 → Int32 → Int32 → Int32 → Int32 → Int32 → Hp → Prop) (RET : Hp → Prop) : Prop :=
  shAt sh x0 = some (.inr 12) ∧ (∃ n3 : Nat, shAt sh (h.2.1 x0 10) = some (.inl (1, n3)) ∧ (vp_in x1 n3 ∧ (∀ y5 : Int32, y5 = (h.1 (h.2.1 x0 10) x1.toNatClampNeg) → (∃ n8 : Nat, shAt sh (h.2.1 x0 11) = some (.inl (1, n8)) ∧ (vp_in x1 n8 ∧ (∀ y10 : Int32, y10 = (h.1 (h.2.1 x0 11) x1.toNatClampNeg) → (∀ y12 : Int32, y12 = (0 : Int32) → (L17 x0 y5 y10 y12 h))))))))
set_option maxRecDepth 20000 in
set_option maxHeartbeats 4000000 in
theorem W_X12_findModes_0 {w : Wd} {E : GE} {sh : List Sh} {x0 : Nat} {x1 : Int32} {h : Hp} {L17 : Nat → Int32 → Int32 → Int32 → Hp → Prop} {L41 : Nat → Int32 → Int32 → Int32 → Hp → Prop} {L80 : Nat → Int32 → Int32 → Int32 → Int32 → Int32 → Hp → Prop} {L127 : Nat → Int32 → Int32 → Int32 → Int32 → Int32 → Int32 → Int32 → Int32 → Int32 → Int32 → Hp → Prop} {L278 : Nat → Int32 → Int32 → Int32 → Int32 → Int32 → Int32 → Int32 → Int32 → Int32 → Hp → Prop} {RET : Hp → Prop} (X : Cx w E cX12_findModes 13 RX12) (Tt : Rt w E none sh.length 0 0 (fun q sh9 h9 => q = none ∧ sh9 = sh ∧ RET h9)) (hR : gR E = { frames := 1, cells := 0, slots := 0, locals := 22 }) (hL17 : ∀ (x0 : Nat) (x2 : Int32) (x3 : Int32) (x4 : Int32) (h : Hp), L17 x0 x2 x3 x4 h → G w E 13 17 [(0, rv w.2.2.2 x0), (2, Value.int x2), (3, Value.int x3), (4, Value.int x4)] [] sh h 0 0) (hL41 : ∀ (x0 : Nat) (x2 : Int32) (x3 : Int32) (x4 : Int32) (h : Hp), L41 x0 x2 x3 x4 h → G w E 13 41 [(0, rv w.2.2.2 x0), (2, Value.int x2), (3, Value.int x3), (4, Value.int x4)] [] sh h 0 0) (hL80 : ∀ (x0 : Nat) (x2 : Int32) (x3 : Int32) (x4 : Int32) (x5 : Int32) (x6 : Int32) (h : Hp), L80 x0 x2 x3 x4 x5 x6 h → G w E 13 80 [(0, rv w.2.2.2 x0), (2, Value.int x2), (3, Value.int x3), (4, Value.int x4), (5, Value.int x5), (6, Value.int x6)] [] sh h 0 0) (hL127 : ∀ (x0 : Nat) (x2 : Int32) (x3 : Int32) (x4 : Int32) (x5 : Int32) (x6 : Int32) (x7 : Int32) (x8 : Int32) (x9 : Int32) (x10 : Int32) (x11 : Int32) (h : Hp), L127 x0 x2 x3 x4 x5 x6 x7 x8 x9 x10 x11 h → G w E 13 127 [(0, rv w.2.2.2 x0), (2, Value.int x2), (3, Value.int x3), (4, Value.int x4), (5, Value.int x5), (6, Value.int x6), (7, Value.int x7), (8, Value.int x8), (9, Value.int x9), (10, Value.int x10), (11, Value.int x11)] [] sh h 0 0) (hL278 : ∀ (x0 : Nat) (x2 : Int32) (x3 : Int32) (x4 : Int32) (x5 : Int32) (x6 : Int32) (x7 : Int32) (x8 : Int32) (x10 : Int32) (x12 : Int32) (h : Hp), L278 x0 x2 x3 x4 x5 x6 x7 x8 x10 x12 h → G w E 13 278 [(0, rv w.2.2.2 x0), (2, Value.int x2), (3, Value.int x3), (4, Value.int x4), (5, Value.int x5), (6, Value.int x6), (7, Value.int x7), (8, Value.int x8), (10, Value.int x10), (12, Value.int x12)] [] sh h 0 0) (hV : V_X12_findModes_0 w sh x0 x1 h L17 L41 L80 L127 L278 RET) : G w E 13 0 [(0, rv w.2.2.2 x0), (1, Value.int x1)] [] sh h 0 0 := by
  unfold V_X12_findModes_0 at hV
  refine g_aload_n (pc := 0) X 0 rfl rfl dX12_findModes_0 ?_
  obtain ⟨q1, hV⟩ := hV
  refine g_getR (pc := 1) X fl_X12_27 q1 dX12_findModes_1 ?_
  refine g_iload_n (pc := 4) X 1 rfl rfl dX12_findModes_4 ?_
  obtain ⟨n3, q2, hV⟩ := hV
  obtain ⟨q4, hV⟩ := hV
  refine g_iald (pc := 5) X q2 q4 dX12_findModes_5 ?_
  refine g_istore_n (pc := 6) X (i := 2) (rest := [(0, rv w.2.2.2 x0), (1, Value.int x1)]) rfl (by decide) rfl dX12_findModes_6 (fun y5 e6 => ?_)
  have hV := hV y5 e6
  refine g_aload_n (pc := 7) X 1 rfl rfl dX12_findModes_7 ?_
  refine g_getR (pc := 8) X fl_X12_30 q1 dX12_findModes_8 ?_
  refine g_iload_n (pc := 11) X 2 rfl rfl dX12_findModes_11 ?_
  obtain ⟨n8, q7, hV⟩ := hV
  obtain ⟨q9, hV⟩ := hV
  refine g_iald (pc := 12) X q7 q9 dX12_findModes_12 ?_
  refine g_istore_n (pc := 13) X (i := 3) (rest := [(2, Value.int y5), (0, rv w.2.2.2 x0), (1, Value.int x1)]) rfl (by decide) rfl dX12_findModes_13 (fun y10 e11 => ?_)
  have hV := hV y10 e11
  refine g_iconst (pc := 14) (v := (0 : Int32)) X dX12_findModes_14 (by decide) ?_
  refine g_istore (pc := 15) X (i := 4) (rest := [(3, Value.int y10), (2, Value.int y5), (0, rv w.2.2.2 x0), (1, Value.int x1)]) (by decide) rfl dX12_findModes_15 (fun y12 e13 => ?_)
  have hV := hV y12 e13
  refine g_lv [3, 2, 1, 0] rfl ?_
  exact hL17 x0 y5 y10 y12 h hV
def C_X12_findModes (w : Wd) (sh : List Sh) (x0 : Nat) (x1 : Int32) (h : Hp) (RET : Hp → Prop) : Prop := CV w yX12_findModes (.code yX12_findModes cX12_findModes 13 none) 1 22 [rv w.2.2.2 x0, Value.int x1] sh h RET
set_option maxRecDepth 20000 in
theorem K_X12_findModes {w : Wd} {sh : List Sh} {x0 : Nat} {x1 : Int32} {h : Hp} {RET : Hp → Prop} {α : Type} {r : α → α → Prop} (wf : WellFounded r) (I17 : α → Nat → Int32 → Int32 → Int32 → Hp → Prop) (I41 : α → Nat → Int32 → Int32 → Int32 → Hp → Prop) (I80 : α → Nat → Int32 → Int32 → Int32 → Int32 → Int32 → Hp → Prop) (I127 : α → Nat → Int32 → Int32 → Int32 → Int32 → Int32 → Int32 → Int32 → Int32 → Int32 → Int32 → Hp → Prop) (I278 : α → Nat → Int32 → Int32 → Int32 → Int32 → Int32 → Int32 → Int32 → Int32 → Int32 → Hp → Prop) (hE : V_X12_findModes_0 w sh x0 x1 h (fun x0 x2 x3 x4 h => ∃ a, I17 a x0 x2 x3 x4 h) (fun x0 x2 x3 x4 h => ∃ a, I41 a x0 x2 x3 x4 h) (fun x0 x2 x3 x4 x5 x6 h => ∃ a, I80 a x0 x2 x3 x4 x5 x6 h) (fun x0 x2 x3 x4 x5 x6 x7 x8 x9 x10 x11 h => ∃ a, I127 a x0 x2 x3 x4 x5 x6 x7 x8 x9 x10 x11 h) (fun x0 x2 x3 x4 x5 x6 x7 x8 x10 x12 h => ∃ a, I278 a x0 x2 x3 x4 x5 x6 x7 x8 x10 x12 h) RET) (h17 : ∀ (b : α) (x0 : Nat) (x2 : Int32) (x3 : Int32) (x4 : Int32) (h : Hp), I17 b x0 x2 x3 x4 h → V_X12_findModes_17 w sh x0 x2 x3 x4 h (fun x0 x2 x3 x4 h => ∃ a, r a b ∧ I17 a x0 x2 x3 x4 h) (fun x0 x2 x3 x4 h => ∃ a, r a b ∧ I41 a x0 x2 x3 x4 h) (fun x0 x2 x3 x4 x5 x6 h => ∃ a, r a b ∧ I80 a x0 x2 x3 x4 x5 x6 h) (fun x0 x2 x3 x4 x5 x6 x7 x8 x9 x10 x11 h => ∃ a, r a b ∧ I127 a x0 x2 x3 x4 x5 x6 x7 x8 x9 x10 x11 h) (fun x0 x2 x3 x4 x5 x6 x7 x8 x10 x12 h => ∃ a, r a b ∧ I278 a x0 x2 x3 x4 x5 x6 x7 x8 x10 x12 h) RET) (h41 : ∀ (b : α) (x0 : Nat) (x2 : Int32) (x3 : Int32) (x4 : Int32) (h : Hp), I41 b x0 x2 x3 x4 h → V_X12_findModes_41 w sh x0 x2 x3 x4 h (fun x0 x2 x3 x4 h => ∃ a, r a b ∧ I17 a x0 x2 x3 x4 h) (fun x0 x2 x3 x4 h => ∃ a, r a b ∧ I41 a x0 x2 x3 x4 h) (fun x0 x2 x3 x4 x5 x6 h => ∃ a, r a b ∧ I80 a x0 x2 x3 x4 x5 x6 h) (fun x0 x2 x3 x4 x5 x6 x7 x8 x9 x10 x11 h => ∃ a, r a b ∧ I127 a x0 x2 x3 x4 x5 x6 x7 x8 x9 x10 x11 h) (fun x0 x2 x3 x4 x5 x6 x7 x8 x10 x12 h => ∃ a, r a b ∧ I278 a x0 x2 x3 x4 x5 x6 x7 x8 x10 x12 h) RET) (h80 : ∀ (b : α) (x0 : Nat) (x2 : Int32) (x3 : Int32) (x4 : Int32) (x5 : Int32) (x6 : Int32) (h : Hp), I80 b x0 x2 x3 x4 x5 x6 h → V_X12_findModes_80 w sh x0 x2 x3 x4 x5 x6 h (fun x0 x2 x3 x4 h => ∃ a, r a b ∧ I17 a x0 x2 x3 x4 h) (fun x0 x2 x3 x4 h => ∃ a, r a b ∧ I41 a x0 x2 x3 x4 h) (fun x0 x2 x3 x4 x5 x6 h => ∃ a, r a b ∧ I80 a x0 x2 x3 x4 x5 x6 h) (fun x0 x2 x3 x4 x5 x6 x7 x8 x9 x10 x11 h => ∃ a, r a b ∧ I127 a x0 x2 x3 x4 x5 x6 x7 x8 x9 x10 x11 h) (fun x0 x2 x3 x4 x5 x6 x7 x8 x10 x12 h => ∃ a, r a b ∧ I278 a x0 x2 x3 x4 x5 x6 x7 x8 x10 x12 h) RET) (h127 : ∀ (b : α) (x0 : Nat) (x2 : Int32) (x3 : Int32) (x4 : Int32) (x5 : Int32) (x6 : Int32) (x7 : Int32) (x8 : Int32) (x9 : Int32) (x10 : Int32) (x11 : Int32) (h : Hp), I127 b x0 x2 x3 x4 x5 x6 x7 x8 x9 x10 x11 h → V_X12_findModes_127 w sh x0 x2 x3 x4 x5 x6 x7 x8 x9 x10 x11 h (fun x0 x2 x3 x4 h => ∃ a, r a b ∧ I17 a x0 x2 x3 x4 h) (fun x0 x2 x3 x4 h => ∃ a, r a b ∧ I41 a x0 x2 x3 x4 h) (fun x0 x2 x3 x4 x5 x6 h => ∃ a, r a b ∧ I80 a x0 x2 x3 x4 x5 x6 h) (fun x0 x2 x3 x4 x5 x6 x7 x8 x9 x10 x11 h => ∃ a, r a b ∧ I127 a x0 x2 x3 x4 x5 x6 x7 x8 x9 x10 x11 h) (fun x0 x2 x3 x4 x5 x6 x7 x8 x10 x12 h => ∃ a, r a b ∧ I278 a x0 x2 x3 x4 x5 x6 x7 x8 x10 x12 h) RET) (h278 : ∀ (b : α) (x0 : Nat) (x2 : Int32) (x3 : Int32) (x4 : Int32) (x5 : Int32) (x6 : Int32) (x7 : Int32) (x8 : Int32) (x10 : Int32) (x12 : Int32) (h : Hp), I278 b x0 x2 x3 x4 x5 x6 x7 x8 x10 x12 h → V_X12_findModes_278 w sh x0 x2 x3 x4 x5 x6 x7 x8 x10 x12 h (fun x0 x2 x3 x4 h => ∃ a, r a b ∧ I17 a x0 x2 x3 x4 h) (fun x0 x2 x3 x4 h => ∃ a, r a b ∧ I41 a x0 x2 x3 x4 h) (fun x0 x2 x3 x4 x5 x6 h => ∃ a, r a b ∧ I80 a x0 x2 x3 x4 x5 x6 h) (fun x0 x2 x3 x4 x5 x6 x7 x8 x9 x10 x11 h => ∃ a, r a b ∧ I127 a x0 x2 x3 x4 x5 x6 x7 x8 x9 x10 x11 h) (fun x0 x2 x3 x4 x5 x6 x7 x8 x10 x12 h => ∃ a, r a b ∧ I278 a x0 x2 x3 x4 x5 x6 x7 x8 x10 x12 h) RET) : C_X12_findModes w sh x0 x1 h RET :=
  Ct_of (by decide +kernel) (by simp [lg_sl, rv_cat, cat_int, cat_long]) (fun E X Tt hR _ => by
    have key : ∀ a : α, (∀ (x0 : Nat) (x2 : Int32) (x3 : Int32) (x4 : Int32) (h : Hp), I17 a x0 x2 x3 x4 h → G w E 13 17 [(0, rv w.2.2.2 x0), (2, Value.int x2), (3, Value.int x3), (4, Value.int x4)] [] sh h 0 0) ∧ (∀ (x0 : Nat) (x2 : Int32) (x3 : Int32) (x4 : Int32) (h : Hp), I41 a x0 x2 x3 x4 h → G w E 13 41 [(0, rv w.2.2.2 x0), (2, Value.int x2), (3, Value.int x3), (4, Value.int x4)] [] sh h 0 0) ∧ (∀ (x0 : Nat) (x2 : Int32) (x3 : Int32) (x4 : Int32) (x5 : Int32) (x6 : Int32) (h : Hp), I80 a x0 x2 x3 x4 x5 x6 h → G w E 13 80 [(0, rv w.2.2.2 x0), (2, Value.int x2), (3, Value.int x3), (4, Value.int x4), (5, Value.int x5), (6, Value.int x6)] [] sh h 0 0) ∧ (∀ (x0 : Nat) (x2 : Int32) (x3 : Int32) (x4 : Int32) (x5 : Int32) (x6 : Int32) (x7 : Int32) (x8 : Int32) (x9 : Int32) (x10 : Int32) (x11 : Int32) (h : Hp), I127 a x0 x2 x3 x4 x5 x6 x7 x8 x9 x10 x11 h → G w E 13 127 [(0, rv w.2.2.2 x0), (2, Value.int x2), (3, Value.int x3), (4, Value.int x4), (5, Value.int x5), (6, Value.int x6), (7, Value.int x7), (8, Value.int x8), (9, Value.int x9), (10, Value.int x10), (11, Value.int x11)] [] sh h 0 0) ∧ (∀ (x0 : Nat) (x2 : Int32) (x3 : Int32) (x4 : Int32) (x5 : Int32) (x6 : Int32) (x7 : Int32) (x8 : Int32) (x10 : Int32) (x12 : Int32) (h : Hp), I278 a x0 x2 x3 x4 x5 x6 x7 x8 x10 x12 h → G w E 13 278 [(0, rv w.2.2.2 x0), (2, Value.int x2), (3, Value.int x3), (4, Value.int x4), (5, Value.int x5), (6, Value.int x6), (7, Value.int x7), (8, Value.int x8), (10, Value.int x10), (12, Value.int x12)] [] sh h 0 0) := by
      intro a
      induction a using wf.induction with
      | _ a ih =>
        exact ⟨(fun x0 x2 x3 x4 h hi => W_X12_findModes_17 X Tt hR (fun x0 x2 x3 x4 h hx => by obtain ⟨a2, ha, hi⟩ := hx; exact ((ih a2 ha)).1 x0 x2 x3 x4 h hi) (fun x0 x2 x3 x4 h hx => by obtain ⟨a2, ha, hi⟩ := hx; exact (((ih a2 ha)).2).1 x0 x2 x3 x4 h hi) (fun x0 x2 x3 x4 x5 x6 h hx => by obtain ⟨a2, ha, hi⟩ := hx; exact ((((ih a2 ha)).2).2).1 x0 x2 x3 x4 x5 x6 h hi) (fun x0 x2 x3 x4 x5 x6 x7 x8 x9 x10 x11 h hx => by obtain ⟨a2, ha, hi⟩ := hx; exact (((((ih a2 ha)).2).2).2).1 x0 x2 x3 x4 x5 x6 x7 x8 x9 x10 x11 h hi) (fun x0 x2 x3 x4 x5 x6 x7 x8 x10 x12 h hx => by obtain ⟨a2, ha, hi⟩ := hx; exact (((((ih a2 ha)).2).2).2).2 x0 x2 x3 x4 x5 x6 x7 x8 x10 x12 h hi) (h17 a x0 x2 x3 x4 h hi)), (fun x0 x2 x3 x4 h hi => W_X12_findModes_41 X Tt hR (fun x0 x2 x3 x4 h hx => by obtain ⟨a2, ha, hi⟩ := hx; exact ((ih a2 ha)).1 x0 x2 x3 x4 h hi) (fun x0 x2 x3 x4 h hx => by obtain ⟨a2, ha, hi⟩ := hx; exact (((ih a2 ha)).2).1 x0 x2 x3 x4 h hi) (fun x0 x2 x3 x4 x5 x6 h hx => by obtain ⟨a2, ha, hi⟩ := hx; exact ((((ih a2 ha)).2).2).1 x0 x2 x3 x4 x5 x6 h hi) (fun x0 x2 x3 x4 x5 x6 x7 x8 x9 x10 x11 h hx => by obtain ⟨a2, ha, hi⟩ := hx; exact (((((ih a2 ha)).2).2).2).1 x0 x2 x3 x4 x5 x6 x7 x8 x9 x10 x11 h hi) (fun x0 x2 x3 x4 x5 x6 x7 x8 x10 x12 h hx => by obtain ⟨a2, ha, hi⟩ := hx; exact (((((ih a2 ha)).2).2).2).2 x0 x2 x3 x4 x5 x6 x7 x8 x10 x12 h hi) (h41 a x0 x2 x3 x4 h hi)), (fun x0 x2 x3 x4 x5 x6 h hi => W_X12_findModes_80 X Tt hR (fun x0 x2 x3 x4 h hx => by obtain ⟨a2, ha, hi⟩ := hx; exact ((ih a2 ha)).1 x0 x2 x3 x4 h hi) (fun x0 x2 x3 x4 h hx => by obtain ⟨a2, ha, hi⟩ := hx; exact (((ih a2 ha)).2).1 x0 x2 x3 x4 h hi) (fun x0 x2 x3 x4 x5 x6 h hx => by obtain ⟨a2, ha, hi⟩ := hx; exact ((((ih a2 ha)).2).2).1 x0 x2 x3 x4 x5 x6 h hi) (fun x0 x2 x3 x4 x5 x6 x7 x8 x9 x10 x11 h hx => by obtain ⟨a2, ha, hi⟩ := hx; exact (((((ih a2 ha)).2).2).2).1 x0 x2 x3 x4 x5 x6 x7 x8 x9 x10 x11 h hi) (fun x0 x2 x3 x4 x5 x6 x7 x8 x10 x12 h hx => by obtain ⟨a2, ha, hi⟩ := hx; exact (((((ih a2 ha)).2).2).2).2 x0 x2 x3 x4 x5 x6 x7 x8 x10 x12 h hi) (h80 a x0 x2 x3 x4 x5 x6 h hi)), (fun x0 x2 x3 x4 x5 x6 x7 x8 x9 x10 x11 h hi => W_X12_findModes_127 X Tt hR (fun x0 x2 x3 x4 h hx => by obtain ⟨a2, ha, hi⟩ := hx; exact ((ih a2 ha)).1 x0 x2 x3 x4 h hi) (fun x0 x2 x3 x4 h hx => by obtain ⟨a2, ha, hi⟩ := hx; exact (((ih a2 ha)).2).1 x0 x2 x3 x4 h hi) (fun x0 x2 x3 x4 x5 x6 h hx => by obtain ⟨a2, ha, hi⟩ := hx; exact ((((ih a2 ha)).2).2).1 x0 x2 x3 x4 x5 x6 h hi) (fun x0 x2 x3 x4 x5 x6 x7 x8 x9 x10 x11 h hx => by obtain ⟨a2, ha, hi⟩ := hx; exact (((((ih a2 ha)).2).2).2).1 x0 x2 x3 x4 x5 x6 x7 x8 x9 x10 x11 h hi) (fun x0 x2 x3 x4 x5 x6 x7 x8 x10 x12 h hx => by obtain ⟨a2, ha, hi⟩ := hx; exact (((((ih a2 ha)).2).2).2).2 x0 x2 x3 x4 x5 x6 x7 x8 x10 x12 h hi) (h127 a x0 x2 x3 x4 x5 x6 x7 x8 x9 x10 x11 h hi)), (fun x0 x2 x3 x4 x5 x6 x7 x8 x10 x12 h hi => W_X12_findModes_278 X Tt hR (fun x0 x2 x3 x4 h hx => by obtain ⟨a2, ha, hi⟩ := hx; exact ((ih a2 ha)).1 x0 x2 x3 x4 h hi) (fun x0 x2 x3 x4 h hx => by obtain ⟨a2, ha, hi⟩ := hx; exact (((ih a2 ha)).2).1 x0 x2 x3 x4 h hi) (fun x0 x2 x3 x4 x5 x6 h hx => by obtain ⟨a2, ha, hi⟩ := hx; exact ((((ih a2 ha)).2).2).1 x0 x2 x3 x4 x5 x6 h hi) (fun x0 x2 x3 x4 x5 x6 x7 x8 x9 x10 x11 h hx => by obtain ⟨a2, ha, hi⟩ := hx; exact (((((ih a2 ha)).2).2).2).1 x0 x2 x3 x4 x5 x6 x7 x8 x9 x10 x11 h hi) (fun x0 x2 x3 x4 x5 x6 x7 x8 x10 x12 h hx => by obtain ⟨a2, ha, hi⟩ := hx; exact (((((ih a2 ha)).2).2).2).2 x0 x2 x3 x4 x5 x6 x7 x8 x10 x12 h hi) (h278 a x0 x2 x3 x4 x5 x6 x7 x8 x10 x12 h hi))⟩
    rw [show lv_args 0 [rv w.2.2.2 x0, Value.int x1] = [(0, rv w.2.2.2 x0), (1, Value.int x1)] from by simp [lv_args, rv_cat, cat_int, cat_long]]
    refine g_lv [0, 1] rfl ?_
    exact W_X12_findModes_0 X Tt hR (fun x0 x2 x3 x4 h hx => by obtain ⟨a2, hi⟩ := hx; exact ((key a2)).1 x0 x2 x3 x4 h hi) (fun x0 x2 x3 x4 h hx => by obtain ⟨a2, hi⟩ := hx; exact (((key a2)).2).1 x0 x2 x3 x4 h hi) (fun x0 x2 x3 x4 x5 x6 h hx => by obtain ⟨a2, hi⟩ := hx; exact ((((key a2)).2).2).1 x0 x2 x3 x4 x5 x6 h hi) (fun x0 x2 x3 x4 x5 x6 x7 x8 x9 x10 x11 h hx => by obtain ⟨a2, hi⟩ := hx; exact (((((key a2)).2).2).2).1 x0 x2 x3 x4 x5 x6 x7 x8 x9 x10 x11 h hi) (fun x0 x2 x3 x4 x5 x6 x7 x8 x10 x12 h hx => by obtain ⟨a2, hi⟩ := hx; exact (((((key a2)).2).2).2).2 x0 x2 x3 x4 x5 x6 x7 x8 x10 x12 h hi) hE)
def V_X12_isFirst_0 (w : Wd) (sh : List Sh) (x0 : Nat) (x1 : Int32) (x2 : Int32) (x3 : Int32) (x4 : Int32) (h : Hp)  (RET : Int32 → Hp → Prop) : Prop :=
  shAt sh x0 = some (.inr 12) ∧ (∃ P2 : Int32 → Hp → Prop, C_X12_entryOf w sh x0 x1 x2 (0 : Int32) h P2 ∧ (∀ (v6 : Int32) (h5 : Hp), P2 v6 h5 → (∃ n8 : Nat, shAt sh (h5.2.1 x0 52) = some (.inl (1, n8)) ∧ (vp_in x3 n8 ∧ (((¬ v6 = (h5.1 (h5.2.1 x0 52) x3.toNatClampNeg)) → (RET (0 : Int32) h5)) ∧ ((v6 = (h5.1 (h5.2.1 x0 52) x3.toNatClampNeg)) → (∃ P11 : Int32 → Hp → Prop, C_X12_entryOf w sh x0 x1 x2 (1 : Int32) h5 P11 ∧ (∀ (v15 : Int32) (h14 : Hp), P11 v15 h14 → (((¬ v15 = x4) → (RET (0 : Int32) h14)) ∧ ((v15 = x4) → (∃ P17 : Int32 → Hp → Prop, C_X12_entryOf w sh x0 x1 x2 (2 : Int32) h14 P17 ∧ (∀ (v21 : Int32) (h20 : Hp), P17 v21 h20 → (∃ n23 : Nat, shAt sh (h20.2.1 x0 55) = some (.inl (1, n23)) ∧ (vp_in x3 n23 ∧ (((¬ v21 = (h20.1 (h20.2.1 x0 55) x3.toNatClampNeg)) → (RET (0 : Int32) h20)) ∧ ((v21 = (h20.1 (h20.2.1 x0 55) x3.toNatClampNeg)) → (RET (1 : Int32) h20)))))))))))))))))
set_option maxRecDepth 20000 in
set_option maxHeartbeats 4000000 in
theorem W_X12_isFirst_0 {w : Wd} {E : GE} {sh : List Sh} {x0 : Nat} {x1 : Int32} {x2 : Int32} {x3 : Int32} {x4 : Int32} {h : Hp}  {RET : Int32 → Hp → Prop} (X : Cx w E cX12_isFirst 5 RX12) (Tt : Rt w E (some .boolean) sh.length 0 0 (fun q sh9 h9 => ∃ v : Int32, q = some (Value.int v) ∧ sh9 = sh ∧ RET v h9)) (hR : gR E = { frames := 1, cells := 0, slots := 0, locals := 23 }) (hV : V_X12_isFirst_0 w sh x0 x1 x2 x3 x4 h RET) : G w E 5 0 [(0, rv w.2.2.2 x0), (1, Value.int x1), (2, Value.int x2), (3, Value.int x3), (4, Value.int x4)] [] sh h 0 0 := by
  unfold V_X12_isFirst_0 at hV
  refine g_aload_n (pc := 0) X 0 rfl rfl dX12_isFirst_0 ?_
  refine g_iload_n (pc := 1) X 1 rfl rfl dX12_isFirst_1 ?_
  refine g_iload_n (pc := 2) X 2 rfl rfl dX12_isFirst_2 ?_
  refine g_iconst (pc := 3) (v := (0 : Int32)) X dX12_isFirst_3 (by decide) ?_
  obtain ⟨q1, hV⟩ := hV
  obtain ⟨P2, t3, hV⟩ := hV
  refine g_cVI (pc := 4) X (As := [Value.int x1, Value.int x2, Value.int (0 : Int32)]) ml_X12_126 rfl q1 t3 (by rw [hR]; exact ⟨by decide, by decide, by decide, by decide⟩) rfl rfl (Nat.zero_le _) dX12_isFirst_4 (fun v6 h5 p4 => ?_)
  have hV := hV v6 h5 p4
  refine g_aload_n (pc := 7) X 0 rfl rfl dX12_isFirst_7 ?_
  refine g_getR (pc := 8) X fl_X12_89 q1 dX12_isFirst_8 ?_
  refine g_iload_n (pc := 11) X 3 rfl rfl dX12_isFirst_11 ?_
  obtain ⟨n8, q7, hV⟩ := hV
  obtain ⟨q9, hV⟩ := hV
  refine g_iald (pc := 12) X q7 q9 dX12_isFirst_12 ?_
  refine g_icmp_ne (pc := 13) X 48 dX12_isFirst_13 (by decide) (fun c10 => ?_) (fun c10 => ?_)
  · have hV := hV.1 c10
    refine g_iconst (pc := 48) (v := (0 : Int32)) X dX12_isFirst_48 (by decide) ?_
    exact g_zret (pc := 49) X Tt (by decide) ⟨_, rfl, rfl, hV⟩ dX12_isFirst_49
  · have hV := hV.2 c10
    refine g_aload_n (pc := 16) X 0 rfl rfl dX12_isFirst_16 ?_
    refine g_iload_n (pc := 17) X 1 rfl rfl dX12_isFirst_17 ?_
    refine g_iload_n (pc := 18) X 2 rfl rfl dX12_isFirst_18 ?_
    refine g_iconst (pc := 19) (v := (1 : Int32)) X dX12_isFirst_19 (by decide) ?_
    obtain ⟨P11, t12, hV⟩ := hV
    refine g_cVI (pc := 20) X (As := [Value.int x1, Value.int x2, Value.int (1 : Int32)]) ml_X12_126 rfl q1 t12 (by rw [hR]; exact ⟨by decide, by decide, by decide, by decide⟩) rfl rfl (Nat.zero_le _) dX12_isFirst_20 (fun v15 h14 p13 => ?_)
    have hV := hV v15 h14 p13
    refine g_iload (pc := 23) X 4 rfl dX12_isFirst_23 ?_
    refine g_icmp_ne (pc := 25) X 48 dX12_isFirst_25 (by decide) (fun c16 => ?_) (fun c16 => ?_)
    · have hV := hV.1 c16
      refine g_iconst (pc := 48) (v := (0 : Int32)) X dX12_isFirst_48 (by decide) ?_
      exact g_zret (pc := 49) X Tt (by decide) ⟨_, rfl, rfl, hV⟩ dX12_isFirst_49
    · have hV := hV.2 c16
      refine g_aload_n (pc := 28) X 0 rfl rfl dX12_isFirst_28 ?_
      refine g_iload_n (pc := 29) X 1 rfl rfl dX12_isFirst_29 ?_
      refine g_iload_n (pc := 30) X 2 rfl rfl dX12_isFirst_30 ?_
      refine g_iconst (pc := 31) (v := (2 : Int32)) X dX12_isFirst_31 (by decide) ?_
      obtain ⟨P17, t18, hV⟩ := hV
      refine g_cVI (pc := 32) X (As := [Value.int x1, Value.int x2, Value.int (2 : Int32)]) ml_X12_126 rfl q1 t18 (by rw [hR]; exact ⟨by decide, by decide, by decide, by decide⟩) rfl rfl (Nat.zero_le _) dX12_isFirst_32 (fun v21 h20 p19 => ?_)
      have hV := hV v21 h20 p19
      refine g_aload_n (pc := 35) X 0 rfl rfl dX12_isFirst_35 ?_
      refine g_getR (pc := 36) X fl_X12_98 q1 dX12_isFirst_36 ?_
      refine g_iload_n (pc := 39) X 3 rfl rfl dX12_isFirst_39 ?_
      obtain ⟨n23, q22, hV⟩ := hV
      obtain ⟨q24, hV⟩ := hV
      refine g_iald (pc := 40) X q22 q24 dX12_isFirst_40 ?_
      refine g_icmp_ne (pc := 41) X 48 dX12_isFirst_41 (by decide) (fun c25 => ?_) (fun c25 => ?_)
      · have hV := hV.1 c25
        refine g_iconst (pc := 48) (v := (0 : Int32)) X dX12_isFirst_48 (by decide) ?_
        exact g_zret (pc := 49) X Tt (by decide) ⟨_, rfl, rfl, hV⟩ dX12_isFirst_49
      · have hV := hV.2 c25
        refine g_iconst (pc := 44) (v := (1 : Int32)) X dX12_isFirst_44 (by decide) ?_
        refine g_goto (pc := 45) X 49 dX12_isFirst_45 (by decide) ?_
        exact g_zret (pc := 49) X Tt (by decide) ⟨_, rfl, rfl, hV⟩ dX12_isFirst_49
def C_X12_isFirst (w : Wd) (sh : List Sh) (x0 : Nat) (x1 : Int32) (x2 : Int32) (x3 : Int32) (x4 : Int32) (h : Hp) (RET : Int32 → Hp → Prop) : Prop := CI w yX12_isFirst (.code yX12_isFirst cX12_isFirst 5 (some .boolean)) 1 23 [rv w.2.2.2 x0, Value.int x1, Value.int x2, Value.int x3, Value.int x4] sh h RET
theorem K_X12_isFirst {w : Wd} {sh : List Sh} {x0 : Nat} {x1 : Int32} {x2 : Int32} {x3 : Int32} {x4 : Int32} {h : Hp} {RET : Int32 → Hp → Prop} (hV : V_X12_isFirst_0 w sh x0 x1 x2 x3 x4 h RET) : C_X12_isFirst w sh x0 x1 x2 x3 x4 h RET :=
  Ct_of (by decide +kernel) (by simp [lg_sl, rv_cat, cat_int, cat_long]) (fun E X Tt hR _ => by
    rw [show lv_args 0 [rv w.2.2.2 x0, Value.int x1, Value.int x2, Value.int x3, Value.int x4] = [(0, rv w.2.2.2 x0), (1, Value.int x1), (2, Value.int x2), (3, Value.int x3), (4, Value.int x4)] from by simp [lv_args, rv_cat, cat_int, cat_long]]
    refine g_lv [0, 1, 2, 3, 4] rfl ?_
    exact W_X12_isFirst_0 X Tt hR hV)
def V_X12_addCode_0 (w : Wd) (sh : List Sh) (x0 : Nat) (x1 : Int32) (h : Hp)  (RET : Hp → Prop) : Prop :=
  shAt sh x0 = some (.inr 12) ∧ (∃ n3 : Nat, shAt sh (h.2.1 x0 47) = some (.inl (0, n3)) ∧ (vp_in ((10000 : Int32) + (h.1 x0 49)) n3 ∧ (∀ h5 : Hp, h5 = wI h (h.2.1 x0 47) ((10000 : Int32) + (h.1 x0 49)).toNatClampNeg (b8 x1) → (∀ h7 : Hp, h7 = wI h5 x0 49 ((h5.1 x0 49) + (1 : Int32)) → (RET h7)))))
set_option maxRecDepth 20000 in
set_option maxHeartbeats 4000000 in
theorem W_X12_addCode_0 {w : Wd} {E : GE} {sh : List Sh} {x0 : Nat} {x1 : Int32} {h : Hp}  {RET : Hp → Prop} (X : Cx w E cX12_addCode 2 RX12) (Tt : Rt w E none sh.length 0 0 (fun q sh9 h9 => q = none ∧ sh9 = sh ∧ RET h9)) (hR : gR E = { frames := 0, cells := 0, slots := 0, locals := 0 }) (hV : V_X12_addCode_0 w sh x0 x1 h RET) : G w E 2 0 [(0, rv w.2.2.2 x0), (1, Value.int x1)] [] sh h 0 0 := by
  unfold V_X12_addCode_0 at hV
  refine g_aload_n (pc := 0) X 0 rfl rfl dX12_addCode_0 ?_
  obtain ⟨q1, hV⟩ := hV
  refine g_getR (pc := 1) X fl_X12_86 q1 dX12_addCode_1 ?_
  refine g_sipush (pc := 4) (v := (10000 : Int32)) X dX12_addCode_4 (by decide) ?_
  refine g_aload_n (pc := 7) X 0 rfl rfl dX12_addCode_7 ?_
  refine g_getI (pc := 8) X fl_X12_308 q1 dX12_addCode_8 ?_
  refine g_iadd (pc := 11) X dX12_addCode_11 ?_
  refine g_iload_n (pc := 12) X 1 rfl rfl dX12_addCode_12 ?_
  refine g_i2b (pc := 13) X dX12_addCode_13 ?_
  obtain ⟨n3, q2, hV⟩ := hV
  obtain ⟨q4, hV⟩ := hV
  refine g_bast (pc := 14) X q2 q4 dX12_addCode_14 (fun h5 e6 => ?_)
  have hV := hV h5 e6
  refine g_aload_n (pc := 15) X 0 rfl rfl dX12_addCode_15 ?_
  refine g_dup (pc := 16) X dX12_addCode_16 (rv_cat _ _) ?_
  refine g_getI (pc := 17) X fl_X12_308 q1 dX12_addCode_17 ?_
  refine g_iconst (pc := 20) (v := (1 : Int32)) X dX12_addCode_20 (by decide) ?_
  refine g_iadd (pc := 21) X dX12_addCode_21 ?_
  refine g_putI (pc := 22) X fl_X12_308 q1 rfl rfl dX12_addCode_22 (fun h7 e8 => ?_)
  have hV := hV h7 e8
  exact g_vret (pc := 25) X Tt ⟨rfl, rfl, hV⟩ dX12_addCode_25
def C_X12_addCode (w : Wd) (sh : List Sh) (x0 : Nat) (x1 : Int32) (h : Hp) (RET : Hp → Prop) : Prop := CV w yX12_addCode (.code yX12_addCode cX12_addCode 2 none) 0 0 [rv w.2.2.2 x0, Value.int x1] sh h RET
theorem K_X12_addCode {w : Wd} {sh : List Sh} {x0 : Nat} {x1 : Int32} {h : Hp} {RET : Hp → Prop} (hV : V_X12_addCode_0 w sh x0 x1 h RET) : C_X12_addCode w sh x0 x1 h RET :=
  Ct_of (by decide +kernel) (by simp [lg_sl, rv_cat, cat_int, cat_long]) (fun E X Tt hR _ => by
    rw [show lv_args 0 [rv w.2.2.2 x0, Value.int x1] = [(0, rv w.2.2.2 x0), (1, Value.int x1)] from by simp [lv_args, rv_cat, cat_int, cat_long]]
    refine g_lv [0, 1] rfl ?_
    exact W_X12_addCode_0 X Tt hR hV)
def V_X12_sayParts_446 (w : Wd) (sh : List Sh) (x0 : Nat) (x1 : Int32) (s0 : Int32) (s1 : Int32) (h : Hp) (L17 : Nat → Int32 → Int32 → Int32 → Hp → Prop) (L64 : Nat → Int32 → Int32 → Int32 → Int32 → Int32 → Hp → Prop) (L122 : Nat → Int32 → Int32 → Hp → Prop) (L144 : Nat → Int32 → Int32 → Int32 → Int32 → Int32 → Int32 → Hp → Prop) (L392 : Nat → Int32 → Int32 → Int32 → Int32 → Hp → Prop) (RET : Hp → Prop) : Prop :=
  ∀ y1 : Int32, y1 = (s1 + s0) → (L122 x0 x1 y1 h)
set_option maxRecDepth 20000 in
set_option maxHeartbeats 4000000 in
theorem W_X12_sayParts_446 {w : Wd} {E : GE} {sh : List Sh} {x0 : Nat} {x1 : Int32} {s0 : Int32} {s1 : Int32} {h : Hp} {L17 : Nat → Int32 → Int32 → Int32 → Hp → Prop} {L64 : Nat → Int32 → Int32 → Int32 → Int32 → Int32 → Hp → Prop} {L122 : Nat → Int32 → Int32 → Hp → Prop} {L144 : Nat → Int32 → Int32 → Int32 → Int32 → Int32 → Int32 → Hp → Prop} {L392 : Nat → Int32 → Int32 → Int32 → Int32 → Hp → Prop} {RET : Hp → Prop} (X : Cx w E cX12_sayParts 11 RX12) (Tt : Rt w E none sh.length 0 0 (fun q sh9 h9 => q = none ∧ sh9 = sh ∧ RET h9)) (hR : gR E = { frames := 2, cells := 0, slots := 0, locals := 47 }) (hL17 : ∀ (x0 : Nat) (x1 : Int32) (x2 : Int32) (x3 : Int32) (h : Hp), L17 x0 x1 x2 x3 h → G w E 11 17 [(0, rv w.2.2.2 x0), (1, Value.int x1), (2, Value.int x2), (3, Value.int x3)] [] sh h 0 0) (hL64 : ∀ (x0 : Nat) (x1 : Int32) (x2 : Int32) (x3 : Int32) (x4 : Int32) (x5 : Int32) (h : Hp), L64 x0 x1 x2 x3 x4 x5 h → G w E 11 64 [(0, rv w.2.2.2 x0), (1, Value.int x1), (2, Value.int x2), (3, Value.int x3), (4, Value.int x4), (5, Value.int x5)] [] sh h 0 0) (hL122 : ∀ (x0 : Nat) (x1 : Int32) (x3 : Int32) (h : Hp), L122 x0 x1 x3 h → G w E 11 122 [(0, rv w.2.2.2 x0), (1, Value.int x1), (3, Value.int x3)] [] sh h 0 0) (hL144 : ∀ (x0 : Nat) (x1 : Int32) (x3 : Int32) (x4 : Int32) (x5 : Int32) (x6 : Int32) (x7 : Int32) (h : Hp), L144 x0 x1 x3 x4 x5 x6 x7 h → G w E 11 144 [(0, rv w.2.2.2 x0), (1, Value.int x1), (3, Value.int x3), (4, Value.int x4), (5, Value.int x5), (6, Value.int x6), (7, Value.int x7)] [] sh h 0 0) (hL392 : ∀ (x0 : Nat) (x1 : Int32) (x3 : Int32) (x4 : Int32) (x8 : Int32) (h : Hp), L392 x0 x1 x3 x4 x8 h → G w E 11 392 [(0, rv w.2.2.2 x0), (1, Value.int x1), (3, Value.int x3), (4, Value.int x4), (8, Value.int x8)] [] sh h 0 0) (hV : V_X12_sayParts_446 w sh x0 x1 s0 s1 h L17 L64 L122 L144 L392 RET) : G w E 11 446 [(0, rv w.2.2.2 x0), (1, Value.int x1)] [Value.int s0, Value.int s1] sh h 0 0 := by
  unfold V_X12_sayParts_446 at hV
  refine g_iadd (pc := 446) X dX12_sayParts_446 ?_
  refine g_istore_n (pc := 447) X (i := 3) (rest := [(0, rv w.2.2.2 x0), (1, Value.int x1)]) rfl (by decide) rfl dX12_sayParts_447 (fun y1 e2 => ?_)
  have hV := hV y1 e2
  refine g_goto (pc := 448) X 122 dX12_sayParts_448 (by decide) ?_
  refine g_lv [1, 2, 0] rfl ?_
  exact hL122 x0 x1 y1 h hV
def V_X12_sayParts_435 (w : Wd) (sh : List Sh) (x0 : Nat) (x1 : Int32) (x3 : Int32) (x4 : Int32) (h : Hp) (L17 : Nat → Int32 → Int32 → Int32 → Hp → Prop) (L64 : Nat → Int32 → Int32 → Int32 → Int32 → Int32 → Hp → Prop) (L122 : Nat → Int32 → Int32 → Hp → Prop) (L144 : Nat → Int32 → Int32 → Int32 → Int32 → Int32 → Int32 → Hp → Prop) (L392 : Nat → Int32 → Int32 → Int32 → Int32 → Hp → Prop) (RET : Hp → Prop) : Prop :=
  ((x4 < 0) → (V_X12_sayParts_446 w sh x0 x1 (1 : Int32) x3 h L17 L64 L122 L144 L392 RET)) ∧ ((¬ x4 < 0) → (V_X12_sayParts_446 w sh x0 x1 (2 : Int32) x3 h L17 L64 L122 L144 L392 RET))
set_option maxRecDepth 20000 in
set_option maxHeartbeats 4000000 in
theorem W_X12_sayParts_435 {w : Wd} {E : GE} {sh : List Sh} {x0 : Nat} {x1 : Int32} {x3 : Int32} {x4 : Int32} {h : Hp} {L17 : Nat → Int32 → Int32 → Int32 → Hp → Prop} {L64 : Nat → Int32 → Int32 → Int32 → Int32 → Int32 → Hp → Prop} {L122 : Nat → Int32 → Int32 → Hp → Prop} {L144 : Nat → Int32 → Int32 → Int32 → Int32 → Int32 → Int32 → Hp → Prop} {L392 : Nat → Int32 → Int32 → Int32 → Int32 → Hp → Prop} {RET : Hp → Prop} (X : Cx w E cX12_sayParts 11 RX12) (Tt : Rt w E none sh.length 0 0 (fun q sh9 h9 => q = none ∧ sh9 = sh ∧ RET h9)) (hR : gR E = { frames := 2, cells := 0, slots := 0, locals := 47 }) (hL17 : ∀ (x0 : Nat) (x1 : Int32) (x2 : Int32) (x3 : Int32) (h : Hp), L17 x0 x1 x2 x3 h → G w E 11 17 [(0, rv w.2.2.2 x0), (1, Value.int x1), (2, Value.int x2), (3, Value.int x3)] [] sh h 0 0) (hL64 : ∀ (x0 : Nat) (x1 : Int32) (x2 : Int32) (x3 : Int32) (x4 : Int32) (x5 : Int32) (h : Hp), L64 x0 x1 x2 x3 x4 x5 h → G w E 11 64 [(0, rv w.2.2.2 x0), (1, Value.int x1), (2, Value.int x2), (3, Value.int x3), (4, Value.int x4), (5, Value.int x5)] [] sh h 0 0) (hL122 : ∀ (x0 : Nat) (x1 : Int32) (x3 : Int32) (h : Hp), L122 x0 x1 x3 h → G w E 11 122 [(0, rv w.2.2.2 x0), (1, Value.int x1), (3, Value.int x3)] [] sh h 0 0) (hL144 : ∀ (x0 : Nat) (x1 : Int32) (x3 : Int32) (x4 : Int32) (x5 : Int32) (x6 : Int32) (x7 : Int32) (h : Hp), L144 x0 x1 x3 x4 x5 x6 x7 h → G w E 11 144 [(0, rv w.2.2.2 x0), (1, Value.int x1), (3, Value.int x3), (4, Value.int x4), (5, Value.int x5), (6, Value.int x6), (7, Value.int x7)] [] sh h 0 0) (hL392 : ∀ (x0 : Nat) (x1 : Int32) (x3 : Int32) (x4 : Int32) (x8 : Int32) (h : Hp), L392 x0 x1 x3 x4 x8 h → G w E 11 392 [(0, rv w.2.2.2 x0), (1, Value.int x1), (3, Value.int x3), (4, Value.int x4), (8, Value.int x8)] [] sh h 0 0) (hV : V_X12_sayParts_435 w sh x0 x1 x3 x4 h L17 L64 L122 L144 L392 RET) : G w E 11 435 [(0, rv w.2.2.2 x0), (1, Value.int x1), (3, Value.int x3), (4, Value.int x4)] [] sh h 0 0 := by
  unfold V_X12_sayParts_435 at hV
  refine g_iload_n (pc := 435) X 2 rfl rfl dX12_sayParts_435 ?_
  refine g_iload (pc := 436) X 3 rfl dX12_sayParts_436 ?_
  refine g_if_lt (pc := 438) X 445 dX12_sayParts_438 (by decide) (fun c1 => ?_) (fun c1 => ?_)
  · have hV := hV.1 c1
    refine g_iconst (pc := 445) (v := (1 : Int32)) X dX12_sayParts_445 (by decide) ?_
    refine g_lv [0, 1] rfl ?_
    exact W_X12_sayParts_446 X Tt hR hL17 hL64 hL122 hL144 hL392 hV
  · have hV := hV.2 c1
    refine g_iconst (pc := 441) (v := (2 : Int32)) X dX12_sayParts_441 (by decide) ?_
    refine g_goto (pc := 442) X 446 dX12_sayParts_442 (by decide) ?_
    refine g_lv [0, 1] rfl ?_
    exact W_X12_sayParts_446 X Tt hR hL17 hL64 hL122 hL144 hL392 hV
def V_X12_sayParts_425 (w : Wd) (sh : List Sh) (x0 : Nat) (x1 : Int32) (x3 : Int32) (x4 : Int32) (x8 : Int32) (s0 : Int32) (s1 : Int32) (s2 : Nat) (h : Hp) (L17 : Nat → Int32 → Int32 → Int32 → Hp → Prop) (L64 : Nat → Int32 → Int32 → Int32 → Int32 → Int32 → Hp → Prop) (L122 : Nat → Int32 → Int32 → Hp → Prop) (L144 : Nat → Int32 → Int32 → Int32 → Int32 → Int32 → Int32 → Hp → Prop) (L392 : Nat → Int32 → Int32 → Int32 → Int32 → Hp → Prop) (RET : Hp → Prop) : Prop :=
  shAt sh s2 = some (.inr 12) ∧ (∃ P2 : Hp → Prop, C_X12_addCode w sh s2 (s1 ||| s0) h P2 ∧ (∀ h5 : Hp, P2 h5 → (∀ y6 : Int32, y6 = x8 + (-1 : Int32) → (L392 x0 x1 x3 x4 y6 h5))))
set_option maxRecDepth 20000 in
set_option maxHeartbeats 4000000 in
theorem W_X12_sayParts_425 {w : Wd} {E : GE} {sh : List Sh} {x0 : Nat} {x1 : Int32} {x3 : Int32} {x4 : Int32} {x8 : Int32} {s0 : Int32} {s1 : Int32} {s2 : Nat} {h : Hp} {L17 : Nat → Int32 → Int32 → Int32 → Hp → Prop} {L64 : Nat → Int32 → Int32 → Int32 → Int32 → Int32 → Hp → Prop} {L122 : Nat → Int32 → Int32 → Hp → Prop} {L144 : Nat → Int32 → Int32 → Int32 → Int32 → Int32 → Int32 → Hp → Prop} {L392 : Nat → Int32 → Int32 → Int32 → Int32 → Hp → Prop} {RET : Hp → Prop} (X : Cx w E cX12_sayParts 11 RX12) (Tt : Rt w E none sh.length 0 0 (fun q sh9 h9 => q = none ∧ sh9 = sh ∧ RET h9)) (hR : gR E = { frames := 2, cells := 0, slots := 0, locals := 47 }) (hL17 : ∀ (x0 : Nat) (x1 : Int32) (x2 : Int32) (x3 : Int32) (h : Hp), L17 x0 x1 x2 x3 h → G w E 11 17 [(0, rv w.2.2.2 x0), (1, Value.int x1), (2, Value.int x2), (3, Value.int x3)] [] sh h 0 0) (hL64 : ∀ (x0 : Nat) (x1 : Int32) (x2 : Int32) (x3 : Int32) (x4 : Int32) (x5 : Int32) (h : Hp), L64 x0 x1 x2 x3 x4 x5 h → G w E 11 64 [(0, rv w.2.2.2 x0), (1, Value.int x1), (2, Value.int x2), (3, Value.int x3), (4, Value.int x4), (5, Value.int x5)] [] sh h 0 0) (hL122 : ∀ (x0 : Nat) (x1 : Int32) (x3 : Int32) (h : Hp), L122 x0 x1 x3 h → G w E 11 122 [(0, rv w.2.2.2 x0), (1, Value.int x1), (3, Value.int x3)] [] sh h 0 0) (hL144 : ∀ (x0 : Nat) (x1 : Int32) (x3 : Int32) (x4 : Int32) (x5 : Int32) (x6 : Int32) (x7 : Int32) (h : Hp), L144 x0 x1 x3 x4 x5 x6 x7 h → G w E 11 144 [(0, rv w.2.2.2 x0), (1, Value.int x1), (3, Value.int x3), (4, Value.int x4), (5, Value.int x5), (6, Value.int x6), (7, Value.int x7)] [] sh h 0 0) (hL392 : ∀ (x0 : Nat) (x1 : Int32) (x3 : Int32) (x4 : Int32) (x8 : Int32) (h : Hp), L392 x0 x1 x3 x4 x8 h → G w E 11 392 [(0, rv w.2.2.2 x0), (1, Value.int x1), (3, Value.int x3), (4, Value.int x4), (8, Value.int x8)] [] sh h 0 0) (hV : V_X12_sayParts_425 w sh x0 x1 x3 x4 x8 s0 s1 s2 h L17 L64 L122 L144 L392 RET) : G w E 11 425 [(0, rv w.2.2.2 x0), (1, Value.int x1), (3, Value.int x3), (4, Value.int x4), (8, Value.int x8)] [Value.int s0, Value.int s1, rv w.2.2.2 s2] sh h 0 0 := by
  unfold V_X12_sayParts_425 at hV
  refine g_ior (pc := 425) X dX12_sayParts_425 ?_
  obtain ⟨q1, hV⟩ := hV
  obtain ⟨P2, t3, hV⟩ := hV
  refine g_cVV (pc := 426) X (As := [Value.int (s1 ||| s0)]) ml_X12_328 rfl q1 t3 (by rw [hR]; exact ⟨by decide, by decide, by decide, by decide⟩) rfl rfl (Nat.zero_le _) dX12_sayParts_426 (fun h5 p4 => ?_)
  have hV := hV h5 p4
  refine g_iinc (pc := 429) X 4 (v := (-1 : Int32)) (rest := [(0, rv w.2.2.2 x0), (1, Value.int x1), (3, Value.int x3), (4, Value.int x4)]) rfl (by decide) rfl (by decide) dX12_sayParts_429 (fun y6 e7 => ?_)
  have hV := hV y6 e7
  refine g_goto (pc := 432) X 392 dX12_sayParts_432 (by decide) ?_
  refine g_lv [1, 2, 3, 4, 0] rfl ?_
  exact hL392 x0 x1 x3 x4 y6 h5 hV
def V_X12_sayParts_392 (w : Wd) (sh : List Sh) (x0 : Nat) (x1 : Int32) (x3 : Int32) (x4 : Int32) (x8 : Int32) (h : Hp) (L17 : Nat → Int32 → Int32 → Int32 → Hp → Prop) (L64 : Nat → Int32 → Int32 → Int32 → Int32 → Int32 → Hp → Prop) (L122 : Nat → Int32 → Int32 → Hp → Prop) (L144 : Nat → Int32 → Int32 → Int32 → Int32 → Int32 → Int32 → Hp → Prop) (L392 : Nat → Int32 → Int32 → Int32 → Int32 → Hp → Prop) (RET : Hp → Prop) : Prop :=
  ((x8 < 0) → (V_X12_sayParts_435 w sh x0 x1 x3 x4 h L17 L64 L122 L144 L392 RET)) ∧ ((¬ x8 < 0) → (shAt sh x0 = some (.inr 12) ∧ (∃ n4 : Nat, shAt sh (h.2.1 x0 53) = some (.inl (1, n4)) ∧ (vp_in x3 n4 ∧ (((x8 ≤ 0) → (V_X12_sayParts_425 w sh x0 x1 x3 x4 x8 (0 : Int32) (((h.1 (h.2.1 x0 53) x3.toNatClampNeg) >>> (((7 : Int32) * x8) &&& 31)) &&& (127 : Int32)) x0 h L17 L64 L122 L144 L392 RET)) ∧ ((¬ x8 ≤ 0) → (V_X12_sayParts_425 w sh x0 x1 x3 x4 x8 (128 : Int32) (((h.1 (h.2.1 x0 53) x3.toNatClampNeg) >>> (((7 : Int32) * x8) &&& 31)) &&& (127 : Int32)) x0 h L17 L64 L122 L144 L392 RET)))))))
set_option maxRecDepth 20000 in
set_option maxHeartbeats 4000000 in
theorem W_X12_sayParts_392 {w : Wd} {E : GE} {sh : List Sh} {x0 : Nat} {x1 : Int32} {x3 : Int32} {x4 : Int32} {x8 : Int32} {h : Hp} {L17 : Nat → Int32 → Int32 → Int32 → Hp → Prop} {L64 : Nat → Int32 → Int32 → Int32 → Int32 → Int32 → Hp → Prop} {L122 : Nat → Int32 → Int32 → Hp → Prop} {L144 : Nat → Int32 → Int32 → Int32 → Int32 → Int32 → Int32 → Hp → Prop} {L392 : Nat → Int32 → Int32 → Int32 → Int32 → Hp → Prop} {RET : Hp → Prop} (X : Cx w E cX12_sayParts 11 RX12) (Tt : Rt w E none sh.length 0 0 (fun q sh9 h9 => q = none ∧ sh9 = sh ∧ RET h9)) (hR : gR E = { frames := 2, cells := 0, slots := 0, locals := 47 }) (hL17 : ∀ (x0 : Nat) (x1 : Int32) (x2 : Int32) (x3 : Int32) (h : Hp), L17 x0 x1 x2 x3 h → G w E 11 17 [(0, rv w.2.2.2 x0), (1, Value.int x1), (2, Value.int x2), (3, Value.int x3)] [] sh h 0 0) (hL64 : ∀ (x0 : Nat) (x1 : Int32) (x2 : Int32) (x3 : Int32) (x4 : Int32) (x5 : Int32) (h : Hp), L64 x0 x1 x2 x3 x4 x5 h → G w E 11 64 [(0, rv w.2.2.2 x0), (1, Value.int x1), (2, Value.int x2), (3, Value.int x3), (4, Value.int x4), (5, Value.int x5)] [] sh h 0 0) (hL122 : ∀ (x0 : Nat) (x1 : Int32) (x3 : Int32) (h : Hp), L122 x0 x1 x3 h → G w E 11 122 [(0, rv w.2.2.2 x0), (1, Value.int x1), (3, Value.int x3)] [] sh h 0 0) (hL144 : ∀ (x0 : Nat) (x1 : Int32) (x3 : Int32) (x4 : Int32) (x5 : Int32) (x6 : Int32) (x7 : Int32) (h : Hp), L144 x0 x1 x3 x4 x5 x6 x7 h → G w E 11 144 [(0, rv w.2.2.2 x0), (1, Value.int x1), (3, Value.int x3), (4, Value.int x4), (5, Value.int x5), (6, Value.int x6), (7, Value.int x7)] [] sh h 0 0) (hL392 : ∀ (x0 : Nat) (x1 : Int32) (x3 : Int32) (x4 : Int32) (x8 : Int32) (h : Hp), L392 x0 x1 x3 x4 x8 h → G w E 11 392 [(0, rv w.2.2.2 x0), (1, Value.int x1), (3, Value.int x3), (4, Value.int x4), (8, Value.int x8)] [] sh h 0 0) (hV : V_X12_sayParts_392 w sh x0 x1 x3 x4 x8 h L17 L64 L122 L144 L392 RET) : G w E 11 392 [(0, rv w.2.2.2 x0), (1, Value.int x1), (3, Value.int x3), (4, Value.int x4), (8, Value.int x8)] [] sh h 0 0 := by
  unfold V_X12_sayParts_392 at hV
  refine g_iload (pc := 392) X 4 rfl dX12_sayParts_392 ?_
  refine g_if_lt (pc := 394) X 435 dX12_sayParts_394 (by decide) (fun c1 => ?_) (fun c1 => ?_)
  · have hV := hV.1 c1
    refine g_lv [0, 1, 2, 3] rfl ?_
    exact W_X12_sayParts_435 X Tt hR hL17 hL64 hL122 hL144 hL392 hV
  · have hV := hV.2 c1
    refine g_aload_n (pc := 397) X 0 rfl rfl dX12_sayParts_397 ?_
    refine g_aload_n (pc := 398) X 0 rfl rfl dX12_sayParts_398 ?_
    obtain ⟨q2, hV⟩ := hV
    refine g_getR (pc := 399) X fl_X12_92 q2 dX12_sayParts_399 ?_
    refine g_iload_n (pc := 402) X 2 rfl rfl dX12_sayParts_402 ?_
    obtain ⟨n4, q3, hV⟩ := hV
    obtain ⟨q5, hV⟩ := hV
    refine g_iald (pc := 403) X q3 q5 dX12_sayParts_403 ?_
    refine g_bipush (pc := 404) (v := (7 : Int32)) X dX12_sayParts_404 (by decide) ?_
    refine g_iload (pc := 406) X 4 rfl dX12_sayParts_406 ?_
    refine g_imul (pc := 408) X dX12_sayParts_408 ?_
    refine g_ishr (pc := 409) X dX12_sayParts_409 ?_
    refine g_bipush (pc := 410) (v := (127 : Int32)) X dX12_sayParts_410 (by decide) ?_
    refine g_iand (pc := 412) X dX12_sayParts_412 ?_
    refine g_iload (pc := 413) X 4 rfl dX12_sayParts_413 ?_
    refine g_if_le (pc := 415) X 424 dX12_sayParts_415 (by decide) (fun c6 => ?_) (fun c6 => ?_)
    · have hV := hV.1 c6
      refine g_iconst (pc := 424) (v := (0 : Int32)) X dX12_sayParts_424 (by decide) ?_
      exact W_X12_sayParts_425 X Tt hR hL17 hL64 hL122 hL144 hL392 hV
    · have hV := hV.2 c6
      refine g_sipush (pc := 418) (v := (128 : Int32)) X dX12_sayParts_418 (by decide) ?_
      refine g_goto (pc := 421) X 425 dX12_sayParts_421 (by decide) ?_
      exact W_X12_sayParts_425 X Tt hR hL17 hL64 hL122 hL144 hL392 hV
def V_X12_sayParts_349 (w : Wd) (sh : List Sh) (x0 : Nat) (x1 : Int32) (x3 : Int32) (x4 : Int32) (x5 : Int32) (s0 : Int32) (h : Hp) (L17 : Nat → Int32 → Int32 → Int32 → Hp → Prop) (L64 : Nat → Int32 → Int32 → Int32 → Int32 → Int32 → Hp → Prop) (L122 : Nat → Int32 → Int32 → Hp → Prop) (L144 : Nat → Int32 → Int32 → Int32 → Int32 → Int32 → Int32 → Hp → Prop) (L392 : Nat → Int32 → Int32 → Int32 → Int32 → Hp → Prop) (RET : Hp → Prop) : Prop :=
  ∀ y1 : Int32, y1 = s0 → (((0 ≤ y1) → (shAt sh x0 = some (.inr 12) ∧ (∃ P5 : Hp → Prop, C_X12_addCode w sh x0 y1 h P5 ∧ (∀ h8 : Hp, P5 h8 → (((0 ≤ x4) → (V_X12_sayParts_435 w sh x0 x1 x3 x4 h8 L17 L64 L122 L144 L392 RET)) ∧ ((¬ 0 ≤ x4) → (((0 ≤ x5) → (V_X12_sayParts_435 w sh x0 x1 x3 x4 h8 L17 L64 L122 L144 L392 RET)) ∧ ((¬ 0 ≤ x5) → (∃ n12 : Nat, shAt sh (h8.2.1 x0 53) = some (.inl (1, n12)) ∧ (vp_in x3 n12 ∧ (∃ P14 : Int32 → Hp → Prop, C_X12_bigSize w sh ((h8.1 (h8.2.1 x0 53) x3.toNatClampNeg).toInt64) h8 P14 ∧ (∀ (v18 : Int32) (h17 : Hp), P14 v18 h17 → (∀ y19 : Int32, y19 = (v18 - (1 : Int32)) → (L392 x0 x1 x3 x4 y19 h17)))))))))))))) ∧ ((¬ 0 ≤ y1) → (shAt sh x0 = some (.inr 12) ∧ (∀ h22 : Hp, h22 = wI h x0 60 (1 : Int32) → (RET h22)))))
set_option maxRecDepth 20000 in
set_option maxHeartbeats 4000000 in
theorem W_X12_sayParts_349 {w : Wd} {E : GE} {sh : List Sh} {x0 : Nat} {x1 : Int32} {x3 : Int32} {x4 : Int32} {x5 : Int32} {s0 : Int32} {h : Hp} {L17 : Nat → Int32 → Int32 → Int32 → Hp → Prop} {L64 : Nat → Int32 → Int32 → Int32 → Int32 → Int32 → Hp → Prop} {L122 : Nat → Int32 → Int32 → Hp → Prop} {L144 : Nat → Int32 → Int32 → Int32 → Int32 → Int32 → Int32 → Hp → Prop} {L392 : Nat → Int32 → Int32 → Int32 → Int32 → Hp → Prop} {RET : Hp → Prop} (X : Cx w E cX12_sayParts 11 RX12) (Tt : Rt w E none sh.length 0 0 (fun q sh9 h9 => q = none ∧ sh9 = sh ∧ RET h9)) (hR : gR E = { frames := 2, cells := 0, slots := 0, locals := 47 }) (hL17 : ∀ (x0 : Nat) (x1 : Int32) (x2 : Int32) (x3 : Int32) (h : Hp), L17 x0 x1 x2 x3 h → G w E 11 17 [(0, rv w.2.2.2 x0), (1, Value.int x1), (2, Value.int x2), (3, Value.int x3)] [] sh h 0 0) (hL64 : ∀ (x0 : Nat) (x1 : Int32) (x2 : Int32) (x3 : Int32) (x4 : Int32) (x5 : Int32) (h : Hp), L64 x0 x1 x2 x3 x4 x5 h → G w E 11 64 [(0, rv w.2.2.2 x0), (1, Value.int x1), (2, Value.int x2), (3, Value.int x3), (4, Value.int x4), (5, Value.int x5)] [] sh h 0 0) (hL122 : ∀ (x0 : Nat) (x1 : Int32) (x3 : Int32) (h : Hp), L122 x0 x1 x3 h → G w E 11 122 [(0, rv w.2.2.2 x0), (1, Value.int x1), (3, Value.int x3)] [] sh h 0 0) (hL144 : ∀ (x0 : Nat) (x1 : Int32) (x3 : Int32) (x4 : Int32) (x5 : Int32) (x6 : Int32) (x7 : Int32) (h : Hp), L144 x0 x1 x3 x4 x5 x6 x7 h → G w E 11 144 [(0, rv w.2.2.2 x0), (1, Value.int x1), (3, Value.int x3), (4, Value.int x4), (5, Value.int x5), (6, Value.int x6), (7, Value.int x7)] [] sh h 0 0) (hL392 : ∀ (x0 : Nat) (x1 : Int32) (x3 : Int32) (x4 : Int32) (x8 : Int32) (h : Hp), L392 x0 x1 x3 x4 x8 h → G w E 11 392 [(0, rv w.2.2.2 x0), (1, Value.int x1), (3, Value.int x3), (4, Value.int x4), (8, Value.int x8)] [] sh h 0 0) (hV : V_X12_sayParts_349 w sh x0 x1 x3 x4 x5 s0 h L17 L64 L122 L144 L392 RET) : G w E 11 349 [(0, rv w.2.2.2 x0), (1, Value.int x1), (3, Value.int x3), (4, Value.int x4), (5, Value.int x5)] [Value.int s0] sh h 0 0 := by
  unfold V_X12_sayParts_349 at hV
  refine g_istore (pc := 349) X (i := 7) (rest := [(0, rv w.2.2.2 x0), (1, Value.int x1), (3, Value.int x3), (4, Value.int x4), (5, Value.int x5)]) (by decide) rfl dX12_sayParts_349 (fun y1 e2 => ?_)
  have hV := hV y1 e2
  refine g_iload (pc := 351) X 0 rfl dX12_sayParts_351 ?_
  refine g_if_ge (pc := 353) X 362 dX12_sayParts_353 (by decide) (fun c3 => ?_) (fun c3 => ?_)
  · have hV := hV.1 c3
    refine g_aload_n (pc := 362) X 1 rfl rfl dX12_sayParts_362 ?_
    refine g_iload (pc := 363) X 0 rfl dX12_sayParts_363 ?_
    obtain ⟨q4, hV⟩ := hV
    obtain ⟨P5, t6, hV⟩ := hV
    refine g_cVV (pc := 365) X (As := [Value.int y1]) ml_X12_328 rfl q4 t6 (by rw [hR]; exact ⟨by decide, by decide, by decide, by decide⟩) rfl rfl (Nat.zero_le _) dX12_sayParts_365 (fun h8 p7 => ?_)
    have hV := hV h8 p7
    refine g_iload (pc := 368) X 4 rfl dX12_sayParts_368 ?_
    refine g_if_ge (pc := 370) X 435 dX12_sayParts_370 (by decide) (fun c9 => ?_) (fun c9 => ?_)
    · have hV := hV.1 c9
      refine g_lv [1, 2, 3, 4] rfl ?_
      exact W_X12_sayParts_435 X Tt hR hL17 hL64 hL122 hL144 hL392 hV
    · have hV := hV.2 c9
      refine g_iload (pc := 373) X 5 rfl dX12_sayParts_373 ?_
      refine g_if_ge (pc := 375) X 435 dX12_sayParts_375 (by decide) (fun c10 => ?_) (fun c10 => ?_)
      · have hV := hV.1 c10
        refine g_lv [1, 2, 3, 4] rfl ?_
        exact W_X12_sayParts_435 X Tt hR hL17 hL64 hL122 hL144 hL392 hV
      · have hV := hV.2 c10
        refine g_aload_n (pc := 378) X 1 rfl rfl dX12_sayParts_378 ?_
        refine g_getR (pc := 379) X fl_X12_92 q4 dX12_sayParts_379 ?_
        refine g_iload_n (pc := 382) X 3 rfl rfl dX12_sayParts_382 ?_
        obtain ⟨n12, q11, hV⟩ := hV
        obtain ⟨q13, hV⟩ := hV
        refine g_iald (pc := 383) X q11 q13 dX12_sayParts_383 ?_
        refine g_i2l (pc := 384) X dX12_sayParts_384 ?_
        obtain ⟨P14, t15, hV⟩ := hV
        refine g_cSI (pc := 385) X (As := [Value.long ((h8.1 (h8.2.1 x0 53) x3.toNatClampNeg).toInt64)]) ml_X12_267 t15 (by rw [hR]; exact ⟨by decide, by decide, by decide, by decide⟩) rfl rfl (Nat.zero_le _) dX12_sayParts_385 (fun v18 h17 p16 => ?_)
        have hV := hV v18 h17 p16
        refine g_iconst (pc := 388) (v := (1 : Int32)) X dX12_sayParts_388 (by decide) ?_
        refine g_isub (pc := 389) X dX12_sayParts_389 ?_
        refine g_istore (pc := 390) X (i := 8) (rest := [(7, Value.int y1), (0, rv w.2.2.2 x0), (1, Value.int x1), (3, Value.int x3), (4, Value.int x4), (5, Value.int x5)]) (by decide) rfl dX12_sayParts_390 (fun y19 e20 => ?_)
        have hV := hV y19 e20
        refine g_lv [2, 3, 4, 5, 0] rfl ?_
        exact hL392 x0 x1 x3 x4 y19 h17 hV
  · have hV := hV.2 c3
    refine g_aload_n (pc := 356) X 1 rfl rfl dX12_sayParts_356 ?_
    refine g_iconst (pc := 357) (v := (1 : Int32)) X dX12_sayParts_357 (by decide) ?_
    obtain ⟨q21, hV⟩ := hV
    refine g_putI (pc := 358) X fl_X12_277 q21 rfl rfl dX12_sayParts_358 (fun h22 e23 => ?_)
    have hV := hV h22 e23
    exact g_vret (pc := 361) X Tt ⟨rfl, rfl, hV⟩ dX12_sayParts_361
def V_X12_sayParts_319 (w : Wd) (sh : List Sh) (x0 : Nat) (x1 : Int32) (x3 : Int32) (x5 : Int32) (x6 : Int32) (x7 : Int32) (s0 : Int32) (h : Hp) (L17 : Nat → Int32 → Int32 → Int32 → Hp → Prop) (L64 : Nat → Int32 → Int32 → Int32 → Int32 → Int32 → Hp → Prop) (L122 : Nat → Int32 → Int32 → Hp → Prop) (L144 : Nat → Int32 → Int32 → Int32 → Int32 → Int32 → Int32 → Hp → Prop) (L392 : Nat → Int32 → Int32 → Int32 → Int32 → Hp → Prop) (RET : Hp → Prop) : Prop :=
  ∀ y1 : Int32, y1 = s0 → (∀ y3 : Int32, y3 = x7 + (-1 : Int32) → (L144 x0 x1 x3 y1 x5 x6 y3 h))
set_option maxRecDepth 20000 in
set_option maxHeartbeats 4000000 in
theorem W_X12_sayParts_319 {w : Wd} {E : GE} {sh : List Sh} {x0 : Nat} {x1 : Int32} {x3 : Int32} {x5 : Int32} {x6 : Int32} {x7 : Int32} {s0 : Int32} {h : Hp} {L17 : Nat → Int32 → Int32 → Int32 → Hp → Prop} {L64 : Nat → Int32 → Int32 → Int32 → Int32 → Int32 → Hp → Prop} {L122 : Nat → Int32 → Int32 → Hp → Prop} {L144 : Nat → Int32 → Int32 → Int32 → Int32 → Int32 → Int32 → Hp → Prop} {L392 : Nat → Int32 → Int32 → Int32 → Int32 → Hp → Prop} {RET : Hp → Prop} (X : Cx w E cX12_sayParts 11 RX12) (Tt : Rt w E none sh.length 0 0 (fun q sh9 h9 => q = none ∧ sh9 = sh ∧ RET h9)) (hR : gR E = { frames := 2, cells := 0, slots := 0, locals := 47 }) (hL17 : ∀ (x0 : Nat) (x1 : Int32) (x2 : Int32) (x3 : Int32) (h : Hp), L17 x0 x1 x2 x3 h → G w E 11 17 [(0, rv w.2.2.2 x0), (1, Value.int x1), (2, Value.int x2), (3, Value.int x3)] [] sh h 0 0) (hL64 : ∀ (x0 : Nat) (x1 : Int32) (x2 : Int32) (x3 : Int32) (x4 : Int32) (x5 : Int32) (h : Hp), L64 x0 x1 x2 x3 x4 x5 h → G w E 11 64 [(0, rv w.2.2.2 x0), (1, Value.int x1), (2, Value.int x2), (3, Value.int x3), (4, Value.int x4), (5, Value.int x5)] [] sh h 0 0) (hL122 : ∀ (x0 : Nat) (x1 : Int32) (x3 : Int32) (h : Hp), L122 x0 x1 x3 h → G w E 11 122 [(0, rv w.2.2.2 x0), (1, Value.int x1), (3, Value.int x3)] [] sh h 0 0) (hL144 : ∀ (x0 : Nat) (x1 : Int32) (x3 : Int32) (x4 : Int32) (x5 : Int32) (x6 : Int32) (x7 : Int32) (h : Hp), L144 x0 x1 x3 x4 x5 x6 x7 h → G w E 11 144 [(0, rv w.2.2.2 x0), (1, Value.int x1), (3, Value.int x3), (4, Value.int x4), (5, Value.int x5), (6, Value.int x6), (7, Value.int x7)] [] sh h 0 0) (hL392 : ∀ (x0 : Nat) (x1 : Int32) (x3 : Int32) (x4 : Int32) (x8 : Int32) (h : Hp), L392 x0 x1 x3 x4 x8 h → G w E 11 392 [(0, rv w.2.2.2 x0), (1, Value.int x1), (3, Value.int x3), (4, Value.int x4), (8, Value.int x8)] [] sh h 0 0) (hV : V_X12_sayParts_319 w sh x0 x1 x3 x5 x6 x7 s0 h L17 L64 L122 L144 L392 RET) : G w E 11 319 [(0, rv w.2.2.2 x0), (1, Value.int x1), (3, Value.int x3), (5, Value.int x5), (6, Value.int x6), (7, Value.int x7)] [Value.int s0] sh h 0 0 := by
  unfold V_X12_sayParts_319 at hV
  refine g_istore (pc := 319) X (i := 4) (rest := [(0, rv w.2.2.2 x0), (1, Value.int x1), (3, Value.int x3), (5, Value.int x5), (6, Value.int x6), (7, Value.int x7)]) (by decide) rfl dX12_sayParts_319 (fun y1 e2 => ?_)
  have hV := hV y1 e2
  refine g_iinc (pc := 321) X 6 (v := (-1 : Int32)) (rest := [(4, Value.int y1), (0, rv w.2.2.2 x0), (1, Value.int x1), (3, Value.int x3), (5, Value.int x5), (6, Value.int x6)]) rfl (by decide) rfl (by decide) dX12_sayParts_321 (fun y3 e4 => ?_)
  have hV := hV y3 e4
  refine g_goto (pc := 324) X 144 dX12_sayParts_324 (by decide) ?_
  refine g_lv [2, 3, 4, 1, 5, 6, 0] rfl ?_
  exact hL144 x0 x1 x3 y1 x5 x6 y3 h hV
def V_X12_sayParts_305 (w : Wd) (sh : List Sh) (x0 : Nat) (x1 : Int32) (x3 : Int32) (x4 : Int32) (x5 : Int32) (x6 : Int32) (x7 : Int32) (s0 : Int32) (h : Hp) (L17 : Nat → Int32 → Int32 → Int32 → Hp → Prop) (L64 : Nat → Int32 → Int32 → Int32 → Int32 → Int32 → Hp → Prop) (L122 : Nat → Int32 → Int32 → Hp → Prop) (L144 : Nat → Int32 → Int32 → Int32 → Int32 → Int32 → Int32 → Hp → Prop) (L392 : Nat → Int32 → Int32 → Int32 → Int32 → Hp → Prop) (RET : Hp → Prop) : Prop :=
  ∀ y1 : Int32, y1 = s0 → (((y1 = 0) → (V_X12_sayParts_319 w sh x0 x1 x3 x5 x6 x7 x4 h L17 L64 L122 L144 L392 RET)) ∧ ((¬ y1 = 0) → (V_X12_sayParts_319 w sh x0 x1 x3 x5 x6 x7 x7 h L17 L64 L122 L144 L392 RET)))
set_option maxRecDepth 20000 in
set_option maxHeartbeats 4000000 in
theorem W_X12_sayParts_305 {w : Wd} {E : GE} {sh : List Sh} {x0 : Nat} {x1 : Int32} {x3 : Int32} {x4 : Int32} {x5 : Int32} {x6 : Int32} {x7 : Int32} {s0 : Int32} {h : Hp} {L17 : Nat → Int32 → Int32 → Int32 → Hp → Prop} {L64 : Nat → Int32 → Int32 → Int32 → Int32 → Int32 → Hp → Prop} {L122 : Nat → Int32 → Int32 → Hp → Prop} {L144 : Nat → Int32 → Int32 → Int32 → Int32 → Int32 → Int32 → Hp → Prop} {L392 : Nat → Int32 → Int32 → Int32 → Int32 → Hp → Prop} {RET : Hp → Prop} (X : Cx w E cX12_sayParts 11 RX12) (Tt : Rt w E none sh.length 0 0 (fun q sh9 h9 => q = none ∧ sh9 = sh ∧ RET h9)) (hR : gR E = { frames := 2, cells := 0, slots := 0, locals := 47 }) (hL17 : ∀ (x0 : Nat) (x1 : Int32) (x2 : Int32) (x3 : Int32) (h : Hp), L17 x0 x1 x2 x3 h → G w E 11 17 [(0, rv w.2.2.2 x0), (1, Value.int x1), (2, Value.int x2), (3, Value.int x3)] [] sh h 0 0) (hL64 : ∀ (x0 : Nat) (x1 : Int32) (x2 : Int32) (x3 : Int32) (x4 : Int32) (x5 : Int32) (h : Hp), L64 x0 x1 x2 x3 x4 x5 h → G w E 11 64 [(0, rv w.2.2.2 x0), (1, Value.int x1), (2, Value.int x2), (3, Value.int x3), (4, Value.int x4), (5, Value.int x5)] [] sh h 0 0) (hL122 : ∀ (x0 : Nat) (x1 : Int32) (x3 : Int32) (h : Hp), L122 x0 x1 x3 h → G w E 11 122 [(0, rv w.2.2.2 x0), (1, Value.int x1), (3, Value.int x3)] [] sh h 0 0) (hL144 : ∀ (x0 : Nat) (x1 : Int32) (x3 : Int32) (x4 : Int32) (x5 : Int32) (x6 : Int32) (x7 : Int32) (h : Hp), L144 x0 x1 x3 x4 x5 x6 x7 h → G w E 11 144 [(0, rv w.2.2.2 x0), (1, Value.int x1), (3, Value.int x3), (4, Value.int x4), (5, Value.int x5), (6, Value.int x6), (7, Value.int x7)] [] sh h 0 0) (hL392 : ∀ (x0 : Nat) (x1 : Int32) (x3 : Int32) (x4 : Int32) (x8 : Int32) (h : Hp), L392 x0 x1 x3 x4 x8 h → G w E 11 392 [(0, rv w.2.2.2 x0), (1, Value.int x1), (3, Value.int x3), (4, Value.int x4), (8, Value.int x8)] [] sh h 0 0) (hV : V_X12_sayParts_305 w sh x0 x1 x3 x4 x5 x6 x7 s0 h L17 L64 L122 L144 L392 RET) : G w E 11 305 [(0, rv w.2.2.2 x0), (1, Value.int x1), (3, Value.int x3), (4, Value.int x4), (5, Value.int x5), (6, Value.int x6), (7, Value.int x7)] [Value.int s0] sh h 0 0 := by
  unfold V_X12_sayParts_305 at hV
  refine g_istore (pc := 305) X (i := 10) (rest := [(0, rv w.2.2.2 x0), (1, Value.int x1), (3, Value.int x3), (4, Value.int x4), (5, Value.int x5), (6, Value.int x6), (7, Value.int x7)]) (by decide) rfl dX12_sayParts_305 (fun y1 e2 => ?_)
  have hV := hV y1 e2
  refine g_iload (pc := 307) X 0 rfl dX12_sayParts_307 ?_
  refine g_if_eq (pc := 309) X 317 dX12_sayParts_309 (by decide) (fun c3 => ?_) (fun c3 => ?_)
  · have hV := hV.1 c3
    refine g_iload (pc := 317) X 4 rfl dX12_sayParts_317 ?_
    refine g_lv [1, 2, 3, 5, 6, 7] rfl ?_
    exact W_X12_sayParts_319 X Tt hR hL17 hL64 hL122 hL144 hL392 hV
  · have hV := hV.2 c3
    refine g_iload (pc := 312) X 7 rfl dX12_sayParts_312 ?_
    refine g_goto (pc := 314) X 319 dX12_sayParts_314 (by decide) ?_
    refine g_lv [1, 2, 3, 5, 6, 7] rfl ?_
    exact W_X12_sayParts_319 X Tt hR hL17 hL64 hL122 hL144 hL392 hV
def V_X12_sayParts_304 (w : Wd) (sh : List Sh) (x0 : Nat) (x1 : Int32) (x3 : Int32) (x4 : Int32) (x5 : Int32) (x6 : Int32) (x7 : Int32) (h : Hp) (L17 : Nat → Int32 → Int32 → Int32 → Hp → Prop) (L64 : Nat → Int32 → Int32 → Int32 → Int32 → Int32 → Hp → Prop) (L122 : Nat → Int32 → Int32 → Hp → Prop) (L144 : Nat → Int32 → Int32 → Int32 → Int32 → Int32 → Int32 → Hp → Prop) (L392 : Nat → Int32 → Int32 → Int32 → Int32 → Hp → Prop) (RET : Hp → Prop) : Prop :=
  V_X12_sayParts_305 w sh x0 x1 x3 x4 x5 x6 x7 (0 : Int32) h L17 L64 L122 L144 L392 RET
set_option maxRecDepth 20000 in
set_option maxHeartbeats 4000000 in
theorem W_X12_sayParts_304 {w : Wd} {E : GE} {sh : List Sh} {x0 : Nat} {x1 : Int32} {x3 : Int32} {x4 : Int32} {x5 : Int32} {x6 : Int32} {x7 : Int32} {h : Hp} {L17 : Nat → Int32 → Int32 → Int32 → Hp → Prop} {L64 : Nat → Int32 → Int32 → Int32 → Int32 → Int32 → Hp → Prop} {L122 : Nat → Int32 → Int32 → Hp → Prop} {L144 : Nat → Int32 → Int32 → Int32 → Int32 → Int32 → Int32 → Hp → Prop} {L392 : Nat → Int32 → Int32 → Int32 → Int32 → Hp → Prop} {RET : Hp → Prop} (X : Cx w E cX12_sayParts 11 RX12) (Tt : Rt w E none sh.length 0 0 (fun q sh9 h9 => q = none ∧ sh9 = sh ∧ RET h9)) (hR : gR E = { frames := 2, cells := 0, slots := 0, locals := 47 }) (hL17 : ∀ (x0 : Nat) (x1 : Int32) (x2 : Int32) (x3 : Int32) (h : Hp), L17 x0 x1 x2 x3 h → G w E 11 17 [(0, rv w.2.2.2 x0), (1, Value.int x1), (2, Value.int x2), (3, Value.int x3)] [] sh h 0 0) (hL64 : ∀ (x0 : Nat) (x1 : Int32) (x2 : Int32) (x3 : Int32) (x4 : Int32) (x5 : Int32) (h : Hp), L64 x0 x1 x2 x3 x4 x5 h → G w E 11 64 [(0, rv w.2.2.2 x0), (1, Value.int x1), (2, Value.int x2), (3, Value.int x3), (4, Value.int x4), (5, Value.int x5)] [] sh h 0 0) (hL122 : ∀ (x0 : Nat) (x1 : Int32) (x3 : Int32) (h : Hp), L122 x0 x1 x3 h → G w E 11 122 [(0, rv w.2.2.2 x0), (1, Value.int x1), (3, Value.int x3)] [] sh h 0 0) (hL144 : ∀ (x0 : Nat) (x1 : Int32) (x3 : Int32) (x4 : Int32) (x5 : Int32) (x6 : Int32) (x7 : Int32) (h : Hp), L144 x0 x1 x3 x4 x5 x6 x7 h → G w E 11 144 [(0, rv w.2.2.2 x0), (1, Value.int x1), (3, Value.int x3), (4, Value.int x4), (5, Value.int x5), (6, Value.int x6), (7, Value.int x7)] [] sh h 0 0) (hL392 : ∀ (x0 : Nat) (x1 : Int32) (x3 : Int32) (x4 : Int32) (x8 : Int32) (h : Hp), L392 x0 x1 x3 x4 x8 h → G w E 11 392 [(0, rv w.2.2.2 x0), (1, Value.int x1), (3, Value.int x3), (4, Value.int x4), (8, Value.int x8)] [] sh h 0 0) (hV : V_X12_sayParts_304 w sh x0 x1 x3 x4 x5 x6 x7 h L17 L64 L122 L144 L392 RET) : G w E 11 304 [(0, rv w.2.2.2 x0), (1, Value.int x1), (3, Value.int x3), (4, Value.int x4), (5, Value.int x5), (6, Value.int x6), (7, Value.int x7)] [] sh h 0 0 := by
  unfold V_X12_sayParts_304 at hV
  refine g_iconst (pc := 304) (v := (0 : Int32)) X dX12_sayParts_304 (by decide) ?_
  exact W_X12_sayParts_305 X Tt hR hL17 hL64 hL122 hL144 hL392 hV
def V_X12_sayParts_226 (w : Wd) (sh : List Sh) (x0 : Nat) (x1 : Int32) (x3 : Int32) (x4 : Int32) (x5 : Int32) (x7 : Int32) (x8 : Int32) (s0 : Int32) (h : Hp) (L17 : Nat → Int32 → Int32 → Int32 → Hp → Prop) (L64 : Nat → Int32 → Int32 → Int32 → Int32 → Int32 → Hp → Prop) (L122 : Nat → Int32 → Int32 → Hp → Prop) (L144 : Nat → Int32 → Int32 → Int32 → Int32 → Int32 → Int32 → Hp → Prop) (L392 : Nat → Int32 → Int32 → Int32 → Int32 → Hp → Prop) (RET : Hp → Prop) : Prop :=
  ∀ y1 : Int32, y1 = s0 → (((x8 = 0) → (V_X12_sayParts_304 w sh x0 x1 x3 x4 x5 y1 x7 h L17 L64 L122 L144 L392 RET)) ∧ ((¬ x8 = 0) → (shAt sh x0 = some (.inr 12) ∧ ((((h.1 x0 51) ≤ (x3 + (1 : Int32))) → (V_X12_sayParts_304 w sh x0 x1 x3 x4 x5 y1 x7 h L17 L64 L122 L144 L392 RET)) ∧ ((¬ (h.1 x0 51) ≤ (x3 + (1 : Int32))) → (∃ P6 : Int32 → Hp → Prop, C_X12_entryOf w sh x0 x1 x7 (3 : Int32) h P6 ∧ (∀ (v10 : Int32) (h9 : Hp), P6 v10 h9 → (∃ n12 : Nat, shAt sh (h9.2.1 x0 52) = some (.inl (1, n12)) ∧ (vp_in (x3 + (1 : Int32)) n12 ∧ (((¬ v10 = (h9.1 (h9.2.1 x0 52) (x3 + (1 : Int32)).toNatClampNeg)) → (V_X12_sayParts_304 w sh x0 x1 x3 x4 x5 y1 x7 h9 L17 L64 L122 L144 L392 RET)) ∧ ((v10 = (h9.1 (h9.2.1 x0 52) (x3 + (1 : Int32)).toNatClampNeg)) → (∃ P15 : Int32 → Hp → Prop, C_X12_entryOf w sh x0 x1 x7 (4 : Int32) h9 P15 ∧ (∀ (v19 : Int32) (h18 : Hp), P15 v19 h18 → (∃ n21 : Nat, shAt sh (h18.2.1 x0 53) = some (.inl (1, n21)) ∧ (vp_in (x3 + (1 : Int32)) n21 ∧ (((¬ v19 = (h18.1 (h18.2.1 x0 53) (x3 + (1 : Int32)).toNatClampNeg)) → (V_X12_sayParts_304 w sh x0 x1 x3 x4 x5 y1 x7 h18 L17 L64 L122 L144 L392 RET)) ∧ ((v19 = (h18.1 (h18.2.1 x0 53) (x3 + (1 : Int32)).toNatClampNeg)) → (∃ P24 : Int32 → Hp → Prop, C_X12_entryOf w sh x0 x1 x7 (5 : Int32) h18 P24 ∧ (∀ (v28 : Int32) (h27 : Hp), P24 v28 h27 → (∃ n30 : Nat, shAt sh (h27.2.1 x0 55) = some (.inl (1, n30)) ∧ (vp_in (x3 + (1 : Int32)) n30 ∧ (((¬ v28 = (h27.1 (h27.2.1 x0 55) (x3 + (1 : Int32)).toNatClampNeg)) → (V_X12_sayParts_304 w sh x0 x1 x3 x4 x5 y1 x7 h27 L17 L64 L122 L144 L392 RET)) ∧ ((v28 = (h27.1 (h27.2.1 x0 55) (x3 + (1 : Int32)).toNatClampNeg)) → (V_X12_sayParts_305 w sh x0 x1 x3 x4 x5 y1 x7 (1 : Int32) h27 L17 L64 L122 L144 L392 RET))))))))))))))))))))))))
set_option maxRecDepth 20000 in
set_option maxHeartbeats 4000000 in
theorem W_X12_sayParts_226 {w : Wd} {E : GE} {sh : List Sh} {x0 : Nat} {x1 : Int32} {x3 : Int32} {x4 : Int32} {x5 : Int32} {x7 : Int32} {x8 : Int32} {s0 : Int32} {h : Hp} {L17 : Nat → Int32 → Int32 → Int32 → Hp → Prop} {L64 : Nat → Int32 → Int32 → Int32 → Int32 → Int32 → Hp → Prop} {L122 : Nat → Int32 → Int32 → Hp → Prop} {L144 : Nat → Int32 → Int32 → Int32 → Int32 → Int32 → Int32 → Hp → Prop} {L392 : Nat → Int32 → Int32 → Int32 → Int32 → Hp → Prop} {RET : Hp → Prop} (X : Cx w E cX12_sayParts 11 RX12) (Tt : Rt w E none sh.length 0 0 (fun q sh9 h9 => q = none ∧ sh9 = sh ∧ RET h9)) (hR : gR E = { frames := 2, cells := 0, slots := 0, locals := 47 }) (hL17 : ∀ (x0 : Nat) (x1 : Int32) (x2 : Int32) (x3 : Int32) (h : Hp), L17 x0 x1 x2 x3 h → G w E 11 17 [(0, rv w.2.2.2 x0), (1, Value.int x1), (2, Value.int x2), (3, Value.int x3)] [] sh h 0 0) (hL64 : ∀ (x0 : Nat) (x1 : Int32) (x2 : Int32) (x3 : Int32) (x4 : Int32) (x5 : Int32) (h : Hp), L64 x0 x1 x2 x3 x4 x5 h → G w E 11 64 [(0, rv w.2.2.2 x0), (1, Value.int x1), (2, Value.int x2), (3, Value.int x3), (4, Value.int x4), (5, Value.int x5)] [] sh h 0 0) (hL122 : ∀ (x0 : Nat) (x1 : Int32) (x3 : Int32) (h : Hp), L122 x0 x1 x3 h → G w E 11 122 [(0, rv w.2.2.2 x0), (1, Value.int x1), (3, Value.int x3)] [] sh h 0 0) (hL144 : ∀ (x0 : Nat) (x1 : Int32) (x3 : Int32) (x4 : Int32) (x5 : Int32) (x6 : Int32) (x7 : Int32) (h : Hp), L144 x0 x1 x3 x4 x5 x6 x7 h → G w E 11 144 [(0, rv w.2.2.2 x0), (1, Value.int x1), (3, Value.int x3), (4, Value.int x4), (5, Value.int x5), (6, Value.int x6), (7, Value.int x7)] [] sh h 0 0) (hL392 : ∀ (x0 : Nat) (x1 : Int32) (x3 : Int32) (x4 : Int32) (x8 : Int32) (h : Hp), L392 x0 x1 x3 x4 x8 h → G w E 11 392 [(0, rv w.2.2.2 x0), (1, Value.int x1), (3, Value.int x3), (4, Value.int x4), (8, Value.int x8)] [] sh h 0 0) (hV : V_X12_sayParts_226 w sh x0 x1 x3 x4 x5 x7 x8 s0 h L17 L64 L122 L144 L392 RET) : G w E 11 226 [(0, rv w.2.2.2 x0), (1, Value.int x1), (3, Value.int x3), (4, Value.int x4), (5, Value.int x5), (7, Value.int x7), (8, Value.int x8)] [Value.int s0] sh h 0 0 := by
  unfold V_X12_sayParts_226 at hV
  refine g_istore (pc := 226) X (i := 6) (rest := [(0, rv w.2.2.2 x0), (1, Value.int x1), (3, Value.int x3), (4, Value.int x4), (5, Value.int x5), (7, Value.int x7), (8, Value.int x8)]) (by decide) rfl dX12_sayParts_226 (fun y1 e2 => ?_)
  have hV := hV y1 e2
  refine g_iload (pc := 228) X 7 rfl dX12_sayParts_228 ?_
  refine g_if_eq (pc := 230) X 304 dX12_sayParts_230 (by decide) (fun c3 => ?_) (fun c3 => ?_)
  · have hV := hV.1 c3
    refine g_lv [1, 2, 3, 4, 5, 0, 6] rfl ?_
    exact W_X12_sayParts_304 X Tt hR hL17 hL64 hL122 hL144 hL392 hV
  · have hV := hV.2 c3
    refine g_iload_n (pc := 233) X 3 rfl rfl dX12_sayParts_233 ?_
    refine g_iconst (pc := 234) (v := (1 : Int32)) X dX12_sayParts_234 (by decide) ?_
    refine g_iadd (pc := 235) X dX12_sayParts_235 ?_
    refine g_aload_n (pc := 236) X 1 rfl rfl dX12_sayParts_236 ?_
    obtain ⟨q4, hV⟩ := hV
    refine g_getI (pc := 237) X fl_X12_314 q4 dX12_sayParts_237 ?_
    refine g_icmp_ge (pc := 240) X 304 dX12_sayParts_240 (by decide) (fun c5 => ?_) (fun c5 => ?_)
    · have hV := hV.1 c5
      refine g_lv [1, 2, 3, 4, 5, 0, 6] rfl ?_
      exact W_X12_sayParts_304 X Tt hR hL17 hL64 hL122 hL144 hL392 hV
    · have hV := hV.2 c5
      refine g_aload_n (pc := 243) X 1 rfl rfl dX12_sayParts_243 ?_
      refine g_iload_n (pc := 244) X 2 rfl rfl dX12_sayParts_244 ?_
      refine g_iload (pc := 245) X 6 rfl dX12_sayParts_245 ?_
      refine g_iconst (pc := 247) (v := (3 : Int32)) X dX12_sayParts_247 (by decide) ?_
      obtain ⟨P6, t7, hV⟩ := hV
      refine g_cVI (pc := 248) X (As := [Value.int x1, Value.int x7, Value.int (3 : Int32)]) ml_X12_126 rfl q4 t7 (by rw [hR]; exact ⟨by decide, by decide, by decide, by decide⟩) rfl rfl (Nat.zero_le _) dX12_sayParts_248 (fun v10 h9 p8 => ?_)
      have hV := hV v10 h9 p8
      refine g_aload_n (pc := 251) X 1 rfl rfl dX12_sayParts_251 ?_
      refine g_getR (pc := 252) X fl_X12_89 q4 dX12_sayParts_252 ?_
      refine g_iload_n (pc := 255) X 3 rfl rfl dX12_sayParts_255 ?_
      refine g_iconst (pc := 256) (v := (1 : Int32)) X dX12_sayParts_256 (by decide) ?_
      refine g_iadd (pc := 257) X dX12_sayParts_257 ?_
      obtain ⟨n12, q11, hV⟩ := hV
      obtain ⟨q13, hV⟩ := hV
      refine g_iald (pc := 258) X q11 q13 dX12_sayParts_258 ?_
      refine g_icmp_ne (pc := 259) X 304 dX12_sayParts_259 (by decide) (fun c14 => ?_) (fun c14 => ?_)
      · have hV := hV.1 c14
        refine g_lv [1, 2, 3, 4, 5, 0, 6] rfl ?_
        exact W_X12_sayParts_304 X Tt hR hL17 hL64 hL122 hL144 hL392 hV
      · have hV := hV.2 c14
        refine g_aload_n (pc := 262) X 1 rfl rfl dX12_sayParts_262 ?_
        refine g_iload_n (pc := 263) X 2 rfl rfl dX12_sayParts_263 ?_
        refine g_iload (pc := 264) X 6 rfl dX12_sayParts_264 ?_
        refine g_iconst (pc := 266) (v := (4 : Int32)) X dX12_sayParts_266 (by decide) ?_
        obtain ⟨P15, t16, hV⟩ := hV
        refine g_cVI (pc := 267) X (As := [Value.int x1, Value.int x7, Value.int (4 : Int32)]) ml_X12_126 rfl q4 t16 (by rw [hR]; exact ⟨by decide, by decide, by decide, by decide⟩) rfl rfl (Nat.zero_le _) dX12_sayParts_267 (fun v19 h18 p17 => ?_)
        have hV := hV v19 h18 p17
        refine g_aload_n (pc := 270) X 1 rfl rfl dX12_sayParts_270 ?_
        refine g_getR (pc := 271) X fl_X12_92 q4 dX12_sayParts_271 ?_
        refine g_iload_n (pc := 274) X 3 rfl rfl dX12_sayParts_274 ?_
        refine g_iconst (pc := 275) (v := (1 : Int32)) X dX12_sayParts_275 (by decide) ?_
        refine g_iadd (pc := 276) X dX12_sayParts_276 ?_
        obtain ⟨n21, q20, hV⟩ := hV
        obtain ⟨q22, hV⟩ := hV
        refine g_iald (pc := 277) X q20 q22 dX12_sayParts_277 ?_
        refine g_icmp_ne (pc := 278) X 304 dX12_sayParts_278 (by decide) (fun c23 => ?_) (fun c23 => ?_)
        · have hV := hV.1 c23
          refine g_lv [1, 2, 3, 4, 5, 0, 6] rfl ?_
          exact W_X12_sayParts_304 X Tt hR hL17 hL64 hL122 hL144 hL392 hV
        · have hV := hV.2 c23
          refine g_aload_n (pc := 281) X 1 rfl rfl dX12_sayParts_281 ?_
          refine g_iload_n (pc := 282) X 2 rfl rfl dX12_sayParts_282 ?_
          refine g_iload (pc := 283) X 6 rfl dX12_sayParts_283 ?_
          refine g_iconst (pc := 285) (v := (5 : Int32)) X dX12_sayParts_285 (by decide) ?_
          obtain ⟨P24, t25, hV⟩ := hV
          refine g_cVI (pc := 286) X (As := [Value.int x1, Value.int x7, Value.int (5 : Int32)]) ml_X12_126 rfl q4 t25 (by rw [hR]; exact ⟨by decide, by decide, by decide, by decide⟩) rfl rfl (Nat.zero_le _) dX12_sayParts_286 (fun v28 h27 p26 => ?_)
          have hV := hV v28 h27 p26
          refine g_aload_n (pc := 289) X 1 rfl rfl dX12_sayParts_289 ?_
          refine g_getR (pc := 290) X fl_X12_98 q4 dX12_sayParts_290 ?_
          refine g_iload_n (pc := 293) X 3 rfl rfl dX12_sayParts_293 ?_
          refine g_iconst (pc := 294) (v := (1 : Int32)) X dX12_sayParts_294 (by decide) ?_
          refine g_iadd (pc := 295) X dX12_sayParts_295 ?_
          obtain ⟨n30, q29, hV⟩ := hV
          obtain ⟨q31, hV⟩ := hV
          refine g_iald (pc := 296) X q29 q31 dX12_sayParts_296 ?_
          refine g_icmp_ne (pc := 297) X 304 dX12_sayParts_297 (by decide) (fun c32 => ?_) (fun c32 => ?_)
          · have hV := hV.1 c32
            refine g_lv [1, 2, 3, 4, 5, 0, 6] rfl ?_
            exact W_X12_sayParts_304 X Tt hR hL17 hL64 hL122 hL144 hL392 hV
          · have hV := hV.2 c32
            refine g_iconst (pc := 300) (v := (1 : Int32)) X dX12_sayParts_300 (by decide) ?_
            refine g_goto (pc := 301) X 305 dX12_sayParts_301 (by decide) ?_
            refine g_lv [1, 2, 3, 4, 5, 0, 6] rfl ?_
            exact W_X12_sayParts_305 X Tt hR hL17 hL64 hL122 hL144 hL392 hV
def V_X12_sayParts_224 (w : Wd) (sh : List Sh) (x0 : Nat) (x1 : Int32) (x3 : Int32) (x4 : Int32) (x5 : Int32) (x6 : Int32) (x7 : Int32) (x8 : Int32) (h : Hp) (L17 : Nat → Int32 → Int32 → Int32 → Hp → Prop) (L64 : Nat → Int32 → Int32 → Int32 → Int32 → Int32 → Hp → Prop) (L122 : Nat → Int32 → Int32 → Hp → Prop) (L144 : Nat → Int32 → Int32 → Int32 → Int32 → Int32 → Int32 → Hp → Prop) (L392 : Nat → Int32 → Int32 → Int32 → Int32 → Hp → Prop) (RET : Hp → Prop) : Prop :=
  V_X12_sayParts_226 w sh x0 x1 x3 x4 x5 x7 x8 x6 h L17 L64 L122 L144 L392 RET
set_option maxRecDepth 20000 in
set_option maxHeartbeats 4000000 in
theorem W_X12_sayParts_224 {w : Wd} {E : GE} {sh : List Sh} {x0 : Nat} {x1 : Int32} {x3 : Int32} {x4 : Int32} {x5 : Int32} {x6 : Int32} {x7 : Int32} {x8 : Int32} {h : Hp} {L17 : Nat → Int32 → Int32 → Int32 → Hp → Prop} {L64 : Nat → Int32 → Int32 → Int32 → Int32 → Int32 → Hp → Prop} {L122 : Nat → Int32 → Int32 → Hp → Prop} {L144 : Nat → Int32 → Int32 → Int32 → Int32 → Int32 → Int32 → Hp → Prop} {L392 : Nat → Int32 → Int32 → Int32 → Int32 → Hp → Prop} {RET : Hp → Prop} (X : Cx w E cX12_sayParts 11 RX12) (Tt : Rt w E none sh.length 0 0 (fun q sh9 h9 => q = none ∧ sh9 = sh ∧ RET h9)) (hR : gR E = { frames := 2, cells := 0, slots := 0, locals := 47 }) (hL17 : ∀ (x0 : Nat) (x1 : Int32) (x2 : Int32) (x3 : Int32) (h : Hp), L17 x0 x1 x2 x3 h → G w E 11 17 [(0, rv w.2.2.2 x0), (1, Value.int x1), (2, Value.int x2), (3, Value.int x3)] [] sh h 0 0) (hL64 : ∀ (x0 : Nat) (x1 : Int32) (x2 : Int32) (x3 : Int32) (x4 : Int32) (x5 : Int32) (h : Hp), L64 x0 x1 x2 x3 x4 x5 h → G w E 11 64 [(0, rv w.2.2.2 x0), (1, Value.int x1), (2, Value.int x2), (3, Value.int x3), (4, Value.int x4), (5, Value.int x5)] [] sh h 0 0) (hL122 : ∀ (x0 : Nat) (x1 : Int32) (x3 : Int32) (h : Hp), L122 x0 x1 x3 h → G w E 11 122 [(0, rv w.2.2.2 x0), (1, Value.int x1), (3, Value.int x3)] [] sh h 0 0) (hL144 : ∀ (x0 : Nat) (x1 : Int32) (x3 : Int32) (x4 : Int32) (x5 : Int32) (x6 : Int32) (x7 : Int32) (h : Hp), L144 x0 x1 x3 x4 x5 x6 x7 h → G w E 11 144 [(0, rv w.2.2.2 x0), (1, Value.int x1), (3, Value.int x3), (4, Value.int x4), (5, Value.int x5), (6, Value.int x6), (7, Value.int x7)] [] sh h 0 0) (hL392 : ∀ (x0 : Nat) (x1 : Int32) (x3 : Int32) (x4 : Int32) (x8 : Int32) (h : Hp), L392 x0 x1 x3 x4 x8 h → G w E 11 392 [(0, rv w.2.2.2 x0), (1, Value.int x1), (3, Value.int x3), (4, Value.int x4), (8, Value.int x8)] [] sh h 0 0) (hV : V_X12_sayParts_224 w sh x0 x1 x3 x4 x5 x6 x7 x8 h L17 L64 L122 L144 L392 RET) : G w E 11 224 [(0, rv w.2.2.2 x0), (1, Value.int x1), (3, Value.int x3), (4, Value.int x4), (5, Value.int x5), (6, Value.int x6), (7, Value.int x7), (8, Value.int x8)] [] sh h 0 0 := by
  unfold V_X12_sayParts_224 at hV
  refine g_iload (pc := 224) X 5 rfl dX12_sayParts_224 ?_
  refine g_lv [0, 1, 2, 3, 4, 6, 7] rfl ?_
  exact W_X12_sayParts_226 X Tt hR hL17 hL64 hL122 hL144 hL392 hV
def V_X12_sayParts_200 (w : Wd) (sh : List Sh) (x0 : Nat) (x1 : Int32) (x3 : Int32) (x4 : Int32) (x6 : Int32) (x7 : Int32) (x8 : Int32) (x9 : Int32) (s0 : Int32) (h : Hp) (L17 : Nat → Int32 → Int32 → Int32 → Hp → Prop) (L64 : Nat → Int32 → Int32 → Int32 → Int32 → Int32 → Hp → Prop) (L122 : Nat → Int32 → Int32 → Hp → Prop) (L144 : Nat → Int32 → Int32 → Int32 → Int32 → Int32 → Int32 → Hp → Prop) (L392 : Nat → Int32 → Int32 → Int32 → Int32 → Hp → Prop) (RET : Hp → Prop) : Prop :=
  ∀ y1 : Int32, y1 = s0 → (((x9 = 0) → (V_X12_sayParts_224 w sh x0 x1 x3 x4 y1 x6 x7 x8 h L17 L64 L122 L144 L392 RET)) ∧ ((¬ x9 = 0) → (shAt sh x0 = some (.inr 12) ∧ (∃ P5 : Int32 → Hp → Prop, C_X12_isFirst w sh x0 x1 x7 x3 (0 : Int32) h P5 ∧ (∀ (v9 : Int32) (h8 : Hp), P5 v9 h8 → (((v9 = 0) → (V_X12_sayParts_224 w sh x0 x1 x3 x4 y1 x6 x7 x8 h8 L17 L64 L122 L144 L392 RET)) ∧ ((¬ v9 = 0) → (V_X12_sayParts_226 w sh x0 x1 x3 x4 y1 x7 x8 x7 h8 L17 L64 L122 L144 L392 RET))))))))
set_option maxRecDepth 20000 in
set_option maxHeartbeats 4000000 in
theorem W_X12_sayParts_200 {w : Wd} {E : GE} {sh : List Sh} {x0 : Nat} {x1 : Int32} {x3 : Int32} {x4 : Int32} {x6 : Int32} {x7 : Int32} {x8 : Int32} {x9 : Int32} {s0 : Int32} {h : Hp} {L17 : Nat → Int32 → Int32 → Int32 → Hp → Prop} {L64 : Nat → Int32 → Int32 → Int32 → Int32 → Int32 → Hp → Prop} {L122 : Nat → Int32 → Int32 → Hp → Prop} {L144 : Nat → Int32 → Int32 → Int32 → Int32 → Int32 → Int32 → Hp → Prop} {L392 : Nat → Int32 → Int32 → Int32 → Int32 → Hp → Prop} {RET : Hp → Prop} (X : Cx w E cX12_sayParts 11 RX12) (Tt : Rt w E none sh.length 0 0 (fun q sh9 h9 => q = none ∧ sh9 = sh ∧ RET h9)) (hR : gR E = { frames := 2, cells := 0, slots := 0, locals := 47 }) (hL17 : ∀ (x0 : Nat) (x1 : Int32) (x2 : Int32) (x3 : Int32) (h : Hp), L17 x0 x1 x2 x3 h → G w E 11 17 [(0, rv w.2.2.2 x0), (1, Value.int x1), (2, Value.int x2), (3, Value.int x3)] [] sh h 0 0) (hL64 : ∀ (x0 : Nat) (x1 : Int32) (x2 : Int32) (x3 : Int32) (x4 : Int32) (x5 : Int32) (h : Hp), L64 x0 x1 x2 x3 x4 x5 h → G w E 11 64 [(0, rv w.2.2.2 x0), (1, Value.int x1), (2, Value.int x2), (3, Value.int x3), (4, Value.int x4), (5, Value.int x5)] [] sh h 0 0) (hL122 : ∀ (x0 : Nat) (x1 : Int32) (x3 : Int32) (h : Hp), L122 x0 x1 x3 h → G w E 11 122 [(0, rv w.2.2.2 x0), (1, Value.int x1), (3, Value.int x3)] [] sh h 0 0) (hL144 : ∀ (x0 : Nat) (x1 : Int32) (x3 : Int32) (x4 : Int32) (x5 : Int32) (x6 : Int32) (x7 : Int32) (h : Hp), L144 x0 x1 x3 x4 x5 x6 x7 h → G w E 11 144 [(0, rv w.2.2.2 x0), (1, Value.int x1), (3, Value.int x3), (4, Value.int x4), (5, Value.int x5), (6, Value.int x6), (7, Value.int x7)] [] sh h 0 0) (hL392 : ∀ (x0 : Nat) (x1 : Int32) (x3 : Int32) (x4 : Int32) (x8 : Int32) (h : Hp), L392 x0 x1 x3 x4 x8 h → G w E 11 392 [(0, rv w.2.2.2 x0), (1, Value.int x1), (3, Value.int x3), (4, Value.int x4), (8, Value.int x8)] [] sh h 0 0) (hV : V_X12_sayParts_200 w sh x0 x1 x3 x4 x6 x7 x8 x9 s0 h L17 L64 L122 L144 L392 RET) : G w E 11 200 [(0, rv w.2.2.2 x0), (1, Value.int x1), (3, Value.int x3), (4, Value.int x4), (6, Value.int x6), (7, Value.int x7), (8, Value.int x8), (9, Value.int x9)] [Value.int s0] sh h 0 0 := by
  unfold V_X12_sayParts_200 at hV
  refine g_istore (pc := 200) X (i := 5) (rest := [(0, rv w.2.2.2 x0), (1, Value.int x1), (3, Value.int x3), (4, Value.int x4), (6, Value.int x6), (7, Value.int x7), (8, Value.int x8), (9, Value.int x9)]) (by decide) rfl dX12_sayParts_200 (fun y1 e2 => ?_)
  have hV := hV y1 e2
  refine g_iload (pc := 202) X 8 rfl dX12_sayParts_202 ?_
  refine g_if_eq (pc := 204) X 224 dX12_sayParts_204 (by decide) (fun c3 => ?_) (fun c3 => ?_)
  · have hV := hV.1 c3
    refine g_lv [1, 2, 3, 4, 0, 5, 6, 7] rfl ?_
    exact W_X12_sayParts_224 X Tt hR hL17 hL64 hL122 hL144 hL392 hV
  · have hV := hV.2 c3
    refine g_aload_n (pc := 207) X 1 rfl rfl dX12_sayParts_207 ?_
    refine g_iload_n (pc := 208) X 2 rfl rfl dX12_sayParts_208 ?_
    refine g_iload (pc := 209) X 6 rfl dX12_sayParts_209 ?_
    refine g_iload_n (pc := 211) X 3 rfl rfl dX12_sayParts_211 ?_
    refine g_iconst (pc := 212) (v := (0 : Int32)) X dX12_sayParts_212 (by decide) ?_
    obtain ⟨q4, hV⟩ := hV
    obtain ⟨P5, t6, hV⟩ := hV
    refine g_cVI (pc := 213) X (As := [Value.int x1, Value.int x7, Value.int x3, Value.int (0 : Int32)]) ml_X12_324 rfl q4 t6 (by rw [hR]; exact ⟨by decide, by decide, by decide, by decide⟩) rfl rfl (Nat.zero_le _) dX12_sayParts_213 (fun v9 h8 p7 => ?_)
    have hV := hV v9 h8 p7
    refine g_if_eq (pc := 216) X 224 dX12_sayParts_216 (by decide) (fun c10 => ?_) (fun c10 => ?_)
    · have hV := hV.1 c10
      refine g_lv [1, 2, 3, 4, 0, 5, 6, 7] rfl ?_
      exact W_X12_sayParts_224 X Tt hR hL17 hL64 hL122 hL144 hL392 hV
    · have hV := hV.2 c10
      refine g_iload (pc := 219) X 6 rfl dX12_sayParts_219 ?_
      refine g_goto (pc := 221) X 226 dX12_sayParts_221 (by decide) ?_
      refine g_lv [1, 2, 3, 4, 0, 6, 7] rfl ?_
      exact W_X12_sayParts_226 X Tt hR hL17 hL64 hL122 hL144 hL392 hV
def V_X12_sayParts_198 (w : Wd) (sh : List Sh) (x0 : Nat) (x1 : Int32) (x3 : Int32) (x4 : Int32) (x5 : Int32) (x6 : Int32) (x7 : Int32) (x8 : Int32) (x9 : Int32) (h : Hp) (L17 : Nat → Int32 → Int32 → Int32 → Hp → Prop) (L64 : Nat → Int32 → Int32 → Int32 → Int32 → Int32 → Hp → Prop) (L122 : Nat → Int32 → Int32 → Hp → Prop) (L144 : Nat → Int32 → Int32 → Int32 → Int32 → Int32 → Int32 → Hp → Prop) (L392 : Nat → Int32 → Int32 → Int32 → Int32 → Hp → Prop) (RET : Hp → Prop) : Prop :=
  V_X12_sayParts_200 w sh x0 x1 x3 x4 x6 x7 x8 x9 x5 h L17 L64 L122 L144 L392 RET
set_option maxRecDepth 20000 in
set_option maxHeartbeats 4000000 in
theorem W_X12_sayParts_198 {w : Wd} {E : GE} {sh : List Sh} {x0 : Nat} {x1 : Int32} {x3 : Int32} {x4 : Int32} {x5 : Int32} {x6 : Int32} {x7 : Int32} {x8 : Int32} {x9 : Int32} {h : Hp} {L17 : Nat → Int32 → Int32 → Int32 → Hp → Prop} {L64 : Nat → Int32 → Int32 → Int32 → Int32 → Int32 → Hp → Prop} {L122 : Nat → Int32 → Int32 → Hp → Prop} {L144 : Nat → Int32 → Int32 → Int32 → Int32 → Int32 → Int32 → Hp → Prop} {L392 : Nat → Int32 → Int32 → Int32 → Int32 → Hp → Prop} {RET : Hp → Prop} (X : Cx w E cX12_sayParts 11 RX12) (Tt : Rt w E none sh.length 0 0 (fun q sh9 h9 => q = none ∧ sh9 = sh ∧ RET h9)) (hR : gR E = { frames := 2, cells := 0, slots := 0, locals := 47 }) (hL17 : ∀ (x0 : Nat) (x1 : Int32) (x2 : Int32) (x3 : Int32) (h : Hp), L17 x0 x1 x2 x3 h → G w E 11 17 [(0, rv w.2.2.2 x0), (1, Value.int x1), (2, Value.int x2), (3, Value.int x3)] [] sh h 0 0) (hL64 : ∀ (x0 : Nat) (x1 : Int32) (x2 : Int32) (x3 : Int32) (x4 : Int32) (x5 : Int32) (h : Hp), L64 x0 x1 x2 x3 x4 x5 h → G w E 11 64 [(0, rv w.2.2.2 x0), (1, Value.int x1), (2, Value.int x2), (3, Value.int x3), (4, Value.int x4), (5, Value.int x5)] [] sh h 0 0) (hL122 : ∀ (x0 : Nat) (x1 : Int32) (x3 : Int32) (h : Hp), L122 x0 x1 x3 h → G w E 11 122 [(0, rv w.2.2.2 x0), (1, Value.int x1), (3, Value.int x3)] [] sh h 0 0) (hL144 : ∀ (x0 : Nat) (x1 : Int32) (x3 : Int32) (x4 : Int32) (x5 : Int32) (x6 : Int32) (x7 : Int32) (h : Hp), L144 x0 x1 x3 x4 x5 x6 x7 h → G w E 11 144 [(0, rv w.2.2.2 x0), (1, Value.int x1), (3, Value.int x3), (4, Value.int x4), (5, Value.int x5), (6, Value.int x6), (7, Value.int x7)] [] sh h 0 0) (hL392 : ∀ (x0 : Nat) (x1 : Int32) (x3 : Int32) (x4 : Int32) (x8 : Int32) (h : Hp), L392 x0 x1 x3 x4 x8 h → G w E 11 392 [(0, rv w.2.2.2 x0), (1, Value.int x1), (3, Value.int x3), (4, Value.int x4), (8, Value.int x8)] [] sh h 0 0) (hV : V_X12_sayParts_198 w sh x0 x1 x3 x4 x5 x6 x7 x8 x9 h L17 L64 L122 L144 L392 RET) : G w E 11 198 [(0, rv w.2.2.2 x0), (1, Value.int x1), (3, Value.int x3), (4, Value.int x4), (5, Value.int x5), (6, Value.int x6), (7, Value.int x7), (8, Value.int x8), (9, Value.int x9)] [] sh h 0 0 := by
  unfold V_X12_sayParts_198 at hV
  refine g_iload (pc := 198) X 4 rfl dX12_sayParts_198 ?_
  refine g_lv [0, 1, 2, 3, 5, 6, 7, 8] rfl ?_
  exact W_X12_sayParts_200 X Tt hR hL17 hL64 hL122 hL144 hL392 hV
def V_X12_sayParts_181 (w : Wd) (sh : List Sh) (x0 : Nat) (x1 : Int32) (x3 : Int32) (x4 : Int32) (x5 : Int32) (x6 : Int32) (x7 : Int32) (x8 : Int32) (s0 : Int32) (h : Hp) (L17 : Nat → Int32 → Int32 → Int32 → Hp → Prop) (L64 : Nat → Int32 → Int32 → Int32 → Int32 → Int32 → Hp → Prop) (L122 : Nat → Int32 → Int32 → Hp → Prop) (L144 : Nat → Int32 → Int32 → Int32 → Int32 → Int32 → Int32 → Hp → Prop) (L392 : Nat → Int32 → Int32 → Int32 → Int32 → Hp → Prop) (RET : Hp → Prop) : Prop :=
  ∀ y1 : Int32, y1 = s0 → (((x8 = 0) → (V_X12_sayParts_198 w sh x0 x1 x3 x4 x5 x6 x7 x8 y1 h L17 L64 L122 L144 L392 RET)) ∧ ((¬ x8 = 0) → (((y1 = 0) → (V_X12_sayParts_198 w sh x0 x1 x3 x4 x5 x6 x7 x8 y1 h L17 L64 L122 L144 L392 RET)) ∧ ((¬ y1 = 0) → (V_X12_sayParts_200 w sh x0 x1 x3 x4 x6 x7 x8 y1 x7 h L17 L64 L122 L144 L392 RET)))))
set_option maxRecDepth 20000 in
set_option maxHeartbeats 4000000 in
theorem W_X12_sayParts_181 {w : Wd} {E : GE} {sh : List Sh} {x0 : Nat} {x1 : Int32} {x3 : Int32} {x4 : Int32} {x5 : Int32} {x6 : Int32} {x7 : Int32} {x8 : Int32} {s0 : Int32} {h : Hp} {L17 : Nat → Int32 → Int32 → Int32 → Hp → Prop} {L64 : Nat → Int32 → Int32 → Int32 → Int32 → Int32 → Hp → Prop} {L122 : Nat → Int32 → Int32 → Hp → Prop} {L144 : Nat → Int32 → Int32 → Int32 → Int32 → Int32 → Int32 → Hp → Prop} {L392 : Nat → Int32 → Int32 → Int32 → Int32 → Hp → Prop} {RET : Hp → Prop} (X : Cx w E cX12_sayParts 11 RX12) (Tt : Rt w E none sh.length 0 0 (fun q sh9 h9 => q = none ∧ sh9 = sh ∧ RET h9)) (hR : gR E = { frames := 2, cells := 0, slots := 0, locals := 47 }) (hL17 : ∀ (x0 : Nat) (x1 : Int32) (x2 : Int32) (x3 : Int32) (h : Hp), L17 x0 x1 x2 x3 h → G w E 11 17 [(0, rv w.2.2.2 x0), (1, Value.int x1), (2, Value.int x2), (3, Value.int x3)] [] sh h 0 0) (hL64 : ∀ (x0 : Nat) (x1 : Int32) (x2 : Int32) (x3 : Int32) (x4 : Int32) (x5 : Int32) (h : Hp), L64 x0 x1 x2 x3 x4 x5 h → G w E 11 64 [(0, rv w.2.2.2 x0), (1, Value.int x1), (2, Value.int x2), (3, Value.int x3), (4, Value.int x4), (5, Value.int x5)] [] sh h 0 0) (hL122 : ∀ (x0 : Nat) (x1 : Int32) (x3 : Int32) (h : Hp), L122 x0 x1 x3 h → G w E 11 122 [(0, rv w.2.2.2 x0), (1, Value.int x1), (3, Value.int x3)] [] sh h 0 0) (hL144 : ∀ (x0 : Nat) (x1 : Int32) (x3 : Int32) (x4 : Int32) (x5 : Int32) (x6 : Int32) (x7 : Int32) (h : Hp), L144 x0 x1 x3 x4 x5 x6 x7 h → G w E 11 144 [(0, rv w.2.2.2 x0), (1, Value.int x1), (3, Value.int x3), (4, Value.int x4), (5, Value.int x5), (6, Value.int x6), (7, Value.int x7)] [] sh h 0 0) (hL392 : ∀ (x0 : Nat) (x1 : Int32) (x3 : Int32) (x4 : Int32) (x8 : Int32) (h : Hp), L392 x0 x1 x3 x4 x8 h → G w E 11 392 [(0, rv w.2.2.2 x0), (1, Value.int x1), (3, Value.int x3), (4, Value.int x4), (8, Value.int x8)] [] sh h 0 0) (hV : V_X12_sayParts_181 w sh x0 x1 x3 x4 x5 x6 x7 x8 s0 h L17 L64 L122 L144 L392 RET) : G w E 11 181 [(0, rv w.2.2.2 x0), (1, Value.int x1), (3, Value.int x3), (4, Value.int x4), (5, Value.int x5), (6, Value.int x6), (7, Value.int x7), (8, Value.int x8)] [Value.int s0] sh h 0 0 := by
  unfold V_X12_sayParts_181 at hV
  refine g_istore (pc := 181) X (i := 9) (rest := [(0, rv w.2.2.2 x0), (1, Value.int x1), (3, Value.int x3), (4, Value.int x4), (5, Value.int x5), (6, Value.int x6), (7, Value.int x7), (8, Value.int x8)]) (by decide) rfl dX12_sayParts_181 (fun y1 e2 => ?_)
  have hV := hV y1 e2
  refine g_iload (pc := 183) X 8 rfl dX12_sayParts_183 ?_
  refine g_if_eq (pc := 185) X 198 dX12_sayParts_185 (by decide) (fun c3 => ?_) (fun c3 => ?_)
  · have hV := hV.1 c3
    refine g_lv [1, 2, 3, 4, 5, 6, 7, 8, 0] rfl ?_
    exact W_X12_sayParts_198 X Tt hR hL17 hL64 hL122 hL144 hL392 hV
  · have hV := hV.2 c3
    refine g_iload (pc := 188) X 0 rfl dX12_sayParts_188 ?_
    refine g_if_eq (pc := 190) X 198 dX12_sayParts_190 (by decide) (fun c4 => ?_) (fun c4 => ?_)
    · have hV := hV.1 c4
      refine g_lv [1, 2, 3, 4, 5, 6, 7, 8, 0] rfl ?_
      exact W_X12_sayParts_198 X Tt hR hL17 hL64 hL122 hL144 hL392 hV
    · have hV := hV.2 c4
      refine g_iload (pc := 193) X 7 rfl dX12_sayParts_193 ?_
      refine g_goto (pc := 195) X 200 dX12_sayParts_195 (by decide) ?_
      refine g_lv [1, 2, 3, 4, 6, 7, 8, 0] rfl ?_
      exact W_X12_sayParts_200 X Tt hR hL17 hL64 hL122 hL144 hL392 hV
def V_X12_sayParts_144 (w : Wd) (sh : List Sh) (x0 : Nat) (x1 : Int32) (x3 : Int32) (x4 : Int32) (x5 : Int32) (x6 : Int32) (x7 : Int32) (h : Hp) (L17 : Nat → Int32 → Int32 → Int32 → Hp → Prop) (L64 : Nat → Int32 → Int32 → Int32 → Int32 → Int32 → Hp → Prop) (L122 : Nat → Int32 → Int32 → Hp → Prop) (L144 : Nat → Int32 → Int32 → Int32 → Int32 → Int32 → Int32 → Hp → Prop) (L392 : Nat → Int32 → Int32 → Int32 → Int32 → Hp → Prop) (RET : Hp → Prop) : Prop :=
  ((x7 < 0) → (((x4 < 0) → (((x5 < 0) → (V_X12_sayParts_349 w sh x0 x1 x3 x4 x5 x6 h L17 L64 L122 L144 L392 RET)) ∧ ((¬ x5 < 0) → (V_X12_sayParts_349 w sh x0 x1 x3 x4 x5 x5 h L17 L64 L122 L144 L392 RET)))) ∧ ((¬ x4 < 0) → (V_X12_sayParts_349 w sh x0 x1 x3 x4 x5 x4 h L17 L64 L122 L144 L392 RET)))) ∧ ((¬ x7 < 0) → (shAt sh x0 = some (.inr 12) ∧ (∃ n6 : Nat, shAt sh (h.2.1 x0 53) = some (.inl (1, n6)) ∧ (vp_in x3 n6 ∧ (∃ P8 : Int32 → Hp → Prop, C_X12_isFirst w sh x0 x1 x7 x3 (h.1 (h.2.1 x0 53) x3.toNatClampNeg) h P8 ∧ (∀ (v12 : Int32) (h11 : Hp), P8 v12 h11 → (∀ y13 : Int32, y13 = v12 → (∃ P15 : Int32 → Hp → Prop, C_X12_entryOf w sh x0 x1 x7 (3 : Int32) h11 P15 ∧ (∀ (v19 : Int32) (h18 : Hp), P15 v19 h18 → (((¬ v19 = 0) → (V_X12_sayParts_181 w sh x0 x1 x3 x4 x5 x6 x7 y13 (0 : Int32) h18 L17 L64 L122 L144 L392 RET)) ∧ ((v19 = 0) → (V_X12_sayParts_181 w sh x0 x1 x3 x4 x5 x6 x7 y13 (1 : Int32) h18 L17 L64 L122 L144 L392 RET))))))))))))
set_option maxRecDepth 20000 in
set_option maxHeartbeats 4000000 in
theorem W_X12_sayParts_144 {w : Wd} {E : GE} {sh : List Sh} {x0 : Nat} {x1 : Int32} {x3 : Int32} {x4 : Int32} {x5 : Int32} {x6 : Int32} {x7 : Int32} {h : Hp} {L17 : Nat → Int32 → Int32 → Int32 → Hp → Prop} {L64 : Nat → Int32 → Int32 → Int32 → Int32 → Int32 → Hp → Prop} {L122 : Nat → Int32 → Int32 → Hp → Prop} {L144 : Nat → Int32 → Int32 → Int32 → Int32 → Int32 → Int32 → Hp → Prop} {L392 : Nat → Int32 → Int32 → Int32 → Int32 → Hp → Prop} {RET : Hp → Prop} (X : Cx w E cX12_sayParts 11 RX12) (Tt : Rt w E none sh.length 0 0 (fun q sh9 h9 => q = none ∧ sh9 = sh ∧ RET h9)) (hR : gR E = { frames := 2, cells := 0, slots := 0, locals := 47 }) (hL17 : ∀ (x0 : Nat) (x1 : Int32) (x2 : Int32) (x3 : Int32) (h : Hp), L17 x0 x1 x2 x3 h → G w E 11 17 [(0, rv w.2.2.2 x0), (1, Value.int x1), (2, Value.int x2), (3, Value.int x3)] [] sh h 0 0) (hL64 : ∀ (x0 : Nat) (x1 : Int32) (x2 : Int32) (x3 : Int32) (x4 : Int32) (x5 : Int32) (h : Hp), L64 x0 x1 x2 x3 x4 x5 h → G w E 11 64 [(0, rv w.2.2.2 x0), (1, Value.int x1), (2, Value.int x2), (3, Value.int x3), (4, Value.int x4), (5, Value.int x5)] [] sh h 0 0) (hL122 : ∀ (x0 : Nat) (x1 : Int32) (x3 : Int32) (h : Hp), L122 x0 x1 x3 h → G w E 11 122 [(0, rv w.2.2.2 x0), (1, Value.int x1), (3, Value.int x3)] [] sh h 0 0) (hL144 : ∀ (x0 : Nat) (x1 : Int32) (x3 : Int32) (x4 : Int32) (x5 : Int32) (x6 : Int32) (x7 : Int32) (h : Hp), L144 x0 x1 x3 x4 x5 x6 x7 h → G w E 11 144 [(0, rv w.2.2.2 x0), (1, Value.int x1), (3, Value.int x3), (4, Value.int x4), (5, Value.int x5), (6, Value.int x6), (7, Value.int x7)] [] sh h 0 0) (hL392 : ∀ (x0 : Nat) (x1 : Int32) (x3 : Int32) (x4 : Int32) (x8 : Int32) (h : Hp), L392 x0 x1 x3 x4 x8 h → G w E 11 392 [(0, rv w.2.2.2 x0), (1, Value.int x1), (3, Value.int x3), (4, Value.int x4), (8, Value.int x8)] [] sh h 0 0) (hV : V_X12_sayParts_144 w sh x0 x1 x3 x4 x5 x6 x7 h L17 L64 L122 L144 L392 RET) : G w E 11 144 [(0, rv w.2.2.2 x0), (1, Value.int x1), (3, Value.int x3), (4, Value.int x4), (5, Value.int x5), (6, Value.int x6), (7, Value.int x7)] [] sh h 0 0 := by
  unfold V_X12_sayParts_144 at hV
  refine g_iload (pc := 144) X 6 rfl dX12_sayParts_144 ?_
  refine g_if_lt (pc := 146) X 327 dX12_sayParts_146 (by decide) (fun c1 => ?_) (fun c1 => ?_)
  · have hV := hV.1 c1
    refine g_iload (pc := 327) X 3 rfl dX12_sayParts_327 ?_
    refine g_if_lt (pc := 329) X 337 dX12_sayParts_329 (by decide) (fun c2 => ?_) (fun c2 => ?_)
    · have hV := hV.1 c2
      refine g_iload (pc := 337) X 4 rfl dX12_sayParts_337 ?_
      refine g_if_lt (pc := 339) X 347 dX12_sayParts_339 (by decide) (fun c3 => ?_) (fun c3 => ?_)
      · have hV := hV.1 c3
        refine g_iload (pc := 347) X 5 rfl dX12_sayParts_347 ?_
        refine g_lv [0, 1, 2, 3, 4] rfl ?_
        exact W_X12_sayParts_349 X Tt hR hL17 hL64 hL122 hL144 hL392 hV
      · have hV := hV.2 c3
        refine g_iload (pc := 342) X 4 rfl dX12_sayParts_342 ?_
        refine g_goto (pc := 344) X 349 dX12_sayParts_344 (by decide) ?_
        refine g_lv [0, 1, 2, 3, 4] rfl ?_
        exact W_X12_sayParts_349 X Tt hR hL17 hL64 hL122 hL144 hL392 hV
    · have hV := hV.2 c2
      refine g_iload (pc := 332) X 3 rfl dX12_sayParts_332 ?_
      refine g_goto (pc := 334) X 349 dX12_sayParts_334 (by decide) ?_
      refine g_lv [0, 1, 2, 3, 4] rfl ?_
      exact W_X12_sayParts_349 X Tt hR hL17 hL64 hL122 hL144 hL392 hV
  · have hV := hV.2 c1
    refine g_aload_n (pc := 149) X 0 rfl rfl dX12_sayParts_149 ?_
    refine g_iload_n (pc := 150) X 1 rfl rfl dX12_sayParts_150 ?_
    refine g_iload (pc := 151) X 6 rfl dX12_sayParts_151 ?_
    refine g_iload_n (pc := 153) X 2 rfl rfl dX12_sayParts_153 ?_
    refine g_aload_n (pc := 154) X 0 rfl rfl dX12_sayParts_154 ?_
    obtain ⟨q4, hV⟩ := hV
    refine g_getR (pc := 155) X fl_X12_92 q4 dX12_sayParts_155 ?_
    refine g_iload_n (pc := 158) X 2 rfl rfl dX12_sayParts_158 ?_
    obtain ⟨n6, q5, hV⟩ := hV
    obtain ⟨q7, hV⟩ := hV
    refine g_iald (pc := 159) X q5 q7 dX12_sayParts_159 ?_
    obtain ⟨P8, t9, hV⟩ := hV
    refine g_cVI (pc := 160) X (As := [Value.int x1, Value.int x7, Value.int x3, Value.int (h.1 (h.2.1 x0 53) x3.toNatClampNeg)]) ml_X12_324 rfl q4 t9 (by rw [hR]; exact ⟨by decide, by decide, by decide, by decide⟩) rfl rfl (Nat.zero_le _) dX12_sayParts_160 (fun v12 h11 p10 => ?_)
    have hV := hV v12 h11 p10
    refine g_istore (pc := 163) X (i := 8) (rest := [(0, rv w.2.2.2 x0), (1, Value.int x1), (3, Value.int x3), (4, Value.int x4), (5, Value.int x5), (6, Value.int x6), (7, Value.int x7)]) (by decide) rfl dX12_sayParts_163 (fun y13 e14 => ?_)
    have hV := hV y13 e14
    refine g_aload_n (pc := 165) X 1 rfl rfl dX12_sayParts_165 ?_
    refine g_iload_n (pc := 166) X 2 rfl rfl dX12_sayParts_166 ?_
    refine g_iload (pc := 167) X 7 rfl dX12_sayParts_167 ?_
    refine g_iconst (pc := 169) (v := (3 : Int32)) X dX12_sayParts_169 (by decide) ?_
    obtain ⟨P15, t16, hV⟩ := hV
    refine g_cVI (pc := 170) X (As := [Value.int x1, Value.int x7, Value.int (3 : Int32)]) ml_X12_126 rfl q4 t16 (by rw [hR]; exact ⟨by decide, by decide, by decide, by decide⟩) rfl rfl (Nat.zero_le _) dX12_sayParts_170 (fun v19 h18 p17 => ?_)
    have hV := hV v19 h18 p17
    refine g_if_ne (pc := 173) X 180 dX12_sayParts_173 (by decide) (fun c20 => ?_) (fun c20 => ?_)
    · have hV := hV.1 c20
      refine g_iconst (pc := 180) (v := (0 : Int32)) X dX12_sayParts_180 (by decide) ?_
      refine g_lv [1, 2, 3, 4, 5, 6, 7, 0] rfl ?_
      exact W_X12_sayParts_181 X Tt hR hL17 hL64 hL122 hL144 hL392 hV
    · have hV := hV.2 c20
      refine g_iconst (pc := 176) (v := (1 : Int32)) X dX12_sayParts_176 (by decide) ?_
      refine g_goto (pc := 177) X 181 dX12_sayParts_177 (by decide) ?_
      refine g_lv [1, 2, 3, 4, 5, 6, 7, 0] rfl ?_
      exact W_X12_sayParts_181 X Tt hR hL17 hL64 hL122 hL144 hL392 hV
def V_X12_sayParts_122 (w : Wd) (sh : List Sh) (x0 : Nat) (x1 : Int32) (x3 : Int32) (h : Hp) (L17 : Nat → Int32 → Int32 → Int32 → Hp → Prop) (L64 : Nat → Int32 → Int32 → Int32 → Int32 → Int32 → Hp → Prop) (L122 : Nat → Int32 → Int32 → Hp → Prop) (L144 : Nat → Int32 → Int32 → Int32 → Int32 → Int32 → Int32 → Hp → Prop) (L392 : Nat → Int32 → Int32 → Int32 → Int32 → Hp → Prop) (RET : Hp → Prop) : Prop :=
  shAt sh x0 = some (.inr 12) ∧ ((((h.1 x0 51) ≤ x3) → (RET h)) ∧ ((¬ (h.1 x0 51) ≤ x3) → (∀ y3 : Int32, y3 = (-1 : Int32) → (∀ y5 : Int32, y5 = (-1 : Int32) → (∀ y7 : Int32, y7 = (-1 : Int32) → (∀ y9 : Int32, y9 = (255 : Int32) → (L144 x0 x1 x3 y3 y5 y7 y9 h)))))))
set_option maxRecDepth 20000 in
set_option maxHeartbeats 4000000 in
theorem W_X12_sayParts_122 {w : Wd} {E : GE} {sh : List Sh} {x0 : Nat} {x1 : Int32} {x3 : Int32} {h : Hp} {L17 : Nat → Int32 → Int32 → Int32 → Hp → Prop} {L64 : Nat → Int32 → Int32 → Int32 → Int32 → Int32 → Hp → Prop} {L122 : Nat → Int32 → Int32 → Hp → Prop} {L144 : Nat → Int32 → Int32 → Int32 → Int32 → Int32 → Int32 → Hp → Prop} {L392 : Nat → Int32 → Int32 → Int32 → Int32 → Hp → Prop} {RET : Hp → Prop} (X : Cx w E cX12_sayParts 11 RX12) (Tt : Rt w E none sh.length 0 0 (fun q sh9 h9 => q = none ∧ sh9 = sh ∧ RET h9)) (hR : gR E = { frames := 2, cells := 0, slots := 0, locals := 47 }) (hL17 : ∀ (x0 : Nat) (x1 : Int32) (x2 : Int32) (x3 : Int32) (h : Hp), L17 x0 x1 x2 x3 h → G w E 11 17 [(0, rv w.2.2.2 x0), (1, Value.int x1), (2, Value.int x2), (3, Value.int x3)] [] sh h 0 0) (hL64 : ∀ (x0 : Nat) (x1 : Int32) (x2 : Int32) (x3 : Int32) (x4 : Int32) (x5 : Int32) (h : Hp), L64 x0 x1 x2 x3 x4 x5 h → G w E 11 64 [(0, rv w.2.2.2 x0), (1, Value.int x1), (2, Value.int x2), (3, Value.int x3), (4, Value.int x4), (5, Value.int x5)] [] sh h 0 0) (hL122 : ∀ (x0 : Nat) (x1 : Int32) (x3 : Int32) (h : Hp), L122 x0 x1 x3 h → G w E 11 122 [(0, rv w.2.2.2 x0), (1, Value.int x1), (3, Value.int x3)] [] sh h 0 0) (hL144 : ∀ (x0 : Nat) (x1 : Int32) (x3 : Int32) (x4 : Int32) (x5 : Int32) (x6 : Int32) (x7 : Int32) (h : Hp), L144 x0 x1 x3 x4 x5 x6 x7 h → G w E 11 144 [(0, rv w.2.2.2 x0), (1, Value.int x1), (3, Value.int x3), (4, Value.int x4), (5, Value.int x5), (6, Value.int x6), (7, Value.int x7)] [] sh h 0 0) (hL392 : ∀ (x0 : Nat) (x1 : Int32) (x3 : Int32) (x4 : Int32) (x8 : Int32) (h : Hp), L392 x0 x1 x3 x4 x8 h → G w E 11 392 [(0, rv w.2.2.2 x0), (1, Value.int x1), (3, Value.int x3), (4, Value.int x4), (8, Value.int x8)] [] sh h 0 0) (hV : V_X12_sayParts_122 w sh x0 x1 x3 h L17 L64 L122 L144 L392 RET) : G w E 11 122 [(0, rv w.2.2.2 x0), (1, Value.int x1), (3, Value.int x3)] [] sh h 0 0 := by
  unfold V_X12_sayParts_122 at hV
  refine g_iload_n (pc := 122) X 2 rfl rfl dX12_sayParts_122 ?_
  refine g_aload_n (pc := 123) X 0 rfl rfl dX12_sayParts_123 ?_
  obtain ⟨q1, hV⟩ := hV
  refine g_getI (pc := 124) X fl_X12_314 q1 dX12_sayParts_124 ?_
  refine g_icmp_ge (pc := 127) X 451 dX12_sayParts_127 (by decide) (fun c2 => ?_) (fun c2 => ?_)
  · have hV := hV.1 c2
    exact g_vret (pc := 451) X Tt ⟨rfl, rfl, hV⟩ dX12_sayParts_451
  · have hV := hV.2 c2
    refine g_iconst (pc := 130) (v := (-1 : Int32)) X dX12_sayParts_130 (by decide) ?_
    refine g_istore (pc := 131) X (i := 4) (rest := [(0, rv w.2.2.2 x0), (1, Value.int x1), (3, Value.int x3)]) (by decide) rfl dX12_sayParts_131 (fun y3 e4 => ?_)
    have hV := hV y3 e4
    refine g_iconst (pc := 133) (v := (-1 : Int32)) X dX12_sayParts_133 (by decide) ?_
    refine g_istore (pc := 134) X (i := 5) (rest := [(4, Value.int y3), (0, rv w.2.2.2 x0), (1, Value.int x1), (3, Value.int x3)]) (by decide) rfl dX12_sayParts_134 (fun y5 e6 => ?_)
    have hV := hV y5 e6
    refine g_iconst (pc := 136) (v := (-1 : Int32)) X dX12_sayParts_136 (by decide) ?_
    refine g_istore (pc := 137) X (i := 6) (rest := [(5, Value.int y5), (4, Value.int y3), (0, rv w.2.2.2 x0), (1, Value.int x1), (3, Value.int x3)]) (by decide) rfl dX12_sayParts_137 (fun y7 e8 => ?_)
    have hV := hV y7 e8
    refine g_sipush (pc := 139) (v := (255 : Int32)) X dX12_sayParts_139 (by decide) ?_
    refine g_istore (pc := 142) X (i := 7) (rest := [(6, Value.int y7), (5, Value.int y5), (4, Value.int y3), (0, rv w.2.2.2 x0), (1, Value.int x1), (3, Value.int x3)]) (by decide) rfl dX12_sayParts_142 (fun y9 e10 => ?_)
    have hV := hV y9 e10
    refine g_lv [4, 5, 6, 3, 2, 1, 0] rfl ?_
    exact hL144 x0 x1 x3 y3 y5 y7 y9 h hV
def V_X12_sayParts_64 (w : Wd) (sh : List Sh) (x0 : Nat) (x1 : Int32) (x2 : Int32) (x3 : Int32) (x4 : Int32) (x5 : Int32) (h : Hp) (L17 : Nat → Int32 → Int32 → Int32 → Hp → Prop) (L64 : Nat → Int32 → Int32 → Int32 → Int32 → Int32 → Hp → Prop) (L122 : Nat → Int32 → Int32 → Hp → Prop) (L144 : Nat → Int32 → Int32 → Int32 → Int32 → Int32 → Int32 → Hp → Prop) (L392 : Nat → Int32 → Int32 → Int32 → Int32 → Hp → Prop) (RET : Hp → Prop) : Prop :=
  ((x4 ≤ x5) → (shAt sh x0 = some (.inr 12) ∧ (∃ n4 : Nat, shAt sh (h.2.1 x0 53) = some (.inl (1, n4)) ∧ (vp_in x3 n4 ∧ (∀ y6 : Int32, y6 = (x2 + (h.1 (h.2.1 x0 53) x3.toNatClampNeg)) → (∀ y8 : Int32, y8 = x3 + (1 : Int32) → (L17 x0 x1 y6 y8 h))))))) ∧ ((¬ x4 ≤ x5) → (shAt sh x0 = some (.inr 12) ∧ (∃ n12 : Nat, shAt sh (h.2.1 x0 58) = some (.inl (0, n12)) ∧ (vp_in (x2 + x5) n12 ∧ (∃ n15 : Nat, shAt sh (h.2.1 x0 47) = some (.inl (0, n15)) ∧ (vp_in (h.1 x0 48) n15 ∧ (∀ h17 : Hp, h17 = wI h (h.2.1 x0 47) (h.1 x0 48).toNatClampNeg (b8 (h.1 (h.2.1 x0 58) (x2 + x5).toNatClampNeg)) → (∀ h19 : Hp, h19 = wI h17 x0 48 ((h17.1 x0 48) + (1 : Int32)) → (∀ y21 : Int32, y21 = x5 + (1 : Int32) → (L64 x0 x1 x2 x3 x4 y21 h19))))))))))
set_option maxRecDepth 20000 in
set_option maxHeartbeats 4000000 in
theorem W_X12_sayParts_64 {w : Wd} {E : GE} {sh : List Sh} {x0 : Nat} {x1 : Int32} {x2 : Int32} {x3 : Int32} {x4 : Int32} {x5 : Int32} {h : Hp} {L17 : Nat → Int32 → Int32 → Int32 → Hp → Prop} {L64 : Nat → Int32 → Int32 → Int32 → Int32 → Int32 → Hp → Prop} {L122 : Nat → Int32 → Int32 → Hp → Prop} {L144 : Nat → Int32 → Int32 → Int32 → Int32 → Int32 → Int32 → Hp → Prop} {L392 : Nat → Int32 → Int32 → Int32 → Int32 → Hp → Prop} {RET : Hp → Prop} (X : Cx w E cX12_sayParts 11 RX12) (Tt : Rt w E none sh.length 0 0 (fun q sh9 h9 => q = none ∧ sh9 = sh ∧ RET h9)) (hR : gR E = { frames := 2, cells := 0, slots := 0, locals := 47 }) (hL17 : ∀ (x0 : Nat) (x1 : Int32) (x2 : Int32) (x3 : Int32) (h : Hp), L17 x0 x1 x2 x3 h → G w E 11 17 [(0, rv w.2.2.2 x0), (1, Value.int x1), (2, Value.int x2), (3, Value.int x3)] [] sh h 0 0) (hL64 : ∀ (x0 : Nat) (x1 : Int32) (x2 : Int32) (x3 : Int32) (x4 : Int32) (x5 : Int32) (h : Hp), L64 x0 x1 x2 x3 x4 x5 h → G w E 11 64 [(0, rv w.2.2.2 x0), (1, Value.int x1), (2, Value.int x2), (3, Value.int x3), (4, Value.int x4), (5, Value.int x5)] [] sh h 0 0) (hL122 : ∀ (x0 : Nat) (x1 : Int32) (x3 : Int32) (h : Hp), L122 x0 x1 x3 h → G w E 11 122 [(0, rv w.2.2.2 x0), (1, Value.int x1), (3, Value.int x3)] [] sh h 0 0) (hL144 : ∀ (x0 : Nat) (x1 : Int32) (x3 : Int32) (x4 : Int32) (x5 : Int32) (x6 : Int32) (x7 : Int32) (h : Hp), L144 x0 x1 x3 x4 x5 x6 x7 h → G w E 11 144 [(0, rv w.2.2.2 x0), (1, Value.int x1), (3, Value.int x3), (4, Value.int x4), (5, Value.int x5), (6, Value.int x6), (7, Value.int x7)] [] sh h 0 0) (hL392 : ∀ (x0 : Nat) (x1 : Int32) (x3 : Int32) (x4 : Int32) (x8 : Int32) (h : Hp), L392 x0 x1 x3 x4 x8 h → G w E 11 392 [(0, rv w.2.2.2 x0), (1, Value.int x1), (3, Value.int x3), (4, Value.int x4), (8, Value.int x8)] [] sh h 0 0) (hV : V_X12_sayParts_64 w sh x0 x1 x2 x3 x4 x5 h L17 L64 L122 L144 L392 RET) : G w E 11 64 [(0, rv w.2.2.2 x0), (1, Value.int x1), (2, Value.int x2), (3, Value.int x3), (4, Value.int x4), (5, Value.int x5)] [] sh h 0 0 := by
  unfold V_X12_sayParts_64 at hV
  refine g_iload (pc := 64) X 5 rfl dX12_sayParts_64 ?_
  refine g_iload (pc := 66) X 4 rfl dX12_sayParts_66 ?_
  refine g_icmp_ge (pc := 68) X 105 dX12_sayParts_68 (by decide) (fun c1 => ?_) (fun c1 => ?_)
  · have hV := hV.1 c1
    refine g_iload_n (pc := 105) X 2 rfl rfl dX12_sayParts_105 ?_
    refine g_aload_n (pc := 106) X 0 rfl rfl dX12_sayParts_106 ?_
    obtain ⟨q2, hV⟩ := hV
    refine g_getR (pc := 107) X fl_X12_92 q2 dX12_sayParts_107 ?_
    refine g_iload_n (pc := 110) X 3 rfl rfl dX12_sayParts_110 ?_
    obtain ⟨n4, q3, hV⟩ := hV
    obtain ⟨q5, hV⟩ := hV
    refine g_iald (pc := 111) X q3 q5 dX12_sayParts_111 ?_
    refine g_iadd (pc := 112) X dX12_sayParts_112 ?_
    refine g_istore_n (pc := 113) X (i := 2) (rest := [(0, rv w.2.2.2 x0), (1, Value.int x1), (3, Value.int x3), (4, Value.int x4), (5, Value.int x5)]) rfl (by decide) rfl dX12_sayParts_113 (fun y6 e7 => ?_)
    have hV := hV y6 e7
    refine g_iinc (pc := 114) X 3 (v := (1 : Int32)) (rest := [(2, Value.int y6), (0, rv w.2.2.2 x0), (1, Value.int x1), (4, Value.int x4), (5, Value.int x5)]) rfl (by decide) rfl (by decide) dX12_sayParts_114 (fun y8 e9 => ?_)
    have hV := hV y8 e9
    refine g_goto (pc := 117) X 17 dX12_sayParts_117 (by decide) ?_
    refine g_lv [2, 3, 1, 0] rfl ?_
    exact hL17 x0 x1 y6 y8 h hV
  · have hV := hV.2 c1
    refine g_aload_n (pc := 71) X 0 rfl rfl dX12_sayParts_71 ?_
    obtain ⟨q10, hV⟩ := hV
    refine g_getR (pc := 72) X fl_X12_86 q10 dX12_sayParts_72 ?_
    refine g_aload_n (pc := 75) X 0 rfl rfl dX12_sayParts_75 ?_
    refine g_getI (pc := 76) X fl_X12_305 q10 dX12_sayParts_76 ?_
    refine g_aload_n (pc := 79) X 0 rfl rfl dX12_sayParts_79 ?_
    refine g_getR (pc := 80) X fl_X12_107 q10 dX12_sayParts_80 ?_
    refine g_iload_n (pc := 83) X 2 rfl rfl dX12_sayParts_83 ?_
    refine g_iload (pc := 84) X 5 rfl dX12_sayParts_84 ?_
    refine g_iadd (pc := 86) X dX12_sayParts_86 ?_
    obtain ⟨n12, q11, hV⟩ := hV
    obtain ⟨q13, hV⟩ := hV
    refine g_bald (pc := 87) X q11 q13 dX12_sayParts_87 ?_
    obtain ⟨n15, q14, hV⟩ := hV
    obtain ⟨q16, hV⟩ := hV
    refine g_bast (pc := 88) X q14 q16 dX12_sayParts_88 (fun h17 e18 => ?_)
    have hV := hV h17 e18
    refine g_aload_n (pc := 89) X 0 rfl rfl dX12_sayParts_89 ?_
    refine g_dup (pc := 90) X dX12_sayParts_90 (rv_cat _ _) ?_
    refine g_getI (pc := 91) X fl_X12_305 q10 dX12_sayParts_91 ?_
    refine g_iconst (pc := 94) (v := (1 : Int32)) X dX12_sayParts_94 (by decide) ?_
    refine g_iadd (pc := 95) X dX12_sayParts_95 ?_
    refine g_putI (pc := 96) X fl_X12_305 q10 rfl rfl dX12_sayParts_96 (fun h19 e20 => ?_)
    have hV := hV h19 e20
    refine g_iinc (pc := 99) X 5 (v := (1 : Int32)) (rest := [(0, rv w.2.2.2 x0), (1, Value.int x1), (2, Value.int x2), (3, Value.int x3), (4, Value.int x4)]) rfl (by decide) rfl (by decide) dX12_sayParts_99 (fun y21 e22 => ?_)
    have hV := hV y21 e22
    refine g_goto (pc := 102) X 64 dX12_sayParts_102 (by decide) ?_
    refine g_lv [1, 2, 3, 4, 5, 0] rfl ?_
    exact hL64 x0 x1 x2 x3 x4 y21 h19 hV
def V_X12_sayParts_59 (w : Wd) (sh : List Sh) (x0 : Nat) (x1 : Int32) (x2 : Int32) (x3 : Int32) (s0 : Int32) (h : Hp) (L17 : Nat → Int32 → Int32 → Int32 → Hp → Prop) (L64 : Nat → Int32 → Int32 → Int32 → Int32 → Int32 → Hp → Prop) (L122 : Nat → Int32 → Int32 → Hp → Prop) (L144 : Nat → Int32 → Int32 → Int32 → Int32 → Int32 → Int32 → Hp → Prop) (L392 : Nat → Int32 → Int32 → Int32 → Int32 → Hp → Prop) (RET : Hp → Prop) : Prop :=
  ∀ y1 : Int32, y1 = s0 → (∀ y3 : Int32, y3 = (0 : Int32) → (L64 x0 x1 x2 x3 y1 y3 h))
set_option maxRecDepth 20000 in
set_option maxHeartbeats 4000000 in
theorem W_X12_sayParts_59 {w : Wd} {E : GE} {sh : List Sh} {x0 : Nat} {x1 : Int32} {x2 : Int32} {x3 : Int32} {s0 : Int32} {h : Hp} {L17 : Nat → Int32 → Int32 → Int32 → Hp → Prop} {L64 : Nat → Int32 → Int32 → Int32 → Int32 → Int32 → Hp → Prop} {L122 : Nat → Int32 → Int32 → Hp → Prop} {L144 : Nat → Int32 → Int32 → Int32 → Int32 → Int32 → Int32 → Hp → Prop} {L392 : Nat → Int32 → Int32 → Int32 → Int32 → Hp → Prop} {RET : Hp → Prop} (X : Cx w E cX12_sayParts 11 RX12) (Tt : Rt w E none sh.length 0 0 (fun q sh9 h9 => q = none ∧ sh9 = sh ∧ RET h9)) (hR : gR E = { frames := 2, cells := 0, slots := 0, locals := 47 }) (hL17 : ∀ (x0 : Nat) (x1 : Int32) (x2 : Int32) (x3 : Int32) (h : Hp), L17 x0 x1 x2 x3 h → G w E 11 17 [(0, rv w.2.2.2 x0), (1, Value.int x1), (2, Value.int x2), (3, Value.int x3)] [] sh h 0 0) (hL64 : ∀ (x0 : Nat) (x1 : Int32) (x2 : Int32) (x3 : Int32) (x4 : Int32) (x5 : Int32) (h : Hp), L64 x0 x1 x2 x3 x4 x5 h → G w E 11 64 [(0, rv w.2.2.2 x0), (1, Value.int x1), (2, Value.int x2), (3, Value.int x3), (4, Value.int x4), (5, Value.int x5)] [] sh h 0 0) (hL122 : ∀ (x0 : Nat) (x1 : Int32) (x3 : Int32) (h : Hp), L122 x0 x1 x3 h → G w E 11 122 [(0, rv w.2.2.2 x0), (1, Value.int x1), (3, Value.int x3)] [] sh h 0 0) (hL144 : ∀ (x0 : Nat) (x1 : Int32) (x3 : Int32) (x4 : Int32) (x5 : Int32) (x6 : Int32) (x7 : Int32) (h : Hp), L144 x0 x1 x3 x4 x5 x6 x7 h → G w E 11 144 [(0, rv w.2.2.2 x0), (1, Value.int x1), (3, Value.int x3), (4, Value.int x4), (5, Value.int x5), (6, Value.int x6), (7, Value.int x7)] [] sh h 0 0) (hL392 : ∀ (x0 : Nat) (x1 : Int32) (x3 : Int32) (x4 : Int32) (x8 : Int32) (h : Hp), L392 x0 x1 x3 x4 x8 h → G w E 11 392 [(0, rv w.2.2.2 x0), (1, Value.int x1), (3, Value.int x3), (4, Value.int x4), (8, Value.int x8)] [] sh h 0 0) (hV : V_X12_sayParts_59 w sh x0 x1 x2 x3 s0 h L17 L64 L122 L144 L392 RET) : G w E 11 59 [(0, rv w.2.2.2 x0), (1, Value.int x1), (2, Value.int x2), (3, Value.int x3)] [Value.int s0] sh h 0 0 := by
  unfold V_X12_sayParts_59 at hV
  refine g_istore (pc := 59) X (i := 4) (rest := [(0, rv w.2.2.2 x0), (1, Value.int x1), (2, Value.int x2), (3, Value.int x3)]) (by decide) rfl dX12_sayParts_59 (fun y1 e2 => ?_)
  have hV := hV y1 e2
  refine g_iconst (pc := 61) (v := (0 : Int32)) X dX12_sayParts_61 (by decide) ?_
  refine g_istore (pc := 62) X (i := 5) (rest := [(4, Value.int y1), (0, rv w.2.2.2 x0), (1, Value.int x1), (2, Value.int x2), (3, Value.int x3)]) (by decide) rfl dX12_sayParts_62 (fun y3 e4 => ?_)
  have hV := hV y3 e4
  refine g_lv [2, 3, 4, 5, 1, 0] rfl ?_
  exact hL64 x0 x1 x2 x3 y1 y3 h hV
def V_X12_sayParts_17 (w : Wd) (sh : List Sh) (x0 : Nat) (x1 : Int32) (x2 : Int32) (x3 : Int32) (h : Hp) (L17 : Nat → Int32 → Int32 → Int32 → Hp → Prop) (L64 : Nat → Int32 → Int32 → Int32 → Int32 → Int32 → Hp → Prop) (L122 : Nat → Int32 → Int32 → Hp → Prop) (L144 : Nat → Int32 → Int32 → Int32 → Int32 → Int32 → Int32 → Hp → Prop) (L392 : Nat → Int32 → Int32 → Int32 → Int32 → Hp → Prop) (RET : Hp → Prop) : Prop :=
  shAt sh x0 = some (.inr 12) ∧ ((((h.1 x0 51) ≤ x3) → (∀ y3 : Int32, y3 = (0 : Int32) → (L122 x0 x1 y3 h))) ∧ ((¬ (h.1 x0 51) ≤ x3) → (∃ n6 : Nat, shAt sh (h.2.1 x0 52) = some (.inl (1, n6)) ∧ (vp_in x3 n6 ∧ (((¬ (h.1 (h.2.1 x0 52) x3.toNatClampNeg) = (1 : Int32)) → (vp_in x3 n6 ∧ (((¬ (h.1 (h.2.1 x0 52) x3.toNatClampNeg) = (2 : Int32)) → (V_X12_sayParts_59 w sh x0 x1 x2 x3 (0 : Int32) h L17 L64 L122 L144 L392 RET)) ∧ (((h.1 (h.2.1 x0 52) x3.toNatClampNeg) = (2 : Int32)) → (V_X12_sayParts_59 w sh x0 x1 x2 x3 (1 : Int32) h L17 L64 L122 L144 L392 RET))))) ∧ (((h.1 (h.2.1 x0 52) x3.toNatClampNeg) = (1 : Int32)) → (∃ n12 : Nat, shAt sh (h.2.1 x0 53) = some (.inl (1, n12)) ∧ (vp_in x3 n12 ∧ (V_X12_sayParts_59 w sh x0 x1 x2 x3 (h.1 (h.2.1 x0 53) x3.toNatClampNeg) h L17 L64 L122 L144 L392 RET)))))))))
set_option maxRecDepth 20000 in
set_option maxHeartbeats 4000000 in
theorem W_X12_sayParts_17 {w : Wd} {E : GE} {sh : List Sh} {x0 : Nat} {x1 : Int32} {x2 : Int32} {x3 : Int32} {h : Hp} {L17 : Nat → Int32 → Int32 → Int32 → Hp → Prop} {L64 : Nat → Int32 → Int32 → Int32 → Int32 → Int32 → Hp → Prop} {L122 : Nat → Int32 → Int32 → Hp → Prop} {L144 : Nat → Int32 → Int32 → Int32 → Int32 → Int32 → Int32 → Hp → Prop} {L392 : Nat → Int32 → Int32 → Int32 → Int32 → Hp → Prop} {RET : Hp → Prop} (X : Cx w E cX12_sayParts 11 RX12) (Tt : Rt w E none sh.length 0 0 (fun q sh9 h9 => q = none ∧ sh9 = sh ∧ RET h9)) (hR : gR E = { frames := 2, cells := 0, slots := 0, locals := 47 }) (hL17 : ∀ (x0 : Nat) (x1 : Int32) (x2 : Int32) (x3 : Int32) (h : Hp), L17 x0 x1 x2 x3 h → G w E 11 17 [(0, rv w.2.2.2 x0), (1, Value.int x1), (2, Value.int x2), (3, Value.int x3)] [] sh h 0 0) (hL64 : ∀ (x0 : Nat) (x1 : Int32) (x2 : Int32) (x3 : Int32) (x4 : Int32) (x5 : Int32) (h : Hp), L64 x0 x1 x2 x3 x4 x5 h → G w E 11 64 [(0, rv w.2.2.2 x0), (1, Value.int x1), (2, Value.int x2), (3, Value.int x3), (4, Value.int x4), (5, Value.int x5)] [] sh h 0 0) (hL122 : ∀ (x0 : Nat) (x1 : Int32) (x3 : Int32) (h : Hp), L122 x0 x1 x3 h → G w E 11 122 [(0, rv w.2.2.2 x0), (1, Value.int x1), (3, Value.int x3)] [] sh h 0 0) (hL144 : ∀ (x0 : Nat) (x1 : Int32) (x3 : Int32) (x4 : Int32) (x5 : Int32) (x6 : Int32) (x7 : Int32) (h : Hp), L144 x0 x1 x3 x4 x5 x6 x7 h → G w E 11 144 [(0, rv w.2.2.2 x0), (1, Value.int x1), (3, Value.int x3), (4, Value.int x4), (5, Value.int x5), (6, Value.int x6), (7, Value.int x7)] [] sh h 0 0) (hL392 : ∀ (x0 : Nat) (x1 : Int32) (x3 : Int32) (x4 : Int32) (x8 : Int32) (h : Hp), L392 x0 x1 x3 x4 x8 h → G w E 11 392 [(0, rv w.2.2.2 x0), (1, Value.int x1), (3, Value.int x3), (4, Value.int x4), (8, Value.int x8)] [] sh h 0 0) (hV : V_X12_sayParts_17 w sh x0 x1 x2 x3 h L17 L64 L122 L144 L392 RET) : G w E 11 17 [(0, rv w.2.2.2 x0), (1, Value.int x1), (2, Value.int x2), (3, Value.int x3)] [] sh h 0 0 := by
  unfold V_X12_sayParts_17 at hV
  refine g_iload_n (pc := 17) X 3 rfl rfl dX12_sayParts_17 ?_
  refine g_aload_n (pc := 18) X 0 rfl rfl dX12_sayParts_18 ?_
  obtain ⟨q1, hV⟩ := hV
  refine g_getI (pc := 19) X fl_X12_314 q1 dX12_sayParts_19 ?_
  refine g_icmp_ge (pc := 22) X 120 dX12_sayParts_22 (by decide) (fun c2 => ?_) (fun c2 => ?_)
  · have hV := hV.1 c2
    refine g_iconst (pc := 120) (v := (0 : Int32)) X dX12_sayParts_120 (by decide) ?_
    refine g_istore_n (pc := 121) X (i := 3) (rest := [(0, rv w.2.2.2 x0), (1, Value.int x1), (2, Value.int x2)]) rfl (by decide) rfl dX12_sayParts_121 (fun y3 e4 => ?_)
    have hV := hV y3 e4
    refine g_lv [1, 2, 0] rfl ?_
    exact hL122 x0 x1 y3 h hV
  · have hV := hV.2 c2
    refine g_aload_n (pc := 25) X 0 rfl rfl dX12_sayParts_25 ?_
    refine g_getR (pc := 26) X fl_X12_89 q1 dX12_sayParts_26 ?_
    refine g_iload_n (pc := 29) X 3 rfl rfl dX12_sayParts_29 ?_
    obtain ⟨n6, q5, hV⟩ := hV
    obtain ⟨q7, hV⟩ := hV
    refine g_iald (pc := 30) X q5 q7 dX12_sayParts_30 ?_
    refine g_iconst (pc := 31) (v := (1 : Int32)) X dX12_sayParts_31 (by decide) ?_
    refine g_icmp_ne (pc := 32) X 44 dX12_sayParts_32 (by decide) (fun c8 => ?_) (fun c8 => ?_)
    · have hV := hV.1 c8
      refine g_aload_n (pc := 44) X 0 rfl rfl dX12_sayParts_44 ?_
      refine g_getR (pc := 45) X fl_X12_89 q1 dX12_sayParts_45 ?_
      refine g_iload_n (pc := 48) X 3 rfl rfl dX12_sayParts_48 ?_
      obtain ⟨q9, hV⟩ := hV
      refine g_iald (pc := 49) X q5 q9 dX12_sayParts_49 ?_
      refine g_iconst (pc := 50) (v := (2 : Int32)) X dX12_sayParts_50 (by decide) ?_
      refine g_icmp_ne (pc := 51) X 58 dX12_sayParts_51 (by decide) (fun c10 => ?_) (fun c10 => ?_)
      · have hV := hV.1 c10
        refine g_iconst (pc := 58) (v := (0 : Int32)) X dX12_sayParts_58 (by decide) ?_
        exact W_X12_sayParts_59 X Tt hR hL17 hL64 hL122 hL144 hL392 hV
      · have hV := hV.2 c10
        refine g_iconst (pc := 54) (v := (1 : Int32)) X dX12_sayParts_54 (by decide) ?_
        refine g_goto (pc := 55) X 59 dX12_sayParts_55 (by decide) ?_
        exact W_X12_sayParts_59 X Tt hR hL17 hL64 hL122 hL144 hL392 hV
    · have hV := hV.2 c8
      refine g_aload_n (pc := 35) X 0 rfl rfl dX12_sayParts_35 ?_
      refine g_getR (pc := 36) X fl_X12_92 q1 dX12_sayParts_36 ?_
      refine g_iload_n (pc := 39) X 3 rfl rfl dX12_sayParts_39 ?_
      obtain ⟨n12, q11, hV⟩ := hV
      obtain ⟨q13, hV⟩ := hV
      refine g_iald (pc := 40) X q11 q13 dX12_sayParts_40 ?_
      refine g_goto (pc := 41) X 59 dX12_sayParts_41 (by decide) ?_
      exact W_X12_sayParts_59 X Tt hR hL17 hL64 hL122 hL144 hL392 hV
def V_X12_sayParts_0 (w : Wd) (sh : List Sh) (x0 : Nat) (x1 : Int32) (h : Hp) (L17 : Nat → Int32 → Int32 → Int32 → Hp → Prop) (L64 : Nat → Int32 → Int32 → Int32 → Int32 → Int32 → Hp → Prop) (L122 : Nat → Int32 → Int32 → Hp → Prop) (L144 : Nat → Int32 → Int32 → Int32 → Int32 → Int32 → Int32 → Hp → Prop) (L392 : Nat → Int32 → Int32 → Int32 → Int32 → Hp → Prop) (RET : Hp → Prop) : Prop :=
  shAt sh x0 = some (.inr 12) ∧ (∀ h2 : Hp, h2 = wI h x0 49 (0 : Int32) → (∀ h4 : Hp, h4 = wI h2 x0 48 (0 : Int32) → (∀ y6 : Int32, y6 = (h4.1 x0 59) → (∀ y8 : Int32, y8 = (0 : Int32) → (L17 x0 x1 y6 y8 h4)))))
set_option maxRecDepth 20000 in
set_option maxHeartbeats 4000000 in
theorem W_X12_sayParts_0 {w : Wd} {E : GE} {sh : List Sh} {x0 : Nat} {x1 : Int32} {h : Hp} {L17 : Nat → Int32 → Int32 → Int32 → Hp → Prop} {L64 : Nat → Int32 → Int32 → Int32 → Int32 → Int32 → Hp → Prop} {L122 : Nat → Int32 → Int32 → Hp → Prop} {L144 : Nat → Int32 → Int32 → Int32 → Int32 → Int32 → Int32 → Hp → Prop} {L392 : Nat → Int32 → Int32 → Int32 → Int32 → Hp → Prop} {RET : Hp → Prop} (X : Cx w E cX12_sayParts 11 RX12) (Tt : Rt w E none sh.length 0 0 (fun q sh9 h9 => q = none ∧ sh9 = sh ∧ RET h9)) (hR : gR E = { frames := 2, cells := 0, slots := 0, locals := 47 }) (hL17 : ∀ (x0 : Nat) (x1 : Int32) (x2 : Int32) (x3 : Int32) (h : Hp), L17 x0 x1 x2 x3 h → G w E 11 17 [(0, rv w.2.2.2 x0), (1, Value.int x1), (2, Value.int x2), (3, Value.int x3)] [] sh h 0 0) (hL64 : ∀ (x0 : Nat) (x1 : Int32) (x2 : Int32) (x3 : Int32) (x4 : Int32) (x5 : Int32) (h : Hp), L64 x0 x1 x2 x3 x4 x5 h → G w E 11 64 [(0, rv w.2.2.2 x0), (1, Value.int x1), (2, Value.int x2), (3, Value.int x3), (4, Value.int x4), (5, Value.int x5)] [] sh h 0 0) (hL122 : ∀ (x0 : Nat) (x1 : Int32) (x3 : Int32) (h : Hp), L122 x0 x1 x3 h → G w E 11 122 [(0, rv w.2.2.2 x0), (1, Value.int x1), (3, Value.int x3)] [] sh h 0 0) (hL144 : ∀ (x0 : Nat) (x1 : Int32) (x3 : Int32) (x4 : Int32) (x5 : Int32) (x6 : Int32) (x7 : Int32) (h : Hp), L144 x0 x1 x3 x4 x5 x6 x7 h → G w E 11 144 [(0, rv w.2.2.2 x0), (1, Value.int x1), (3, Value.int x3), (4, Value.int x4), (5, Value.int x5), (6, Value.int x6), (7, Value.int x7)] [] sh h 0 0) (hL392 : ∀ (x0 : Nat) (x1 : Int32) (x3 : Int32) (x4 : Int32) (x8 : Int32) (h : Hp), L392 x0 x1 x3 x4 x8 h → G w E 11 392 [(0, rv w.2.2.2 x0), (1, Value.int x1), (3, Value.int x3), (4, Value.int x4), (8, Value.int x8)] [] sh h 0 0) (hV : V_X12_sayParts_0 w sh x0 x1 h L17 L64 L122 L144 L392 RET) : G w E 11 0 [(0, rv w.2.2.2 x0), (1, Value.int x1)] [] sh h 0 0 := by
  unfold V_X12_sayParts_0 at hV
  refine g_aload_n (pc := 0) X 0 rfl rfl dX12_sayParts_0 ?_
  refine g_iconst (pc := 1) (v := (0 : Int32)) X dX12_sayParts_1 (by decide) ?_
  obtain ⟨q1, hV⟩ := hV
  refine g_putI (pc := 2) X fl_X12_308 q1 rfl rfl dX12_sayParts_2 (fun h2 e3 => ?_)
  have hV := hV h2 e3
  refine g_aload_n (pc := 5) X 0 rfl rfl dX12_sayParts_5 ?_
  refine g_iconst (pc := 6) (v := (0 : Int32)) X dX12_sayParts_6 (by decide) ?_
  refine g_putI (pc := 7) X fl_X12_305 q1 rfl rfl dX12_sayParts_7 (fun h4 e5 => ?_)
  have hV := hV h4 e5
  refine g_aload_n (pc := 10) X 0 rfl rfl dX12_sayParts_10 ?_
  refine g_getI (pc := 11) X fl_X12_293 q1 dX12_sayParts_11 ?_
  refine g_istore_n (pc := 14) X (i := 2) (rest := [(0, rv w.2.2.2 x0), (1, Value.int x1)]) rfl (by decide) rfl dX12_sayParts_14 (fun y6 e7 => ?_)
  have hV := hV y6 e7
  refine g_iconst (pc := 15) (v := (0 : Int32)) X dX12_sayParts_15 (by decide) ?_
  refine g_istore_n (pc := 16) X (i := 3) (rest := [(2, Value.int y6), (0, rv w.2.2.2 x0), (1, Value.int x1)]) rfl (by decide) rfl dX12_sayParts_16 (fun y8 e9 => ?_)
  have hV := hV y8 e9
  refine g_lv [2, 3, 1, 0] rfl ?_
  exact hL17 x0 x1 y6 y8 h4 hV
def C_X12_sayParts (w : Wd) (sh : List Sh) (x0 : Nat) (x1 : Int32) (h : Hp) (RET : Hp → Prop) : Prop := CV w yX12_sayParts (.code yX12_sayParts cX12_sayParts 11 none) 2 47 [rv w.2.2.2 x0, Value.int x1] sh h RET
set_option maxRecDepth 20000 in
theorem K_X12_sayParts {w : Wd} {sh : List Sh} {x0 : Nat} {x1 : Int32} {h : Hp} {RET : Hp → Prop} {α : Type} {r : α → α → Prop} (wf : WellFounded r) (I17 : α → Nat → Int32 → Int32 → Int32 → Hp → Prop) (I64 : α → Nat → Int32 → Int32 → Int32 → Int32 → Int32 → Hp → Prop) (I122 : α → Nat → Int32 → Int32 → Hp → Prop) (I144 : α → Nat → Int32 → Int32 → Int32 → Int32 → Int32 → Int32 → Hp → Prop) (I392 : α → Nat → Int32 → Int32 → Int32 → Int32 → Hp → Prop) (hE : V_X12_sayParts_0 w sh x0 x1 h (fun x0 x1 x2 x3 h => ∃ a, I17 a x0 x1 x2 x3 h) (fun x0 x1 x2 x3 x4 x5 h => ∃ a, I64 a x0 x1 x2 x3 x4 x5 h) (fun x0 x1 x3 h => ∃ a, I122 a x0 x1 x3 h) (fun x0 x1 x3 x4 x5 x6 x7 h => ∃ a, I144 a x0 x1 x3 x4 x5 x6 x7 h) (fun x0 x1 x3 x4 x8 h => ∃ a, I392 a x0 x1 x3 x4 x8 h) RET) (h17 : ∀ (b : α) (x0 : Nat) (x1 : Int32) (x2 : Int32) (x3 : Int32) (h : Hp), I17 b x0 x1 x2 x3 h → V_X12_sayParts_17 w sh x0 x1 x2 x3 h (fun x0 x1 x2 x3 h => ∃ a, r a b ∧ I17 a x0 x1 x2 x3 h) (fun x0 x1 x2 x3 x4 x5 h => ∃ a, r a b ∧ I64 a x0 x1 x2 x3 x4 x5 h) (fun x0 x1 x3 h => ∃ a, r a b ∧ I122 a x0 x1 x3 h) (fun x0 x1 x3 x4 x5 x6 x7 h => ∃ a, r a b ∧ I144 a x0 x1 x3 x4 x5 x6 x7 h) (fun x0 x1 x3 x4 x8 h => ∃ a, r a b ∧ I392 a x0 x1 x3 x4 x8 h) RET) (h64 : ∀ (b : α) (x0 : Nat) (x1 : Int32) (x2 : Int32) (x3 : Int32) (x4 : Int32) (x5 : Int32) (h : Hp), I64 b x0 x1 x2 x3 x4 x5 h → V_X12_sayParts_64 w sh x0 x1 x2 x3 x4 x5 h (fun x0 x1 x2 x3 h => ∃ a, r a b ∧ I17 a x0 x1 x2 x3 h) (fun x0 x1 x2 x3 x4 x5 h => ∃ a, r a b ∧ I64 a x0 x1 x2 x3 x4 x5 h) (fun x0 x1 x3 h => ∃ a, r a b ∧ I122 a x0 x1 x3 h) (fun x0 x1 x3 x4 x5 x6 x7 h => ∃ a, r a b ∧ I144 a x0 x1 x3 x4 x5 x6 x7 h) (fun x0 x1 x3 x4 x8 h => ∃ a, r a b ∧ I392 a x0 x1 x3 x4 x8 h) RET) (h122 : ∀ (b : α) (x0 : Nat) (x1 : Int32) (x3 : Int32) (h : Hp), I122 b x0 x1 x3 h → V_X12_sayParts_122 w sh x0 x1 x3 h (fun x0 x1 x2 x3 h => ∃ a, r a b ∧ I17 a x0 x1 x2 x3 h) (fun x0 x1 x2 x3 x4 x5 h => ∃ a, r a b ∧ I64 a x0 x1 x2 x3 x4 x5 h) (fun x0 x1 x3 h => ∃ a, r a b ∧ I122 a x0 x1 x3 h) (fun x0 x1 x3 x4 x5 x6 x7 h => ∃ a, r a b ∧ I144 a x0 x1 x3 x4 x5 x6 x7 h) (fun x0 x1 x3 x4 x8 h => ∃ a, r a b ∧ I392 a x0 x1 x3 x4 x8 h) RET) (h144 : ∀ (b : α) (x0 : Nat) (x1 : Int32) (x3 : Int32) (x4 : Int32) (x5 : Int32) (x6 : Int32) (x7 : Int32) (h : Hp), I144 b x0 x1 x3 x4 x5 x6 x7 h → V_X12_sayParts_144 w sh x0 x1 x3 x4 x5 x6 x7 h (fun x0 x1 x2 x3 h => ∃ a, r a b ∧ I17 a x0 x1 x2 x3 h) (fun x0 x1 x2 x3 x4 x5 h => ∃ a, r a b ∧ I64 a x0 x1 x2 x3 x4 x5 h) (fun x0 x1 x3 h => ∃ a, r a b ∧ I122 a x0 x1 x3 h) (fun x0 x1 x3 x4 x5 x6 x7 h => ∃ a, r a b ∧ I144 a x0 x1 x3 x4 x5 x6 x7 h) (fun x0 x1 x3 x4 x8 h => ∃ a, r a b ∧ I392 a x0 x1 x3 x4 x8 h) RET) (h392 : ∀ (b : α) (x0 : Nat) (x1 : Int32) (x3 : Int32) (x4 : Int32) (x8 : Int32) (h : Hp), I392 b x0 x1 x3 x4 x8 h → V_X12_sayParts_392 w sh x0 x1 x3 x4 x8 h (fun x0 x1 x2 x3 h => ∃ a, r a b ∧ I17 a x0 x1 x2 x3 h) (fun x0 x1 x2 x3 x4 x5 h => ∃ a, r a b ∧ I64 a x0 x1 x2 x3 x4 x5 h) (fun x0 x1 x3 h => ∃ a, r a b ∧ I122 a x0 x1 x3 h) (fun x0 x1 x3 x4 x5 x6 x7 h => ∃ a, r a b ∧ I144 a x0 x1 x3 x4 x5 x6 x7 h) (fun x0 x1 x3 x4 x8 h => ∃ a, r a b ∧ I392 a x0 x1 x3 x4 x8 h) RET) : C_X12_sayParts w sh x0 x1 h RET :=
  Ct_of (by decide +kernel) (by simp [lg_sl, rv_cat, cat_int, cat_long]) (fun E X Tt hR _ => by
    have key : ∀ a : α, (∀ (x0 : Nat) (x1 : Int32) (x2 : Int32) (x3 : Int32) (h : Hp), I17 a x0 x1 x2 x3 h → G w E 11 17 [(0, rv w.2.2.2 x0), (1, Value.int x1), (2, Value.int x2), (3, Value.int x3)] [] sh h 0 0) ∧ (∀ (x0 : Nat) (x1 : Int32) (x2 : Int32) (x3 : Int32) (x4 : Int32) (x5 : Int32) (h : Hp), I64 a x0 x1 x2 x3 x4 x5 h → G w E 11 64 [(0, rv w.2.2.2 x0), (1, Value.int x1), (2, Value.int x2), (3, Value.int x3), (4, Value.int x4), (5, Value.int x5)] [] sh h 0 0) ∧ (∀ (x0 : Nat) (x1 : Int32) (x3 : Int32) (h : Hp), I122 a x0 x1 x3 h → G w E 11 122 [(0, rv w.2.2.2 x0), (1, Value.int x1), (3, Value.int x3)] [] sh h 0 0) ∧ (∀ (x0 : Nat) (x1 : Int32) (x3 : Int32) (x4 : Int32) (x5 : Int32) (x6 : Int32) (x7 : Int32) (h : Hp), I144 a x0 x1 x3 x4 x5 x6 x7 h → G w E 11 144 [(0, rv w.2.2.2 x0), (1, Value.int x1), (3, Value.int x3), (4, Value.int x4), (5, Value.int x5), (6, Value.int x6), (7, Value.int x7)] [] sh h 0 0) ∧ (∀ (x0 : Nat) (x1 : Int32) (x3 : Int32) (x4 : Int32) (x8 : Int32) (h : Hp), I392 a x0 x1 x3 x4 x8 h → G w E 11 392 [(0, rv w.2.2.2 x0), (1, Value.int x1), (3, Value.int x3), (4, Value.int x4), (8, Value.int x8)] [] sh h 0 0) := by
      intro a
      induction a using wf.induction with
      | _ a ih =>
        exact ⟨(fun x0 x1 x2 x3 h hi => W_X12_sayParts_17 X Tt hR (fun x0 x1 x2 x3 h hx => by obtain ⟨a2, ha, hi⟩ := hx; exact ((ih a2 ha)).1 x0 x1 x2 x3 h hi) (fun x0 x1 x2 x3 x4 x5 h hx => by obtain ⟨a2, ha, hi⟩ := hx; exact (((ih a2 ha)).2).1 x0 x1 x2 x3 x4 x5 h hi) (fun x0 x1 x3 h hx => by obtain ⟨a2, ha, hi⟩ := hx; exact ((((ih a2 ha)).2).2).1 x0 x1 x3 h hi) (fun x0 x1 x3 x4 x5 x6 x7 h hx => by obtain ⟨a2, ha, hi⟩ := hx; exact (((((ih a2 ha)).2).2).2).1 x0 x1 x3 x4 x5 x6 x7 h hi) (fun x0 x1 x3 x4 x8 h hx => by obtain ⟨a2, ha, hi⟩ := hx; exact (((((ih a2 ha)).2).2).2).2 x0 x1 x3 x4 x8 h hi) (h17 a x0 x1 x2 x3 h hi)), (fun x0 x1 x2 x3 x4 x5 h hi => W_X12_sayParts_64 X Tt hR (fun x0 x1 x2 x3 h hx => by obtain ⟨a2, ha, hi⟩ := hx; exact ((ih a2 ha)).1 x0 x1 x2 x3 h hi) (fun x0 x1 x2 x3 x4 x5 h hx => by obtain ⟨a2, ha, hi⟩ := hx; exact (((ih a2 ha)).2).1 x0 x1 x2 x3 x4 x5 h hi) (fun x0 x1 x3 h hx => by obtain ⟨a2, ha, hi⟩ := hx; exact ((((ih a2 ha)).2).2).1 x0 x1 x3 h hi) (fun x0 x1 x3 x4 x5 x6 x7 h hx => by obtain ⟨a2, ha, hi⟩ := hx; exact (((((ih a2 ha)).2).2).2).1 x0 x1 x3 x4 x5 x6 x7 h hi) (fun x0 x1 x3 x4 x8 h hx => by obtain ⟨a2, ha, hi⟩ := hx; exact (((((ih a2 ha)).2).2).2).2 x0 x1 x3 x4 x8 h hi) (h64 a x0 x1 x2 x3 x4 x5 h hi)), (fun x0 x1 x3 h hi => W_X12_sayParts_122 X Tt hR (fun x0 x1 x2 x3 h hx => by obtain ⟨a2, ha, hi⟩ := hx; exact ((ih a2 ha)).1 x0 x1 x2 x3 h hi) (fun x0 x1 x2 x3 x4 x5 h hx => by obtain ⟨a2, ha, hi⟩ := hx; exact (((ih a2 ha)).2).1 x0 x1 x2 x3 x4 x5 h hi) (fun x0 x1 x3 h hx => by obtain ⟨a2, ha, hi⟩ := hx; exact ((((ih a2 ha)).2).2).1 x0 x1 x3 h hi) (fun x0 x1 x3 x4 x5 x6 x7 h hx => by obtain ⟨a2, ha, hi⟩ := hx; exact (((((ih a2 ha)).2).2).2).1 x0 x1 x3 x4 x5 x6 x7 h hi) (fun x0 x1 x3 x4 x8 h hx => by obtain ⟨a2, ha, hi⟩ := hx; exact (((((ih a2 ha)).2).2).2).2 x0 x1 x3 x4 x8 h hi) (h122 a x0 x1 x3 h hi)), (fun x0 x1 x3 x4 x5 x6 x7 h hi => W_X12_sayParts_144 X Tt hR (fun x0 x1 x2 x3 h hx => by obtain ⟨a2, ha, hi⟩ := hx; exact ((ih a2 ha)).1 x0 x1 x2 x3 h hi) (fun x0 x1 x2 x3 x4 x5 h hx => by obtain ⟨a2, ha, hi⟩ := hx; exact (((ih a2 ha)).2).1 x0 x1 x2 x3 x4 x5 h hi) (fun x0 x1 x3 h hx => by obtain ⟨a2, ha, hi⟩ := hx; exact ((((ih a2 ha)).2).2).1 x0 x1 x3 h hi) (fun x0 x1 x3 x4 x5 x6 x7 h hx => by obtain ⟨a2, ha, hi⟩ := hx; exact (((((ih a2 ha)).2).2).2).1 x0 x1 x3 x4 x5 x6 x7 h hi) (fun x0 x1 x3 x4 x8 h hx => by obtain ⟨a2, ha, hi⟩ := hx; exact (((((ih a2 ha)).2).2).2).2 x0 x1 x3 x4 x8 h hi) (h144 a x0 x1 x3 x4 x5 x6 x7 h hi)), (fun x0 x1 x3 x4 x8 h hi => W_X12_sayParts_392 X Tt hR (fun x0 x1 x2 x3 h hx => by obtain ⟨a2, ha, hi⟩ := hx; exact ((ih a2 ha)).1 x0 x1 x2 x3 h hi) (fun x0 x1 x2 x3 x4 x5 h hx => by obtain ⟨a2, ha, hi⟩ := hx; exact (((ih a2 ha)).2).1 x0 x1 x2 x3 x4 x5 h hi) (fun x0 x1 x3 h hx => by obtain ⟨a2, ha, hi⟩ := hx; exact ((((ih a2 ha)).2).2).1 x0 x1 x3 h hi) (fun x0 x1 x3 x4 x5 x6 x7 h hx => by obtain ⟨a2, ha, hi⟩ := hx; exact (((((ih a2 ha)).2).2).2).1 x0 x1 x3 x4 x5 x6 x7 h hi) (fun x0 x1 x3 x4 x8 h hx => by obtain ⟨a2, ha, hi⟩ := hx; exact (((((ih a2 ha)).2).2).2).2 x0 x1 x3 x4 x8 h hi) (h392 a x0 x1 x3 x4 x8 h hi))⟩
    rw [show lv_args 0 [rv w.2.2.2 x0, Value.int x1] = [(0, rv w.2.2.2 x0), (1, Value.int x1)] from by simp [lv_args, rv_cat, cat_int, cat_long]]
    refine g_lv [0, 1] rfl ?_
    exact W_X12_sayParts_0 X Tt hR (fun x0 x1 x2 x3 h hx => by obtain ⟨a2, hi⟩ := hx; exact ((key a2)).1 x0 x1 x2 x3 h hi) (fun x0 x1 x2 x3 x4 x5 h hx => by obtain ⟨a2, hi⟩ := hx; exact (((key a2)).2).1 x0 x1 x2 x3 x4 x5 h hi) (fun x0 x1 x3 h hx => by obtain ⟨a2, hi⟩ := hx; exact ((((key a2)).2).2).1 x0 x1 x3 h hi) (fun x0 x1 x3 x4 x5 x6 x7 h hx => by obtain ⟨a2, hi⟩ := hx; exact (((((key a2)).2).2).2).1 x0 x1 x3 x4 x5 x6 x7 h hi) (fun x0 x1 x3 x4 x8 h hx => by obtain ⟨a2, hi⟩ := hx; exact (((((key a2)).2).2).2).2 x0 x1 x3 x4 x8 h hi) hE)
def V_X12_windows_491 (w : Wd) (sh : List Sh) (x0 : Nat) (x1 : Nat) (x2 : Int32) (x3 : Nat) (x4 : Int32) (x5 : Int32) (x6 : Int32) (x7 : Int32) (x14 : Int32) (h : Hp) (L3 : Nat → Nat → Int32 → Nat → Int32 → Int32 → Int32 → Int32 → Hp → Prop) (L97 : Nat → Nat → Int32 → Nat → Int32 → Int32 → Int32 → Int32 → Int32 → Int32 → Int32 → Hp → Prop) (L146 : Nat → Nat → Int32 → Nat → Int32 → Int32 → Int32 → Int32 → Int32 → Int32 → Int32 → Hp → Prop) (L397 : Nat → Nat → Int32 → Nat → Int32 → Int32 → Int32 → Int32 → Int32 → Int64 → Int32 → Hp → Prop) (L429 : Nat → Nat → Int32 → Nat → Int32 → Int32 → Int32 → Int32 → Int32 → Hp → Prop) (L458 : Nat → Nat → Int32 → Nat → Int32 → Int32 → Int32 → Int32 → Int32 → Hp → Prop) (L491 : Nat → Nat → Int32 → Nat → Int32 → Int32 → Int32 → Int32 → Int32 → Hp → Prop) (RET : Hp → Prop) : Prop :=
  shAt sh x0 = some (.inr 12) ∧ ((((h.1 x0 50) ≤ x14) → (∀ y3 : Int32, y3 = x7 + (2048 : Int32) → (L3 x0 x1 x2 x3 x4 x5 x6 y3 h))) ∧ ((¬ (h.1 x0 50) ≤ x14) → (∃ n6 : Nat, shAt sh (h.2.1 x0 47) = some (.inl (0, n6)) ∧ (vp_in ((20000 : Int32) + x14) n6 ∧ (∃ P8 : Hp → Prop, C_X12_say w sh x0 (b8 (h.1 (h.2.1 x0 47) ((20000 : Int32) + x14).toNatClampNeg)) h P8 ∧ (∀ h11 : Hp, P8 h11 → (∀ y12 : Int32, y12 = x14 + (1 : Int32) → (L491 x0 x1 x2 x3 x4 x5 x6 x7 y12 h11))))))))
set_option maxRecDepth 20000 in
set_option maxHeartbeats 4000000 in
theorem W_X12_windows_491 {w : Wd} {E : GE} {sh : List Sh} {x0 : Nat} {x1 : Nat} {x2 : Int32} {x3 : Nat} {x4 : Int32} {x5 : Int32} {x6 : Int32} {x7 : Int32} {x14 : Int32} {h : Hp} {L3 : Nat → Nat → Int32 → Nat → Int32 → Int32 → Int32 → Int32 → Hp → Prop} {L97 : Nat → Nat → Int32 → Nat → Int32 → Int32 → Int32 → Int32 → Int32 → Int32 → Int32 → Hp → Prop} {L146 : Nat → Nat → Int32 → Nat → Int32 → Int32 → Int32 → Int32 → Int32 → Int32 → Int32 → Hp → Prop} {L397 : Nat → Nat → Int32 → Nat → Int32 → Int32 → Int32 → Int32 → Int32 → Int64 → Int32 → Hp → Prop} {L429 : Nat → Nat → Int32 → Nat → Int32 → Int32 → Int32 → Int32 → Int32 → Hp → Prop} {L458 : Nat → Nat → Int32 → Nat → Int32 → Int32 → Int32 → Int32 → Int32 → Hp → Prop} {L491 : Nat → Nat → Int32 → Nat → Int32 → Int32 → Int32 → Int32 → Int32 → Hp → Prop} {RET : Hp → Prop} (X : Cx w E cX12_windows 15 RX12) (Tt : Rt w E none sh.length 0 0 (fun q sh9 h9 => q = none ∧ sh9 = sh ∧ RET h9)) (hR : gR E = { frames := 3, cells := 0, slots := 0, locals := 77 }) (hL3 : ∀ (x0 : Nat) (x1 : Nat) (x2 : Int32) (x3 : Nat) (x4 : Int32) (x5 : Int32) (x6 : Int32) (x7 : Int32) (h : Hp), L3 x0 x1 x2 x3 x4 x5 x6 x7 h → G w E 15 3 [(0, rv w.2.2.2 x0), (1, rv w.2.2.2 x1), (2, Value.int x2), (3, rv w.2.2.2 x3), (4, Value.int x4), (5, Value.int x5), (6, Value.int x6), (7, Value.int x7)] [] sh h 0 0) (hL97 : ∀ (x0 : Nat) (x1 : Nat) (x2 : Int32) (x3 : Nat) (x4 : Int32) (x5 : Int32) (x6 : Int32) (x7 : Int32) (x8 : Int32) (x9 : Int32) (x10 : Int32) (h : Hp), L97 x0 x1 x2 x3 x4 x5 x6 x7 x8 x9 x10 h → G w E 15 97 [(0, rv w.2.2.2 x0), (1, rv w.2.2.2 x1), (2, Value.int x2), (3, rv w.2.2.2 x3), (4, Value.int x4), (5, Value.int x5), (6, Value.int x6), (7, Value.int x7), (8, Value.int x8), (9, Value.int x9), (10, Value.int x10)] [] sh h 0 0) (hL146 : ∀ (x0 : Nat) (x1 : Nat) (x2 : Int32) (x3 : Nat) (x4 : Int32) (x5 : Int32) (x6 : Int32) (x7 : Int32) (x8 : Int32) (x9 : Int32) (x10 : Int32) (h : Hp), L146 x0 x1 x2 x3 x4 x5 x6 x7 x8 x9 x10 h → G w E 15 146 [(0, rv w.2.2.2 x0), (1, rv w.2.2.2 x1), (2, Value.int x2), (3, rv w.2.2.2 x3), (4, Value.int x4), (5, Value.int x5), (6, Value.int x6), (7, Value.int x7), (8, Value.int x8), (9, Value.int x9), (10, Value.int x10)] [] sh h 0 0) (hL397 : ∀ (x0 : Nat) (x1 : Nat) (x2 : Int32) (x3 : Nat) (x4 : Int32) (x5 : Int32) (x6 : Int32) (x7 : Int32) (x10 : Int32) (x12 : Int64) (x14 : Int32) (h : Hp), L397 x0 x1 x2 x3 x4 x5 x6 x7 x10 x12 x14 h → G w E 15 397 [(0, rv w.2.2.2 x0), (1, rv w.2.2.2 x1), (2, Value.int x2), (3, rv w.2.2.2 x3), (4, Value.int x4), (5, Value.int x5), (6, Value.int x6), (7, Value.int x7), (10, Value.int x10), (12, Value.long x12), (14, Value.int x14)] [] sh h 0 0) (hL429 : ∀ (x0 : Nat) (x1 : Nat) (x2 : Int32) (x3 : Nat) (x4 : Int32) (x5 : Int32) (x6 : Int32) (x7 : Int32) (x14 : Int32) (h : Hp), L429 x0 x1 x2 x3 x4 x5 x6 x7 x14 h → G w E 15 429 [(0, rv w.2.2.2 x0), (1, rv w.2.2.2 x1), (2, Value.int x2), (3, rv w.2.2.2 x3), (4, Value.int x4), (5, Value.int x5), (6, Value.int x6), (7, Value.int x7), (14, Value.int x14)] [] sh h 0 0) (hL458 : ∀ (x0 : Nat) (x1 : Nat) (x2 : Int32) (x3 : Nat) (x4 : Int32) (x5 : Int32) (x6 : Int32) (x7 : Int32) (x14 : Int32) (h : Hp), L458 x0 x1 x2 x3 x4 x5 x6 x7 x14 h → G w E 15 458 [(0, rv w.2.2.2 x0), (1, rv w.2.2.2 x1), (2, Value.int x2), (3, rv w.2.2.2 x3), (4, Value.int x4), (5, Value.int x5), (6, Value.int x6), (7, Value.int x7), (14, Value.int x14)] [] sh h 0 0) (hL491 : ∀ (x0 : Nat) (x1 : Nat) (x2 : Int32) (x3 : Nat) (x4 : Int32) (x5 : Int32) (x6 : Int32) (x7 : Int32) (x14 : Int32) (h : Hp), L491 x0 x1 x2 x3 x4 x5 x6 x7 x14 h → G w E 15 491 [(0, rv w.2.2.2 x0), (1, rv w.2.2.2 x1), (2, Value.int x2), (3, rv w.2.2.2 x3), (4, Value.int x4), (5, Value.int x5), (6, Value.int x6), (7, Value.int x7), (14, Value.int x14)] [] sh h 0 0) (hV : V_X12_windows_491 w sh x0 x1 x2 x3 x4 x5 x6 x7 x14 h L3 L97 L146 L397 L429 L458 L491 RET) : G w E 15 491 [(0, rv w.2.2.2 x0), (1, rv w.2.2.2 x1), (2, Value.int x2), (3, rv w.2.2.2 x3), (4, Value.int x4), (5, Value.int x5), (6, Value.int x6), (7, Value.int x7), (14, Value.int x14)] [] sh h 0 0 := by
  unfold V_X12_windows_491 at hV
  refine g_iload (pc := 491) X 8 rfl dX12_windows_491 ?_
  refine g_aload_n (pc := 493) X 0 rfl rfl dX12_windows_493 ?_
  obtain ⟨q1, hV⟩ := hV
  refine g_getI (pc := 494) X fl_X12_311 q1 dX12_windows_494 ?_
  refine g_icmp_ge (pc := 497) X 521 dX12_windows_497 (by decide) (fun c2 => ?_) (fun c2 => ?_)
  · have hV := hV.1 c2
    refine g_iincW (pc := 521) X 7 (v := (2048 : Int32)) (rest := [(0, rv w.2.2.2 x0), (1, rv w.2.2.2 x1), (2, Value.int x2), (3, rv w.2.2.2 x3), (4, Value.int x4), (5, Value.int x5), (6, Value.int x6), (14, Value.int x14)]) rfl (by decide) rfl (by decide) dX12_windows_521 (fun y3 e4 => ?_)
    have hV := hV y3 e4
    refine g_goto (pc := 527) X 3 dX12_windows_527 (by decide) ?_
    refine g_lv [1, 2, 3, 4, 5, 6, 7, 0] rfl ?_
    exact hL3 x0 x1 x2 x3 x4 x5 x6 y3 h hV
  · have hV := hV.2 c2
    refine g_aload_n (pc := 500) X 0 rfl rfl dX12_windows_500 ?_
    refine g_aload_n (pc := 501) X 0 rfl rfl dX12_windows_501 ?_
    refine g_getR (pc := 502) X fl_X12_86 q1 dX12_windows_502 ?_
    refine g_sipush (pc := 505) (v := (20000 : Int32)) X dX12_windows_505 (by decide) ?_
    refine g_iload (pc := 508) X 8 rfl dX12_windows_508 ?_
    refine g_iadd (pc := 510) X dX12_windows_510 ?_
    obtain ⟨n6, q5, hV⟩ := hV
    obtain ⟨q7, hV⟩ := hV
    refine g_bald (pc := 511) X q5 q7 dX12_windows_511 ?_
    obtain ⟨P8, t9, hV⟩ := hV
    refine g_cVV (pc := 512) X (As := [Value.int (b8 (h.1 (h.2.1 x0 47) ((20000 : Int32) + x14).toNatClampNeg))]) ml_X12_273 rfl q1 t9 (by rw [hR]; exact ⟨by decide, by decide, by decide, by decide⟩) rfl rfl (Nat.zero_le _) dX12_windows_512 (fun h11 p10 => ?_)
    have hV := hV h11 p10
    refine g_iinc (pc := 515) X 8 (v := (1 : Int32)) (rest := [(0, rv w.2.2.2 x0), (1, rv w.2.2.2 x1), (2, Value.int x2), (3, rv w.2.2.2 x3), (4, Value.int x4), (5, Value.int x5), (6, Value.int x6), (7, Value.int x7)]) rfl (by decide) rfl (by decide) dX12_windows_515 (fun y12 e13 => ?_)
    have hV := hV y12 e13
    refine g_goto (pc := 518) X 491 dX12_windows_518 (by decide) ?_
    refine g_lv [1, 2, 3, 4, 5, 6, 7, 8, 0] rfl ?_
    exact hL491 x0 x1 x2 x3 x4 x5 x6 x7 y12 h11 hV
def V_X12_windows_458 (w : Wd) (sh : List Sh) (x0 : Nat) (x1 : Nat) (x2 : Int32) (x3 : Nat) (x4 : Int32) (x5 : Int32) (x6 : Int32) (x7 : Int32) (x14 : Int32) (h : Hp) (L3 : Nat → Nat → Int32 → Nat → Int32 → Int32 → Int32 → Int32 → Hp → Prop) (L97 : Nat → Nat → Int32 → Nat → Int32 → Int32 → Int32 → Int32 → Int32 → Int32 → Int32 → Hp → Prop) (L146 : Nat → Nat → Int32 → Nat → Int32 → Int32 → Int32 → Int32 → Int32 → Int32 → Int32 → Hp → Prop) (L397 : Nat → Nat → Int32 → Nat → Int32 → Int32 → Int32 → Int32 → Int32 → Int64 → Int32 → Hp → Prop) (L429 : Nat → Nat → Int32 → Nat → Int32 → Int32 → Int32 → Int32 → Int32 → Hp → Prop) (L458 : Nat → Nat → Int32 → Nat → Int32 → Int32 → Int32 → Int32 → Int32 → Hp → Prop) (L491 : Nat → Nat → Int32 → Nat → Int32 → Int32 → Int32 → Int32 → Int32 → Hp → Prop) (RET : Hp → Prop) : Prop :=
  shAt sh x0 = some (.inr 12) ∧ ((((h.1 x0 49) ≤ x14) → (∀ y3 : Int32, y3 = (0 : Int32) → (L491 x0 x1 x2 x3 x4 x5 x6 x7 y3 h))) ∧ ((¬ (h.1 x0 49) ≤ x14) → (∃ n6 : Nat, shAt sh (h.2.1 x0 47) = some (.inl (0, n6)) ∧ (vp_in ((10000 : Int32) + x14) n6 ∧ (∃ P8 : Hp → Prop, C_X12_say w sh x0 (b8 (h.1 (h.2.1 x0 47) ((10000 : Int32) + x14).toNatClampNeg)) h P8 ∧ (∀ h11 : Hp, P8 h11 → (∀ y12 : Int32, y12 = x14 + (1 : Int32) → (L458 x0 x1 x2 x3 x4 x5 x6 x7 y12 h11))))))))
set_option maxRecDepth 20000 in
set_option maxHeartbeats 4000000 in
theorem W_X12_windows_458 {w : Wd} {E : GE} {sh : List Sh} {x0 : Nat} {x1 : Nat} {x2 : Int32} {x3 : Nat} {x4 : Int32} {x5 : Int32} {x6 : Int32} {x7 : Int32} {x14 : Int32} {h : Hp} {L3 : Nat → Nat → Int32 → Nat → Int32 → Int32 → Int32 → Int32 → Hp → Prop} {L97 : Nat → Nat → Int32 → Nat → Int32 → Int32 → Int32 → Int32 → Int32 → Int32 → Int32 → Hp → Prop} {L146 : Nat → Nat → Int32 → Nat → Int32 → Int32 → Int32 → Int32 → Int32 → Int32 → Int32 → Hp → Prop} {L397 : Nat → Nat → Int32 → Nat → Int32 → Int32 → Int32 → Int32 → Int32 → Int64 → Int32 → Hp → Prop} {L429 : Nat → Nat → Int32 → Nat → Int32 → Int32 → Int32 → Int32 → Int32 → Hp → Prop} {L458 : Nat → Nat → Int32 → Nat → Int32 → Int32 → Int32 → Int32 → Int32 → Hp → Prop} {L491 : Nat → Nat → Int32 → Nat → Int32 → Int32 → Int32 → Int32 → Int32 → Hp → Prop} {RET : Hp → Prop} (X : Cx w E cX12_windows 15 RX12) (Tt : Rt w E none sh.length 0 0 (fun q sh9 h9 => q = none ∧ sh9 = sh ∧ RET h9)) (hR : gR E = { frames := 3, cells := 0, slots := 0, locals := 77 }) (hL3 : ∀ (x0 : Nat) (x1 : Nat) (x2 : Int32) (x3 : Nat) (x4 : Int32) (x5 : Int32) (x6 : Int32) (x7 : Int32) (h : Hp), L3 x0 x1 x2 x3 x4 x5 x6 x7 h → G w E 15 3 [(0, rv w.2.2.2 x0), (1, rv w.2.2.2 x1), (2, Value.int x2), (3, rv w.2.2.2 x3), (4, Value.int x4), (5, Value.int x5), (6, Value.int x6), (7, Value.int x7)] [] sh h 0 0) (hL97 : ∀ (x0 : Nat) (x1 : Nat) (x2 : Int32) (x3 : Nat) (x4 : Int32) (x5 : Int32) (x6 : Int32) (x7 : Int32) (x8 : Int32) (x9 : Int32) (x10 : Int32) (h : Hp), L97 x0 x1 x2 x3 x4 x5 x6 x7 x8 x9 x10 h → G w E 15 97 [(0, rv w.2.2.2 x0), (1, rv w.2.2.2 x1), (2, Value.int x2), (3, rv w.2.2.2 x3), (4, Value.int x4), (5, Value.int x5), (6, Value.int x6), (7, Value.int x7), (8, Value.int x8), (9, Value.int x9), (10, Value.int x10)] [] sh h 0 0) (hL146 : ∀ (x0 : Nat) (x1 : Nat) (x2 : Int32) (x3 : Nat) (x4 : Int32) (x5 : Int32) (x6 : Int32) (x7 : Int32) (x8 : Int32) (x9 : Int32) (x10 : Int32) (h : Hp), L146 x0 x1 x2 x3 x4 x5 x6 x7 x8 x9 x10 h → G w E 15 146 [(0, rv w.2.2.2 x0), (1, rv w.2.2.2 x1), (2, Value.int x2), (3, rv w.2.2.2 x3), (4, Value.int x4), (5, Value.int x5), (6, Value.int x6), (7, Value.int x7), (8, Value.int x8), (9, Value.int x9), (10, Value.int x10)] [] sh h 0 0) (hL397 : ∀ (x0 : Nat) (x1 : Nat) (x2 : Int32) (x3 : Nat) (x4 : Int32) (x5 : Int32) (x6 : Int32) (x7 : Int32) (x10 : Int32) (x12 : Int64) (x14 : Int32) (h : Hp), L397 x0 x1 x2 x3 x4 x5 x6 x7 x10 x12 x14 h → G w E 15 397 [(0, rv w.2.2.2 x0), (1, rv w.2.2.2 x1), (2, Value.int x2), (3, rv w.2.2.2 x3), (4, Value.int x4), (5, Value.int x5), (6, Value.int x6), (7, Value.int x7), (10, Value.int x10), (12, Value.long x12), (14, Value.int x14)] [] sh h 0 0) (hL429 : ∀ (x0 : Nat) (x1 : Nat) (x2 : Int32) (x3 : Nat) (x4 : Int32) (x5 : Int32) (x6 : Int32) (x7 : Int32) (x14 : Int32) (h : Hp), L429 x0 x1 x2 x3 x4 x5 x6 x7 x14 h → G w E 15 429 [(0, rv w.2.2.2 x0), (1, rv w.2.2.2 x1), (2, Value.int x2), (3, rv w.2.2.2 x3), (4, Value.int x4), (5, Value.int x5), (6, Value.int x6), (7, Value.int x7), (14, Value.int x14)] [] sh h 0 0) (hL458 : ∀ (x0 : Nat) (x1 : Nat) (x2 : Int32) (x3 : Nat) (x4 : Int32) (x5 : Int32) (x6 : Int32) (x7 : Int32) (x14 : Int32) (h : Hp), L458 x0 x1 x2 x3 x4 x5 x6 x7 x14 h → G w E 15 458 [(0, rv w.2.2.2 x0), (1, rv w.2.2.2 x1), (2, Value.int x2), (3, rv w.2.2.2 x3), (4, Value.int x4), (5, Value.int x5), (6, Value.int x6), (7, Value.int x7), (14, Value.int x14)] [] sh h 0 0) (hL491 : ∀ (x0 : Nat) (x1 : Nat) (x2 : Int32) (x3 : Nat) (x4 : Int32) (x5 : Int32) (x6 : Int32) (x7 : Int32) (x14 : Int32) (h : Hp), L491 x0 x1 x2 x3 x4 x5 x6 x7 x14 h → G w E 15 491 [(0, rv w.2.2.2 x0), (1, rv w.2.2.2 x1), (2, Value.int x2), (3, rv w.2.2.2 x3), (4, Value.int x4), (5, Value.int x5), (6, Value.int x6), (7, Value.int x7), (14, Value.int x14)] [] sh h 0 0) (hV : V_X12_windows_458 w sh x0 x1 x2 x3 x4 x5 x6 x7 x14 h L3 L97 L146 L397 L429 L458 L491 RET) : G w E 15 458 [(0, rv w.2.2.2 x0), (1, rv w.2.2.2 x1), (2, Value.int x2), (3, rv w.2.2.2 x3), (4, Value.int x4), (5, Value.int x5), (6, Value.int x6), (7, Value.int x7), (14, Value.int x14)] [] sh h 0 0 := by
  unfold V_X12_windows_458 at hV
  refine g_iload (pc := 458) X 8 rfl dX12_windows_458 ?_
  refine g_aload_n (pc := 460) X 0 rfl rfl dX12_windows_460 ?_
  obtain ⟨q1, hV⟩ := hV
  refine g_getI (pc := 461) X fl_X12_308 q1 dX12_windows_461 ?_
  refine g_icmp_ge (pc := 464) X 488 dX12_windows_464 (by decide) (fun c2 => ?_) (fun c2 => ?_)
  · have hV := hV.1 c2
    refine g_iconst (pc := 488) (v := (0 : Int32)) X dX12_windows_488 (by decide) ?_
    refine g_istore (pc := 489) X (i := 14) (rest := [(0, rv w.2.2.2 x0), (1, rv w.2.2.2 x1), (2, Value.int x2), (3, rv w.2.2.2 x3), (4, Value.int x4), (5, Value.int x5), (6, Value.int x6), (7, Value.int x7)]) (by decide) rfl dX12_windows_489 (fun y3 e4 => ?_)
    have hV := hV y3 e4
    refine g_lv [1, 2, 3, 4, 5, 6, 7, 8, 0] rfl ?_
    exact hL491 x0 x1 x2 x3 x4 x5 x6 x7 y3 h hV
  · have hV := hV.2 c2
    refine g_aload_n (pc := 467) X 0 rfl rfl dX12_windows_467 ?_
    refine g_aload_n (pc := 468) X 0 rfl rfl dX12_windows_468 ?_
    refine g_getR (pc := 469) X fl_X12_86 q1 dX12_windows_469 ?_
    refine g_sipush (pc := 472) (v := (10000 : Int32)) X dX12_windows_472 (by decide) ?_
    refine g_iload (pc := 475) X 8 rfl dX12_windows_475 ?_
    refine g_iadd (pc := 477) X dX12_windows_477 ?_
    obtain ⟨n6, q5, hV⟩ := hV
    obtain ⟨q7, hV⟩ := hV
    refine g_bald (pc := 478) X q5 q7 dX12_windows_478 ?_
    obtain ⟨P8, t9, hV⟩ := hV
    refine g_cVV (pc := 479) X (As := [Value.int (b8 (h.1 (h.2.1 x0 47) ((10000 : Int32) + x14).toNatClampNeg))]) ml_X12_273 rfl q1 t9 (by rw [hR]; exact ⟨by decide, by decide, by decide, by decide⟩) rfl rfl (Nat.zero_le _) dX12_windows_479 (fun h11 p10 => ?_)
    have hV := hV h11 p10
    refine g_iinc (pc := 482) X 8 (v := (1 : Int32)) (rest := [(0, rv w.2.2.2 x0), (1, rv w.2.2.2 x1), (2, Value.int x2), (3, rv w.2.2.2 x3), (4, Value.int x4), (5, Value.int x5), (6, Value.int x6), (7, Value.int x7)]) rfl (by decide) rfl (by decide) dX12_windows_482 (fun y12 e13 => ?_)
    have hV := hV y12 e13
    refine g_goto (pc := 485) X 458 dX12_windows_485 (by decide) ?_
    refine g_lv [1, 2, 3, 4, 5, 6, 7, 8, 0] rfl ?_
    exact hL458 x0 x1 x2 x3 x4 x5 x6 x7 y12 h11 hV
def V_X12_windows_429 (w : Wd) (sh : List Sh) (x0 : Nat) (x1 : Nat) (x2 : Int32) (x3 : Nat) (x4 : Int32) (x5 : Int32) (x6 : Int32) (x7 : Int32) (x14 : Int32) (h : Hp) (L3 : Nat → Nat → Int32 → Nat → Int32 → Int32 → Int32 → Int32 → Hp → Prop) (L97 : Nat → Nat → Int32 → Nat → Int32 → Int32 → Int32 → Int32 → Int32 → Int32 → Int32 → Hp → Prop) (L146 : Nat → Nat → Int32 → Nat → Int32 → Int32 → Int32 → Int32 → Int32 → Int32 → Int32 → Hp → Prop) (L397 : Nat → Nat → Int32 → Nat → Int32 → Int32 → Int32 → Int32 → Int32 → Int64 → Int32 → Hp → Prop) (L429 : Nat → Nat → Int32 → Nat → Int32 → Int32 → Int32 → Int32 → Int32 → Hp → Prop) (L458 : Nat → Nat → Int32 → Nat → Int32 → Int32 → Int32 → Int32 → Int32 → Hp → Prop) (L491 : Nat → Nat → Int32 → Nat → Int32 → Int32 → Int32 → Int32 → Int32 → Hp → Prop) (RET : Hp → Prop) : Prop :=
  shAt sh x0 = some (.inr 12) ∧ ((((h.1 x0 48) ≤ x14) → (∀ y3 : Int32, y3 = (0 : Int32) → (L458 x0 x1 x2 x3 x4 x5 x6 x7 y3 h))) ∧ ((¬ (h.1 x0 48) ≤ x14) → (∃ n6 : Nat, shAt sh (h.2.1 x0 47) = some (.inl (0, n6)) ∧ (vp_in x14 n6 ∧ (∃ P8 : Hp → Prop, C_X12_say w sh x0 (b8 (h.1 (h.2.1 x0 47) x14.toNatClampNeg)) h P8 ∧ (∀ h11 : Hp, P8 h11 → (∀ y12 : Int32, y12 = x14 + (1 : Int32) → (L429 x0 x1 x2 x3 x4 x5 x6 x7 y12 h11))))))))
set_option maxRecDepth 20000 in
set_option maxHeartbeats 4000000 in
theorem W_X12_windows_429 {w : Wd} {E : GE} {sh : List Sh} {x0 : Nat} {x1 : Nat} {x2 : Int32} {x3 : Nat} {x4 : Int32} {x5 : Int32} {x6 : Int32} {x7 : Int32} {x14 : Int32} {h : Hp} {L3 : Nat → Nat → Int32 → Nat → Int32 → Int32 → Int32 → Int32 → Hp → Prop} {L97 : Nat → Nat → Int32 → Nat → Int32 → Int32 → Int32 → Int32 → Int32 → Int32 → Int32 → Hp → Prop} {L146 : Nat → Nat → Int32 → Nat → Int32 → Int32 → Int32 → Int32 → Int32 → Int32 → Int32 → Hp → Prop} {L397 : Nat → Nat → Int32 → Nat → Int32 → Int32 → Int32 → Int32 → Int32 → Int64 → Int32 → Hp → Prop} {L429 : Nat → Nat → Int32 → Nat → Int32 → Int32 → Int32 → Int32 → Int32 → Hp → Prop} {L458 : Nat → Nat → Int32 → Nat → Int32 → Int32 → Int32 → Int32 → Int32 → Hp → Prop} {L491 : Nat → Nat → Int32 → Nat → Int32 → Int32 → Int32 → Int32 → Int32 → Hp → Prop} {RET : Hp → Prop} (X : Cx w E cX12_windows 15 RX12) (Tt : Rt w E none sh.length 0 0 (fun q sh9 h9 => q = none ∧ sh9 = sh ∧ RET h9)) (hR : gR E = { frames := 3, cells := 0, slots := 0, locals := 77 }) (hL3 : ∀ (x0 : Nat) (x1 : Nat) (x2 : Int32) (x3 : Nat) (x4 : Int32) (x5 : Int32) (x6 : Int32) (x7 : Int32) (h : Hp), L3 x0 x1 x2 x3 x4 x5 x6 x7 h → G w E 15 3 [(0, rv w.2.2.2 x0), (1, rv w.2.2.2 x1), (2, Value.int x2), (3, rv w.2.2.2 x3), (4, Value.int x4), (5, Value.int x5), (6, Value.int x6), (7, Value.int x7)] [] sh h 0 0) (hL97 : ∀ (x0 : Nat) (x1 : Nat) (x2 : Int32) (x3 : Nat) (x4 : Int32) (x5 : Int32) (x6 : Int32) (x7 : Int32) (x8 : Int32) (x9 : Int32) (x10 : Int32) (h : Hp), L97 x0 x1 x2 x3 x4 x5 x6 x7 x8 x9 x10 h → G w E 15 97 [(0, rv w.2.2.2 x0), (1, rv w.2.2.2 x1), (2, Value.int x2), (3, rv w.2.2.2 x3), (4, Value.int x4), (5, Value.int x5), (6, Value.int x6), (7, Value.int x7), (8, Value.int x8), (9, Value.int x9), (10, Value.int x10)] [] sh h 0 0) (hL146 : ∀ (x0 : Nat) (x1 : Nat) (x2 : Int32) (x3 : Nat) (x4 : Int32) (x5 : Int32) (x6 : Int32) (x7 : Int32) (x8 : Int32) (x9 : Int32) (x10 : Int32) (h : Hp), L146 x0 x1 x2 x3 x4 x5 x6 x7 x8 x9 x10 h → G w E 15 146 [(0, rv w.2.2.2 x0), (1, rv w.2.2.2 x1), (2, Value.int x2), (3, rv w.2.2.2 x3), (4, Value.int x4), (5, Value.int x5), (6, Value.int x6), (7, Value.int x7), (8, Value.int x8), (9, Value.int x9), (10, Value.int x10)] [] sh h 0 0) (hL397 : ∀ (x0 : Nat) (x1 : Nat) (x2 : Int32) (x3 : Nat) (x4 : Int32) (x5 : Int32) (x6 : Int32) (x7 : Int32) (x10 : Int32) (x12 : Int64) (x14 : Int32) (h : Hp), L397 x0 x1 x2 x3 x4 x5 x6 x7 x10 x12 x14 h → G w E 15 397 [(0, rv w.2.2.2 x0), (1, rv w.2.2.2 x1), (2, Value.int x2), (3, rv w.2.2.2 x3), (4, Value.int x4), (5, Value.int x5), (6, Value.int x6), (7, Value.int x7), (10, Value.int x10), (12, Value.long x12), (14, Value.int x14)] [] sh h 0 0) (hL429 : ∀ (x0 : Nat) (x1 : Nat) (x2 : Int32) (x3 : Nat) (x4 : Int32) (x5 : Int32) (x6 : Int32) (x7 : Int32) (x14 : Int32) (h : Hp), L429 x0 x1 x2 x3 x4 x5 x6 x7 x14 h → G w E 15 429 [(0, rv w.2.2.2 x0), (1, rv w.2.2.2 x1), (2, Value.int x2), (3, rv w.2.2.2 x3), (4, Value.int x4), (5, Value.int x5), (6, Value.int x6), (7, Value.int x7), (14, Value.int x14)] [] sh h 0 0) (hL458 : ∀ (x0 : Nat) (x1 : Nat) (x2 : Int32) (x3 : Nat) (x4 : Int32) (x5 : Int32) (x6 : Int32) (x7 : Int32) (x14 : Int32) (h : Hp), L458 x0 x1 x2 x3 x4 x5 x6 x7 x14 h → G w E 15 458 [(0, rv w.2.2.2 x0), (1, rv w.2.2.2 x1), (2, Value.int x2), (3, rv w.2.2.2 x3), (4, Value.int x4), (5, Value.int x5), (6, Value.int x6), (7, Value.int x7), (14, Value.int x14)] [] sh h 0 0) (hL491 : ∀ (x0 : Nat) (x1 : Nat) (x2 : Int32) (x3 : Nat) (x4 : Int32) (x5 : Int32) (x6 : Int32) (x7 : Int32) (x14 : Int32) (h : Hp), L491 x0 x1 x2 x3 x4 x5 x6 x7 x14 h → G w E 15 491 [(0, rv w.2.2.2 x0), (1, rv w.2.2.2 x1), (2, Value.int x2), (3, rv w.2.2.2 x3), (4, Value.int x4), (5, Value.int x5), (6, Value.int x6), (7, Value.int x7), (14, Value.int x14)] [] sh h 0 0) (hV : V_X12_windows_429 w sh x0 x1 x2 x3 x4 x5 x6 x7 x14 h L3 L97 L146 L397 L429 L458 L491 RET) : G w E 15 429 [(0, rv w.2.2.2 x0), (1, rv w.2.2.2 x1), (2, Value.int x2), (3, rv w.2.2.2 x3), (4, Value.int x4), (5, Value.int x5), (6, Value.int x6), (7, Value.int x7), (14, Value.int x14)] [] sh h 0 0 := by
  unfold V_X12_windows_429 at hV
  refine g_iload (pc := 429) X 8 rfl dX12_windows_429 ?_
  refine g_aload_n (pc := 431) X 0 rfl rfl dX12_windows_431 ?_
  obtain ⟨q1, hV⟩ := hV
  refine g_getI (pc := 432) X fl_X12_305 q1 dX12_windows_432 ?_
  refine g_icmp_ge (pc := 435) X 455 dX12_windows_435 (by decide) (fun c2 => ?_) (fun c2 => ?_)
  · have hV := hV.1 c2
    refine g_iconst (pc := 455) (v := (0 : Int32)) X dX12_windows_455 (by decide) ?_
    refine g_istore (pc := 456) X (i := 14) (rest := [(0, rv w.2.2.2 x0), (1, rv w.2.2.2 x1), (2, Value.int x2), (3, rv w.2.2.2 x3), (4, Value.int x4), (5, Value.int x5), (6, Value.int x6), (7, Value.int x7)]) (by decide) rfl dX12_windows_456 (fun y3 e4 => ?_)
    have hV := hV y3 e4
    refine g_lv [1, 2, 3, 4, 5, 6, 7, 8, 0] rfl ?_
    exact hL458 x0 x1 x2 x3 x4 x5 x6 x7 y3 h hV
  · have hV := hV.2 c2
    refine g_aload_n (pc := 438) X 0 rfl rfl dX12_windows_438 ?_
    refine g_aload_n (pc := 439) X 0 rfl rfl dX12_windows_439 ?_
    refine g_getR (pc := 440) X fl_X12_86 q1 dX12_windows_440 ?_
    refine g_iload (pc := 443) X 8 rfl dX12_windows_443 ?_
    obtain ⟨n6, q5, hV⟩ := hV
    obtain ⟨q7, hV⟩ := hV
    refine g_bald (pc := 445) X q5 q7 dX12_windows_445 ?_
    obtain ⟨P8, t9, hV⟩ := hV
    refine g_cVV (pc := 446) X (As := [Value.int (b8 (h.1 (h.2.1 x0 47) x14.toNatClampNeg))]) ml_X12_273 rfl q1 t9 (by rw [hR]; exact ⟨by decide, by decide, by decide, by decide⟩) rfl rfl (Nat.zero_le _) dX12_windows_446 (fun h11 p10 => ?_)
    have hV := hV h11 p10
    refine g_iinc (pc := 449) X 8 (v := (1 : Int32)) (rest := [(0, rv w.2.2.2 x0), (1, rv w.2.2.2 x1), (2, Value.int x2), (3, rv w.2.2.2 x3), (4, Value.int x4), (5, Value.int x5), (6, Value.int x6), (7, Value.int x7)]) rfl (by decide) rfl (by decide) dX12_windows_449 (fun y12 e13 => ?_)
    have hV := hV y12 e13
    refine g_goto (pc := 452) X 429 dX12_windows_452 (by decide) ?_
    refine g_lv [1, 2, 3, 4, 5, 6, 7, 8, 0] rfl ?_
    exact hL429 x0 x1 x2 x3 x4 x5 x6 x7 y12 h11 hV
def V_X12_windows_426 (w : Wd) (sh : List Sh) (x0 : Nat) (x1 : Nat) (x2 : Int32) (x3 : Nat) (x4 : Int32) (x5 : Int32) (x6 : Int32) (x7 : Int32) (h : Hp) (L3 : Nat → Nat → Int32 → Nat → Int32 → Int32 → Int32 → Int32 → Hp → Prop) (L97 : Nat → Nat → Int32 → Nat → Int32 → Int32 → Int32 → Int32 → Int32 → Int32 → Int32 → Hp → Prop) (L146 : Nat → Nat → Int32 → Nat → Int32 → Int32 → Int32 → Int32 → Int32 → Int32 → Int32 → Hp → Prop) (L397 : Nat → Nat → Int32 → Nat → Int32 → Int32 → Int32 → Int32 → Int32 → Int64 → Int32 → Hp → Prop) (L429 : Nat → Nat → Int32 → Nat → Int32 → Int32 → Int32 → Int32 → Int32 → Hp → Prop) (L458 : Nat → Nat → Int32 → Nat → Int32 → Int32 → Int32 → Int32 → Int32 → Hp → Prop) (L491 : Nat → Nat → Int32 → Nat → Int32 → Int32 → Int32 → Int32 → Int32 → Hp → Prop) (RET : Hp → Prop) : Prop :=
  ∀ y1 : Int32, y1 = (0 : Int32) → (L429 x0 x1 x2 x3 x4 x5 x6 x7 y1 h)
set_option maxRecDepth 20000 in
set_option maxHeartbeats 4000000 in
theorem W_X12_windows_426 {w : Wd} {E : GE} {sh : List Sh} {x0 : Nat} {x1 : Nat} {x2 : Int32} {x3 : Nat} {x4 : Int32} {x5 : Int32} {x6 : Int32} {x7 : Int32} {h : Hp} {L3 : Nat → Nat → Int32 → Nat → Int32 → Int32 → Int32 → Int32 → Hp → Prop} {L97 : Nat → Nat → Int32 → Nat → Int32 → Int32 → Int32 → Int32 → Int32 → Int32 → Int32 → Hp → Prop} {L146 : Nat → Nat → Int32 → Nat → Int32 → Int32 → Int32 → Int32 → Int32 → Int32 → Int32 → Hp → Prop} {L397 : Nat → Nat → Int32 → Nat → Int32 → Int32 → Int32 → Int32 → Int32 → Int64 → Int32 → Hp → Prop} {L429 : Nat → Nat → Int32 → Nat → Int32 → Int32 → Int32 → Int32 → Int32 → Hp → Prop} {L458 : Nat → Nat → Int32 → Nat → Int32 → Int32 → Int32 → Int32 → Int32 → Hp → Prop} {L491 : Nat → Nat → Int32 → Nat → Int32 → Int32 → Int32 → Int32 → Int32 → Hp → Prop} {RET : Hp → Prop} (X : Cx w E cX12_windows 15 RX12) (Tt : Rt w E none sh.length 0 0 (fun q sh9 h9 => q = none ∧ sh9 = sh ∧ RET h9)) (hR : gR E = { frames := 3, cells := 0, slots := 0, locals := 77 }) (hL3 : ∀ (x0 : Nat) (x1 : Nat) (x2 : Int32) (x3 : Nat) (x4 : Int32) (x5 : Int32) (x6 : Int32) (x7 : Int32) (h : Hp), L3 x0 x1 x2 x3 x4 x5 x6 x7 h → G w E 15 3 [(0, rv w.2.2.2 x0), (1, rv w.2.2.2 x1), (2, Value.int x2), (3, rv w.2.2.2 x3), (4, Value.int x4), (5, Value.int x5), (6, Value.int x6), (7, Value.int x7)] [] sh h 0 0) (hL97 : ∀ (x0 : Nat) (x1 : Nat) (x2 : Int32) (x3 : Nat) (x4 : Int32) (x5 : Int32) (x6 : Int32) (x7 : Int32) (x8 : Int32) (x9 : Int32) (x10 : Int32) (h : Hp), L97 x0 x1 x2 x3 x4 x5 x6 x7 x8 x9 x10 h → G w E 15 97 [(0, rv w.2.2.2 x0), (1, rv w.2.2.2 x1), (2, Value.int x2), (3, rv w.2.2.2 x3), (4, Value.int x4), (5, Value.int x5), (6, Value.int x6), (7, Value.int x7), (8, Value.int x8), (9, Value.int x9), (10, Value.int x10)] [] sh h 0 0) (hL146 : ∀ (x0 : Nat) (x1 : Nat) (x2 : Int32) (x3 : Nat) (x4 : Int32) (x5 : Int32) (x6 : Int32) (x7 : Int32) (x8 : Int32) (x9 : Int32) (x10 : Int32) (h : Hp), L146 x0 x1 x2 x3 x4 x5 x6 x7 x8 x9 x10 h → G w E 15 146 [(0, rv w.2.2.2 x0), (1, rv w.2.2.2 x1), (2, Value.int x2), (3, rv w.2.2.2 x3), (4, Value.int x4), (5, Value.int x5), (6, Value.int x6), (7, Value.int x7), (8, Value.int x8), (9, Value.int x9), (10, Value.int x10)] [] sh h 0 0) (hL397 : ∀ (x0 : Nat) (x1 : Nat) (x2 : Int32) (x3 : Nat) (x4 : Int32) (x5 : Int32) (x6 : Int32) (x7 : Int32) (x10 : Int32) (x12 : Int64) (x14 : Int32) (h : Hp), L397 x0 x1 x2 x3 x4 x5 x6 x7 x10 x12 x14 h → G w E 15 397 [(0, rv w.2.2.2 x0), (1, rv w.2.2.2 x1), (2, Value.int x2), (3, rv w.2.2.2 x3), (4, Value.int x4), (5, Value.int x5), (6, Value.int x6), (7, Value.int x7), (10, Value.int x10), (12, Value.long x12), (14, Value.int x14)] [] sh h 0 0) (hL429 : ∀ (x0 : Nat) (x1 : Nat) (x2 : Int32) (x3 : Nat) (x4 : Int32) (x5 : Int32) (x6 : Int32) (x7 : Int32) (x14 : Int32) (h : Hp), L429 x0 x1 x2 x3 x4 x5 x6 x7 x14 h → G w E 15 429 [(0, rv w.2.2.2 x0), (1, rv w.2.2.2 x1), (2, Value.int x2), (3, rv w.2.2.2 x3), (4, Value.int x4), (5, Value.int x5), (6, Value.int x6), (7, Value.int x7), (14, Value.int x14)] [] sh h 0 0) (hL458 : ∀ (x0 : Nat) (x1 : Nat) (x2 : Int32) (x3 : Nat) (x4 : Int32) (x5 : Int32) (x6 : Int32) (x7 : Int32) (x14 : Int32) (h : Hp), L458 x0 x1 x2 x3 x4 x5 x6 x7 x14 h → G w E 15 458 [(0, rv w.2.2.2 x0), (1, rv w.2.2.2 x1), (2, Value.int x2), (3, rv w.2.2.2 x3), (4, Value.int x4), (5, Value.int x5), (6, Value.int x6), (7, Value.int x7), (14, Value.int x14)] [] sh h 0 0) (hL491 : ∀ (x0 : Nat) (x1 : Nat) (x2 : Int32) (x3 : Nat) (x4 : Int32) (x5 : Int32) (x6 : Int32) (x7 : Int32) (x14 : Int32) (h : Hp), L491 x0 x1 x2 x3 x4 x5 x6 x7 x14 h → G w E 15 491 [(0, rv w.2.2.2 x0), (1, rv w.2.2.2 x1), (2, Value.int x2), (3, rv w.2.2.2 x3), (4, Value.int x4), (5, Value.int x5), (6, Value.int x6), (7, Value.int x7), (14, Value.int x14)] [] sh h 0 0) (hV : V_X12_windows_426 w sh x0 x1 x2 x3 x4 x5 x6 x7 h L3 L97 L146 L397 L429 L458 L491 RET) : G w E 15 426 [(0, rv w.2.2.2 x0), (1, rv w.2.2.2 x1), (2, Value.int x2), (3, rv w.2.2.2 x3), (4, Value.int x4), (5, Value.int x5), (6, Value.int x6), (7, Value.int x7)] [] sh h 0 0 := by
  unfold V_X12_windows_426 at hV
  refine g_iconst (pc := 426) (v := (0 : Int32)) X dX12_windows_426 (by decide) ?_
  refine g_istore (pc := 427) X (i := 14) (rest := [(0, rv w.2.2.2 x0), (1, rv w.2.2.2 x1), (2, Value.int x2), (3, rv w.2.2.2 x3), (4, Value.int x4), (5, Value.int x5), (6, Value.int x6), (7, Value.int x7)]) (by decide) rfl dX12_windows_427 (fun y1 e2 => ?_)
  have hV := hV y1 e2
  refine g_lv [1, 2, 3, 4, 5, 6, 7, 8, 0] rfl ?_
  exact hL429 x0 x1 x2 x3 x4 x5 x6 x7 y1 h hV
def V_X12_windows_397 (w : Wd) (sh : List Sh) (x0 : Nat) (x1 : Nat) (x2 : Int32) (x3 : Nat) (x4 : Int32) (x5 : Int32) (x6 : Int32) (x7 : Int32) (x10 : Int32) (x12 : Int64) (x14 : Int32) (h : Hp) (L3 : Nat → Nat → Int32 → Nat → Int32 → Int32 → Int32 → Int32 → Hp → Prop) (L97 : Nat → Nat → Int32 → Nat → Int32 → Int32 → Int32 → Int32 → Int32 → Int32 → Int32 → Hp → Prop) (L146 : Nat → Nat → Int32 → Nat → Int32 → Int32 → Int32 → Int32 → Int32 → Int32 → Int32 → Hp → Prop) (L397 : Nat → Nat → Int32 → Nat → Int32 → Int32 → Int32 → Int32 → Int32 → Int64 → Int32 → Hp → Prop) (L429 : Nat → Nat → Int32 → Nat → Int32 → Int32 → Int32 → Int32 → Int32 → Hp → Prop) (L458 : Nat → Nat → Int32 → Nat → Int32 → Int32 → Int32 → Int32 → Int32 → Hp → Prop) (L491 : Nat → Nat → Int32 → Nat → Int32 → Int32 → Int32 → Int32 → Int32 → Hp → Prop) (RET : Hp → Prop) : Prop :=
  ((x14 < 0) → (V_X12_windows_426 w sh x0 x1 x2 x3 x4 x5 x6 x7 h L3 L97 L146 L397 L429 L458 L491 RET)) ∧ ((¬ x14 < 0) → (((x10 = 0) → (V_X12_windows_426 w sh x0 x1 x2 x3 x4 x5 x6 x7 h L3 L97 L146 L397 L429 L458 L491 RET)) ∧ ((¬ x10 = 0) → (shAt sh x0 = some (.inr 12) ∧ (∃ P4 : Hp → Prop, C_X12_say w sh x0 ((x12 >>> (((8 : Int32) * x14).toInt64 &&& 63)).toInt32) h P4 ∧ (∀ h7 : Hp, P4 h7 → (∀ y8 : Int32, y8 = x14 + (-1 : Int32) → (L397 x0 x1 x2 x3 x4 x5 x6 x7 x10 x12 y8 h7))))))))
set_option maxRecDepth 20000 in
set_option maxHeartbeats 4000000 in
theorem W_X12_windows_397 {w : Wd} {E : GE} {sh : List Sh} {x0 : Nat} {x1 : Nat} {x2 : Int32} {x3 : Nat} {x4 : Int32} {x5 : Int32} {x6 : Int32} {x7 : Int32} {x10 : Int32} {x12 : Int64} {x14 : Int32} {h : Hp} {L3 : Nat → Nat → Int32 → Nat → Int32 → Int32 → Int32 → Int32 → Hp → Prop} {L97 : Nat → Nat → Int32 → Nat → Int32 → Int32 → Int32 → Int32 → Int32 → Int32 → Int32 → Hp → Prop} {L146 : Nat → Nat → Int32 → Nat → Int32 → Int32 → Int32 → Int32 → Int32 → Int32 → Int32 → Hp → Prop} {L397 : Nat → Nat → Int32 → Nat → Int32 → Int32 → Int32 → Int32 → Int32 → Int64 → Int32 → Hp → Prop} {L429 : Nat → Nat → Int32 → Nat → Int32 → Int32 → Int32 → Int32 → Int32 → Hp → Prop} {L458 : Nat → Nat → Int32 → Nat → Int32 → Int32 → Int32 → Int32 → Int32 → Hp → Prop} {L491 : Nat → Nat → Int32 → Nat → Int32 → Int32 → Int32 → Int32 → Int32 → Hp → Prop} {RET : Hp → Prop} (X : Cx w E cX12_windows 15 RX12) (Tt : Rt w E none sh.length 0 0 (fun q sh9 h9 => q = none ∧ sh9 = sh ∧ RET h9)) (hR : gR E = { frames := 3, cells := 0, slots := 0, locals := 77 }) (hL3 : ∀ (x0 : Nat) (x1 : Nat) (x2 : Int32) (x3 : Nat) (x4 : Int32) (x5 : Int32) (x6 : Int32) (x7 : Int32) (h : Hp), L3 x0 x1 x2 x3 x4 x5 x6 x7 h → G w E 15 3 [(0, rv w.2.2.2 x0), (1, rv w.2.2.2 x1), (2, Value.int x2), (3, rv w.2.2.2 x3), (4, Value.int x4), (5, Value.int x5), (6, Value.int x6), (7, Value.int x7)] [] sh h 0 0) (hL97 : ∀ (x0 : Nat) (x1 : Nat) (x2 : Int32) (x3 : Nat) (x4 : Int32) (x5 : Int32) (x6 : Int32) (x7 : Int32) (x8 : Int32) (x9 : Int32) (x10 : Int32) (h : Hp), L97 x0 x1 x2 x3 x4 x5 x6 x7 x8 x9 x10 h → G w E 15 97 [(0, rv w.2.2.2 x0), (1, rv w.2.2.2 x1), (2, Value.int x2), (3, rv w.2.2.2 x3), (4, Value.int x4), (5, Value.int x5), (6, Value.int x6), (7, Value.int x7), (8, Value.int x8), (9, Value.int x9), (10, Value.int x10)] [] sh h 0 0) (hL146 : ∀ (x0 : Nat) (x1 : Nat) (x2 : Int32) (x3 : Nat) (x4 : Int32) (x5 : Int32) (x6 : Int32) (x7 : Int32) (x8 : Int32) (x9 : Int32) (x10 : Int32) (h : Hp), L146 x0 x1 x2 x3 x4 x5 x6 x7 x8 x9 x10 h → G w E 15 146 [(0, rv w.2.2.2 x0), (1, rv w.2.2.2 x1), (2, Value.int x2), (3, rv w.2.2.2 x3), (4, Value.int x4), (5, Value.int x5), (6, Value.int x6), (7, Value.int x7), (8, Value.int x8), (9, Value.int x9), (10, Value.int x10)] [] sh h 0 0) (hL397 : ∀ (x0 : Nat) (x1 : Nat) (x2 : Int32) (x3 : Nat) (x4 : Int32) (x5 : Int32) (x6 : Int32) (x7 : Int32) (x10 : Int32) (x12 : Int64) (x14 : Int32) (h : Hp), L397 x0 x1 x2 x3 x4 x5 x6 x7 x10 x12 x14 h → G w E 15 397 [(0, rv w.2.2.2 x0), (1, rv w.2.2.2 x1), (2, Value.int x2), (3, rv w.2.2.2 x3), (4, Value.int x4), (5, Value.int x5), (6, Value.int x6), (7, Value.int x7), (10, Value.int x10), (12, Value.long x12), (14, Value.int x14)] [] sh h 0 0) (hL429 : ∀ (x0 : Nat) (x1 : Nat) (x2 : Int32) (x3 : Nat) (x4 : Int32) (x5 : Int32) (x6 : Int32) (x7 : Int32) (x14 : Int32) (h : Hp), L429 x0 x1 x2 x3 x4 x5 x6 x7 x14 h → G w E 15 429 [(0, rv w.2.2.2 x0), (1, rv w.2.2.2 x1), (2, Value.int x2), (3, rv w.2.2.2 x3), (4, Value.int x4), (5, Value.int x5), (6, Value.int x6), (7, Value.int x7), (14, Value.int x14)] [] sh h 0 0) (hL458 : ∀ (x0 : Nat) (x1 : Nat) (x2 : Int32) (x3 : Nat) (x4 : Int32) (x5 : Int32) (x6 : Int32) (x7 : Int32) (x14 : Int32) (h : Hp), L458 x0 x1 x2 x3 x4 x5 x6 x7 x14 h → G w E 15 458 [(0, rv w.2.2.2 x0), (1, rv w.2.2.2 x1), (2, Value.int x2), (3, rv w.2.2.2 x3), (4, Value.int x4), (5, Value.int x5), (6, Value.int x6), (7, Value.int x7), (14, Value.int x14)] [] sh h 0 0) (hL491 : ∀ (x0 : Nat) (x1 : Nat) (x2 : Int32) (x3 : Nat) (x4 : Int32) (x5 : Int32) (x6 : Int32) (x7 : Int32) (x14 : Int32) (h : Hp), L491 x0 x1 x2 x3 x4 x5 x6 x7 x14 h → G w E 15 491 [(0, rv w.2.2.2 x0), (1, rv w.2.2.2 x1), (2, Value.int x2), (3, rv w.2.2.2 x3), (4, Value.int x4), (5, Value.int x5), (6, Value.int x6), (7, Value.int x7), (14, Value.int x14)] [] sh h 0 0) (hV : V_X12_windows_397 w sh x0 x1 x2 x3 x4 x5 x6 x7 x10 x12 x14 h L3 L97 L146 L397 L429 L458 L491 RET) : G w E 15 397 [(0, rv w.2.2.2 x0), (1, rv w.2.2.2 x1), (2, Value.int x2), (3, rv w.2.2.2 x3), (4, Value.int x4), (5, Value.int x5), (6, Value.int x6), (7, Value.int x7), (10, Value.int x10), (12, Value.long x12), (14, Value.int x14)] [] sh h 0 0 := by
  unfold V_X12_windows_397 at hV
  refine g_iload (pc := 397) X 10 rfl dX12_windows_397 ?_
  refine g_if_lt (pc := 399) X 426 dX12_windows_399 (by decide) (fun c1 => ?_) (fun c1 => ?_)
  · have hV := hV.1 c1
    refine g_lv [0, 1, 2, 3, 4, 5, 6, 7] rfl ?_
    exact W_X12_windows_426 X Tt hR hL3 hL97 hL146 hL397 hL429 hL458 hL491 hV
  · have hV := hV.2 c1
    refine g_iload (pc := 402) X 8 rfl dX12_windows_402 ?_
    refine g_if_eq (pc := 404) X 426 dX12_windows_404 (by decide) (fun c2 => ?_) (fun c2 => ?_)
    · have hV := hV.1 c2
      refine g_lv [0, 1, 2, 3, 4, 5, 6, 7] rfl ?_
      exact W_X12_windows_426 X Tt hR hL3 hL97 hL146 hL397 hL429 hL458 hL491 hV
    · have hV := hV.2 c2
      refine g_aload_n (pc := 407) X 0 rfl rfl dX12_windows_407 ?_
      refine g_lload (pc := 408) X 9 rfl dX12_windows_408 ?_
      refine g_bipush (pc := 410) (v := (8 : Int32)) X dX12_windows_410 (by decide) ?_
      refine g_iload (pc := 412) X 10 rfl dX12_windows_412 ?_
      refine g_imul (pc := 414) X dX12_windows_414 ?_
      refine g_lshr (pc := 415) X dX12_windows_415 ?_
      refine g_l2i (pc := 416) X dX12_windows_416 ?_
      obtain ⟨q3, hV⟩ := hV
      obtain ⟨P4, t5, hV⟩ := hV
      refine g_cVV (pc := 417) X (As := [Value.int ((x12 >>> (((8 : Int32) * x14).toInt64 &&& 63)).toInt32)]) ml_X12_273 rfl q3 t5 (by rw [hR]; exact ⟨by decide, by decide, by decide, by decide⟩) rfl rfl (Nat.zero_le _) dX12_windows_417 (fun h7 p6 => ?_)
      have hV := hV h7 p6
      refine g_iinc (pc := 420) X 10 (v := (-1 : Int32)) (rest := [(0, rv w.2.2.2 x0), (1, rv w.2.2.2 x1), (2, Value.int x2), (3, rv w.2.2.2 x3), (4, Value.int x4), (5, Value.int x5), (6, Value.int x6), (7, Value.int x7), (10, Value.int x10), (12, Value.long x12)]) rfl (by decide) rfl (by decide) dX12_windows_420 (fun y8 e9 => ?_)
      have hV := hV y8 e9
      refine g_goto (pc := 423) X 397 dX12_windows_423 (by decide) ?_
      refine g_lv [1, 2, 3, 4, 5, 6, 7, 8, 9, 10, 0] rfl ?_
      exact hL397 x0 x1 x2 x3 x4 x5 x6 x7 x10 x12 y8 h7 hV
def V_X12_windows_332 (w : Wd) (sh : List Sh) (x0 : Nat) (x1 : Nat) (x2 : Int32) (x3 : Nat) (x4 : Int32) (x5 : Int32) (x6 : Int32) (x7 : Int32) (x8 : Int32) (x10 : Int32) (x11 : Int32) (s0 : Int32) (s1 : Int32) (s2 : Nat) (h : Hp) (L3 : Nat → Nat → Int32 → Nat → Int32 → Int32 → Int32 → Int32 → Hp → Prop) (L97 : Nat → Nat → Int32 → Nat → Int32 → Int32 → Int32 → Int32 → Int32 → Int32 → Int32 → Hp → Prop) (L146 : Nat → Nat → Int32 → Nat → Int32 → Int32 → Int32 → Int32 → Int32 → Int32 → Int32 → Hp → Prop) (L397 : Nat → Nat → Int32 → Nat → Int32 → Int32 → Int32 → Int32 → Int32 → Int64 → Int32 → Hp → Prop) (L429 : Nat → Nat → Int32 → Nat → Int32 → Int32 → Int32 → Int32 → Int32 → Hp → Prop) (L458 : Nat → Nat → Int32 → Nat → Int32 → Int32 → Int32 → Int32 → Int32 → Hp → Prop) (L491 : Nat → Nat → Int32 → Nat → Int32 → Int32 → Int32 → Int32 → Int32 → Hp → Prop) (RET : Hp → Prop) : Prop :=
  shAt sh s2 = some (.inr 12) ∧ (∃ P2 : Hp → Prop, C_X12_sayBig w sh s2 (((s1 + s0) + x11).toInt64) h P2 ∧ (∀ h5 : Hp, P2 h5 → (shAt sh x0 = some (.inr 12) ∧ (∃ P7 : Hp → Prop, C_X12_sayBig w sh x0 (x8.toInt64) h5 P7 ∧ (∀ h10 : Hp, P7 h10 → (∃ P11 : Hp → Prop, C_X12_say w sh x0 (0 : Int32) h10 P11 ∧ (∀ h14 : Hp, P11 h14 → (∃ P15 : Hp → Prop, C_X12_sayBig w sh x0 ((h14.1 x0 48).toInt64) h14 P15 ∧ (∀ h18 : Hp, P15 h18 → (∃ P19 : Hp → Prop, C_X12_sayBig w sh x0 ((h18.1 x0 49).toInt64) h18 P19 ∧ (∀ h22 : Hp, P19 h22 → (∃ P23 : Hp → Prop, C_X12_sayBig w sh x0 ((h22.1 x0 50).toInt64) h22 P23 ∧ (∀ h26 : Hp, P23 h26 → (∃ P27 : Int64 → Hp → Prop, C_X12_adler w sh (h26.2.1 x0 58) (h26.1 x0 59) x8 h26 P27 ∧ (∀ (v31 : Int64) (h30 : Hp), P27 v31 h30 → (∀ y32 : Int64, y32 = v31 → (∀ y34 : Int32, y34 = (3 : Int32) → (L397 x0 x1 x2 x3 x4 x5 x6 x7 x10 y32 y34 h30))))))))))))))))))
set_option maxRecDepth 20000 in
set_option maxHeartbeats 4000000 in
theorem W_X12_windows_332 {w : Wd} {E : GE} {sh : List Sh} {x0 : Nat} {x1 : Nat} {x2 : Int32} {x3 : Nat} {x4 : Int32} {x5 : Int32} {x6 : Int32} {x7 : Int32} {x8 : Int32} {x10 : Int32} {x11 : Int32} {s0 : Int32} {s1 : Int32} {s2 : Nat} {h : Hp} {L3 : Nat → Nat → Int32 → Nat → Int32 → Int32 → Int32 → Int32 → Hp → Prop} {L97 : Nat → Nat → Int32 → Nat → Int32 → Int32 → Int32 → Int32 → Int32 → Int32 → Int32 → Hp → Prop} {L146 : Nat → Nat → Int32 → Nat → Int32 → Int32 → Int32 → Int32 → Int32 → Int32 → Int32 → Hp → Prop} {L397 : Nat → Nat → Int32 → Nat → Int32 → Int32 → Int32 → Int32 → Int32 → Int64 → Int32 → Hp → Prop} {L429 : Nat → Nat → Int32 → Nat → Int32 → Int32 → Int32 → Int32 → Int32 → Hp → Prop} {L458 : Nat → Nat → Int32 → Nat → Int32 → Int32 → Int32 → Int32 → Int32 → Hp → Prop} {L491 : Nat → Nat → Int32 → Nat → Int32 → Int32 → Int32 → Int32 → Int32 → Hp → Prop} {RET : Hp → Prop} (X : Cx w E cX12_windows 15 RX12) (Tt : Rt w E none sh.length 0 0 (fun q sh9 h9 => q = none ∧ sh9 = sh ∧ RET h9)) (hR : gR E = { frames := 3, cells := 0, slots := 0, locals := 77 }) (hL3 : ∀ (x0 : Nat) (x1 : Nat) (x2 : Int32) (x3 : Nat) (x4 : Int32) (x5 : Int32) (x6 : Int32) (x7 : Int32) (h : Hp), L3 x0 x1 x2 x3 x4 x5 x6 x7 h → G w E 15 3 [(0, rv w.2.2.2 x0), (1, rv w.2.2.2 x1), (2, Value.int x2), (3, rv w.2.2.2 x3), (4, Value.int x4), (5, Value.int x5), (6, Value.int x6), (7, Value.int x7)] [] sh h 0 0) (hL97 : ∀ (x0 : Nat) (x1 : Nat) (x2 : Int32) (x3 : Nat) (x4 : Int32) (x5 : Int32) (x6 : Int32) (x7 : Int32) (x8 : Int32) (x9 : Int32) (x10 : Int32) (h : Hp), L97 x0 x1 x2 x3 x4 x5 x6 x7 x8 x9 x10 h → G w E 15 97 [(0, rv w.2.2.2 x0), (1, rv w.2.2.2 x1), (2, Value.int x2), (3, rv w.2.2.2 x3), (4, Value.int x4), (5, Value.int x5), (6, Value.int x6), (7, Value.int x7), (8, Value.int x8), (9, Value.int x9), (10, Value.int x10)] [] sh h 0 0) (hL146 : ∀ (x0 : Nat) (x1 : Nat) (x2 : Int32) (x3 : Nat) (x4 : Int32) (x5 : Int32) (x6 : Int32) (x7 : Int32) (x8 : Int32) (x9 : Int32) (x10 : Int32) (h : Hp), L146 x0 x1 x2 x3 x4 x5 x6 x7 x8 x9 x10 h → G w E 15 146 [(0, rv w.2.2.2 x0), (1, rv w.2.2.2 x1), (2, Value.int x2), (3, rv w.2.2.2 x3), (4, Value.int x4), (5, Value.int x5), (6, Value.int x6), (7, Value.int x7), (8, Value.int x8), (9, Value.int x9), (10, Value.int x10)] [] sh h 0 0) (hL397 : ∀ (x0 : Nat) (x1 : Nat) (x2 : Int32) (x3 : Nat) (x4 : Int32) (x5 : Int32) (x6 : Int32) (x7 : Int32) (x10 : Int32) (x12 : Int64) (x14 : Int32) (h : Hp), L397 x0 x1 x2 x3 x4 x5 x6 x7 x10 x12 x14 h → G w E 15 397 [(0, rv w.2.2.2 x0), (1, rv w.2.2.2 x1), (2, Value.int x2), (3, rv w.2.2.2 x3), (4, Value.int x4), (5, Value.int x5), (6, Value.int x6), (7, Value.int x7), (10, Value.int x10), (12, Value.long x12), (14, Value.int x14)] [] sh h 0 0) (hL429 : ∀ (x0 : Nat) (x1 : Nat) (x2 : Int32) (x3 : Nat) (x4 : Int32) (x5 : Int32) (x6 : Int32) (x7 : Int32) (x14 : Int32) (h : Hp), L429 x0 x1 x2 x3 x4 x5 x6 x7 x14 h → G w E 15 429 [(0, rv w.2.2.2 x0), (1, rv w.2.2.2 x1), (2, Value.int x2), (3, rv w.2.2.2 x3), (4, Value.int x4), (5, Value.int x5), (6, Value.int x6), (7, Value.int x7), (14, Value.int x14)] [] sh h 0 0) (hL458 : ∀ (x0 : Nat) (x1 : Nat) (x2 : Int32) (x3 : Nat) (x4 : Int32) (x5 : Int32) (x6 : Int32) (x7 : Int32) (x14 : Int32) (h : Hp), L458 x0 x1 x2 x3 x4 x5 x6 x7 x14 h → G w E 15 458 [(0, rv w.2.2.2 x0), (1, rv w.2.2.2 x1), (2, Value.int x2), (3, rv w.2.2.2 x3), (4, Value.int x4), (5, Value.int x5), (6, Value.int x6), (7, Value.int x7), (14, Value.int x14)] [] sh h 0 0) (hL491 : ∀ (x0 : Nat) (x1 : Nat) (x2 : Int32) (x3 : Nat) (x4 : Int32) (x5 : Int32) (x6 : Int32) (x7 : Int32) (x14 : Int32) (h : Hp), L491 x0 x1 x2 x3 x4 x5 x6 x7 x14 h → G w E 15 491 [(0, rv w.2.2.2 x0), (1, rv w.2.2.2 x1), (2, Value.int x2), (3, rv w.2.2.2 x3), (4, Value.int x4), (5, Value.int x5), (6, Value.int x6), (7, Value.int x7), (14, Value.int x14)] [] sh h 0 0) (hV : V_X12_windows_332 w sh x0 x1 x2 x3 x4 x5 x6 x7 x8 x10 x11 s0 s1 s2 h L3 L97 L146 L397 L429 L458 L491 RET) : G w E 15 332 [(0, rv w.2.2.2 x0), (1, rv w.2.2.2 x1), (2, Value.int x2), (3, rv w.2.2.2 x3), (4, Value.int x4), (5, Value.int x5), (6, Value.int x6), (7, Value.int x7), (8, Value.int x8), (10, Value.int x10), (11, Value.int x11)] [Value.int s0, Value.int s1, rv w.2.2.2 s2] sh h 0 0 := by
  unfold V_X12_windows_332 at hV
  refine g_iadd (pc := 332) X dX12_windows_332 ?_
  refine g_iload (pc := 333) X 10 rfl dX12_windows_333 ?_
  refine g_iadd (pc := 335) X dX12_windows_335 ?_
  refine g_i2l (pc := 336) X dX12_windows_336 ?_
  obtain ⟨q1, hV⟩ := hV
  obtain ⟨P2, t3, hV⟩ := hV
  refine g_cVV (pc := 337) X (As := [Value.long (((s1 + s0) + x11).toInt64)]) ml_X12_290 rfl q1 t3 (by rw [hR]; exact ⟨by decide, by decide, by decide, by decide⟩) rfl rfl (Nat.zero_le _) dX12_windows_337 (fun h5 p4 => ?_)
  have hV := hV h5 p4
  refine g_aload_n (pc := 340) X 0 rfl rfl dX12_windows_340 ?_
  refine g_iload (pc := 341) X 8 rfl dX12_windows_341 ?_
  refine g_i2l (pc := 343) X dX12_windows_343 ?_
  obtain ⟨q6, hV⟩ := hV
  obtain ⟨P7, t8, hV⟩ := hV
  refine g_cVV (pc := 344) X (As := [Value.long (x8.toInt64)]) ml_X12_290 rfl q6 t8 (by rw [hR]; exact ⟨by decide, by decide, by decide, by decide⟩) rfl rfl (Nat.zero_le _) dX12_windows_344 (fun h10 p9 => ?_)
  have hV := hV h10 p9
  refine g_aload_n (pc := 347) X 0 rfl rfl dX12_windows_347 ?_
  refine g_iconst (pc := 348) (v := (0 : Int32)) X dX12_windows_348 (by decide) ?_
  obtain ⟨P11, t12, hV⟩ := hV
  refine g_cVV (pc := 349) X (As := [Value.int (0 : Int32)]) ml_X12_273 rfl q6 t12 (by rw [hR]; exact ⟨by decide, by decide, by decide, by decide⟩) rfl rfl (Nat.zero_le _) dX12_windows_349 (fun h14 p13 => ?_)
  have hV := hV h14 p13
  refine g_aload_n (pc := 352) X 0 rfl rfl dX12_windows_352 ?_
  refine g_aload_n (pc := 353) X 0 rfl rfl dX12_windows_353 ?_
  refine g_getI (pc := 354) X fl_X12_305 q6 dX12_windows_354 ?_
  refine g_i2l (pc := 357) X dX12_windows_357 ?_
  obtain ⟨P15, t16, hV⟩ := hV
  refine g_cVV (pc := 358) X (As := [Value.long ((h14.1 x0 48).toInt64)]) ml_X12_290 rfl q6 t16 (by rw [hR]; exact ⟨by decide, by decide, by decide, by decide⟩) rfl rfl (Nat.zero_le _) dX12_windows_358 (fun h18 p17 => ?_)
  have hV := hV h18 p17
  refine g_aload_n (pc := 361) X 0 rfl rfl dX12_windows_361 ?_
  refine g_aload_n (pc := 362) X 0 rfl rfl dX12_windows_362 ?_
  refine g_getI (pc := 363) X fl_X12_308 q6 dX12_windows_363 ?_
  refine g_i2l (pc := 366) X dX12_windows_366 ?_
  obtain ⟨P19, t20, hV⟩ := hV
  refine g_cVV (pc := 367) X (As := [Value.long ((h18.1 x0 49).toInt64)]) ml_X12_290 rfl q6 t20 (by rw [hR]; exact ⟨by decide, by decide, by decide, by decide⟩) rfl rfl (Nat.zero_le _) dX12_windows_367 (fun h22 p21 => ?_)
  have hV := hV h22 p21
  refine g_aload_n (pc := 370) X 0 rfl rfl dX12_windows_370 ?_
  refine g_aload_n (pc := 371) X 0 rfl rfl dX12_windows_371 ?_
  refine g_getI (pc := 372) X fl_X12_311 q6 dX12_windows_372 ?_
  refine g_i2l (pc := 375) X dX12_windows_375 ?_
  obtain ⟨P23, t24, hV⟩ := hV
  refine g_cVV (pc := 376) X (As := [Value.long ((h22.1 x0 50).toInt64)]) ml_X12_290 rfl q6 t24 (by rw [hR]; exact ⟨by decide, by decide, by decide, by decide⟩) rfl rfl (Nat.zero_le _) dX12_windows_376 (fun h26 p25 => ?_)
  have hV := hV h26 p25
  refine g_aload_n (pc := 379) X 0 rfl rfl dX12_windows_379 ?_
  refine g_getR (pc := 380) X fl_X12_107 q6 dX12_windows_380 ?_
  refine g_aload_n (pc := 383) X 0 rfl rfl dX12_windows_383 ?_
  refine g_getI (pc := 384) X fl_X12_293 q6 dX12_windows_384 ?_
  refine g_iload (pc := 387) X 8 rfl dX12_windows_387 ?_
  obtain ⟨P27, t28, hV⟩ := hV
  refine g_cSJ (pc := 389) X (As := [rv w.2.2.2 (h26.2.1 x0 58), Value.int (h26.1 x0 59), Value.int x8]) ml_X12_228 t28 (by rw [hR]; exact ⟨by decide, by decide, by decide, by decide⟩) rfl rfl (Nat.zero_le _) dX12_windows_389 (fun v31 h30 p29 => ?_)
  have hV := hV v31 h30 p29
  refine g_lstore (pc := 392) X (i := 12) (rest := [(0, rv w.2.2.2 x0), (1, rv w.2.2.2 x1), (2, Value.int x2), (3, rv w.2.2.2 x3), (4, Value.int x4), (5, Value.int x5), (6, Value.int x6), (7, Value.int x7), (8, Value.int x8), (10, Value.int x10), (11, Value.int x11)]) (by decide) rfl dX12_windows_392 (fun y32 e33 => ?_)
  have hV := hV y32 e33
  refine g_iconst (pc := 394) (v := (3 : Int32)) X dX12_windows_394 (by decide) ?_
  refine g_istore (pc := 395) X (i := 14) (rest := [(12, Value.long y32), (0, rv w.2.2.2 x0), (1, rv w.2.2.2 x1), (2, Value.int x2), (3, rv w.2.2.2 x3), (4, Value.int x4), (5, Value.int x5), (6, Value.int x6), (7, Value.int x7), (8, Value.int x8), (10, Value.int x10), (11, Value.int x11)]) (by decide) rfl dX12_windows_395 (fun y34 e35 => ?_)
  have hV := hV y34 e35
  refine g_lv [2, 3, 4, 5, 6, 7, 8, 9, 11, 1, 0] rfl ?_
  exact hL397 x0 x1 x2 x3 x4 x5 x6 x7 x10 y32 y34 h30 hV
def V_X12_windows_270 (w : Wd) (sh : List Sh) (x0 : Nat) (x1 : Nat) (x2 : Int32) (x3 : Nat) (x4 : Int32) (x5 : Int32) (x6 : Int32) (x7 : Int32) (x8 : Int32) (x10 : Int32) (h : Hp) (L3 : Nat → Nat → Int32 → Nat → Int32 → Int32 → Int32 → Int32 → Hp → Prop) (L97 : Nat → Nat → Int32 → Nat → Int32 → Int32 → Int32 → Int32 → Int32 → Int32 → Int32 → Hp → Prop) (L146 : Nat → Nat → Int32 → Nat → Int32 → Int32 → Int32 → Int32 → Int32 → Int32 → Int32 → Hp → Prop) (L397 : Nat → Nat → Int32 → Nat → Int32 → Int32 → Int32 → Int32 → Int32 → Int64 → Int32 → Hp → Prop) (L429 : Nat → Nat → Int32 → Nat → Int32 → Int32 → Int32 → Int32 → Int32 → Hp → Prop) (L458 : Nat → Nat → Int32 → Nat → Int32 → Int32 → Int32 → Int32 → Int32 → Hp → Prop) (L491 : Nat → Nat → Int32 → Nat → Int32 → Int32 → Int32 → Int32 → Int32 → Hp → Prop) (RET : Hp → Prop) : Prop :=
  shAt sh x0 = some (.inr 12) ∧ (∀ y2 : Int32, y2 = (((h.1 x0 48) + (h.1 x0 49)) + (h.1 x0 50)) → (∃ P4 : Int32 → Hp → Prop, C_X12_bigSize w sh (x8.toInt64) h P4 ∧ (∀ (v8 : Int32) (h7 : Hp), P4 v8 h7 → (∃ P9 : Int32 → Hp → Prop, C_X12_bigSize w sh ((h7.1 x0 48).toInt64) h7 P9 ∧ (∀ (v13 : Int32) (h12 : Hp), P9 v13 h12 → (∃ P14 : Int32 → Hp → Prop, C_X12_bigSize w sh ((h12.1 x0 49).toInt64) h12 P14 ∧ (∀ (v18 : Int32) (h17 : Hp), P14 v18 h17 → (∃ P19 : Int32 → Hp → Prop, C_X12_bigSize w sh ((h17.1 x0 50).toInt64) h17 P19 ∧ (∀ (v23 : Int32) (h22 : Hp), P19 v23 h22 → (((x10 = 0) → (V_X12_windows_332 w sh x0 x1 x2 x3 x4 x5 x6 x7 x8 x10 y2 (0 : Int32) ((((v8 + (1 : Int32)) + v13) + v18) + v23) x0 h22 L3 L97 L146 L397 L429 L458 L491 RET)) ∧ ((¬ x10 = 0) → (V_X12_windows_332 w sh x0 x1 x2 x3 x4 x5 x6 x7 x8 x10 y2 (4 : Int32) ((((v8 + (1 : Int32)) + v13) + v18) + v23) x0 h22 L3 L97 L146 L397 L429 L458 L491 RET))))))))))))
set_option maxRecDepth 20000 in
set_option maxHeartbeats 4000000 in
theorem W_X12_windows_270 {w : Wd} {E : GE} {sh : List Sh} {x0 : Nat} {x1 : Nat} {x2 : Int32} {x3 : Nat} {x4 : Int32} {x5 : Int32} {x6 : Int32} {x7 : Int32} {x8 : Int32} {x10 : Int32} {h : Hp} {L3 : Nat → Nat → Int32 → Nat → Int32 → Int32 → Int32 → Int32 → Hp → Prop} {L97 : Nat → Nat → Int32 → Nat → Int32 → Int32 → Int32 → Int32 → Int32 → Int32 → Int32 → Hp → Prop} {L146 : Nat → Nat → Int32 → Nat → Int32 → Int32 → Int32 → Int32 → Int32 → Int32 → Int32 → Hp → Prop} {L397 : Nat → Nat → Int32 → Nat → Int32 → Int32 → Int32 → Int32 → Int32 → Int64 → Int32 → Hp → Prop} {L429 : Nat → Nat → Int32 → Nat → Int32 → Int32 → Int32 → Int32 → Int32 → Hp → Prop} {L458 : Nat → Nat → Int32 → Nat → Int32 → Int32 → Int32 → Int32 → Int32 → Hp → Prop} {L491 : Nat → Nat → Int32 → Nat → Int32 → Int32 → Int32 → Int32 → Int32 → Hp → Prop} {RET : Hp → Prop} (X : Cx w E cX12_windows 15 RX12) (Tt : Rt w E none sh.length 0 0 (fun q sh9 h9 => q = none ∧ sh9 = sh ∧ RET h9)) (hR : gR E = { frames := 3, cells := 0, slots := 0, locals := 77 }) (hL3 : ∀ (x0 : Nat) (x1 : Nat) (x2 : Int32) (x3 : Nat) (x4 : Int32) (x5 : Int32) (x6 : Int32) (x7 : Int32) (h : Hp), L3 x0 x1 x2 x3 x4 x5 x6 x7 h → G w E 15 3 [(0, rv w.2.2.2 x0), (1, rv w.2.2.2 x1), (2, Value.int x2), (3, rv w.2.2.2 x3), (4, Value.int x4), (5, Value.int x5), (6, Value.int x6), (7, Value.int x7)] [] sh h 0 0) (hL97 : ∀ (x0 : Nat) (x1 : Nat) (x2 : Int32) (x3 : Nat) (x4 : Int32) (x5 : Int32) (x6 : Int32) (x7 : Int32) (x8 : Int32) (x9 : Int32) (x10 : Int32) (h : Hp), L97 x0 x1 x2 x3 x4 x5 x6 x7 x8 x9 x10 h → G w E 15 97 [(0, rv w.2.2.2 x0), (1, rv w.2.2.2 x1), (2, Value.int x2), (3, rv w.2.2.2 x3), (4, Value.int x4), (5, Value.int x5), (6, Value.int x6), (7, Value.int x7), (8, Value.int x8), (9, Value.int x9), (10, Value.int x10)] [] sh h 0 0) (hL146 : ∀ (x0 : Nat) (x1 : Nat) (x2 : Int32) (x3 : Nat) (x4 : Int32) (x5 : Int32) (x6 : Int32) (x7 : Int32) (x8 : Int32) (x9 : Int32) (x10 : Int32) (h : Hp), L146 x0 x1 x2 x3 x4 x5 x6 x7 x8 x9 x10 h → G w E 15 146 [(0, rv w.2.2.2 x0), (1, rv w.2.2.2 x1), (2, Value.int x2), (3, rv w.2.2.2 x3), (4, Value.int x4), (5, Value.int x5), (6, Value.int x6), (7, Value.int x7), (8, Value.int x8), (9, Value.int x9), (10, Value.int x10)] [] sh h 0 0) (hL397 : ∀ (x0 : Nat) (x1 : Nat) (x2 : Int32) (x3 : Nat) (x4 : Int32) (x5 : Int32) (x6 : Int32) (x7 : Int32) (x10 : Int32) (x12 : Int64) (x14 : Int32) (h : Hp), L397 x0 x1 x2 x3 x4 x5 x6 x7 x10 x12 x14 h → G w E 15 397 [(0, rv w.2.2.2 x0), (1, rv w.2.2.2 x1), (2, Value.int x2), (3, rv w.2.2.2 x3), (4, Value.int x4), (5, Value.int x5), (6, Value.int x6), (7, Value.int x7), (10, Value.int x10), (12, Value.long x12), (14, Value.int x14)] [] sh h 0 0) (hL429 : ∀ (x0 : Nat) (x1 : Nat) (x2 : Int32) (x3 : Nat) (x4 : Int32) (x5 : Int32) (x6 : Int32) (x7 : Int32) (x14 : Int32) (h : Hp), L429 x0 x1 x2 x3 x4 x5 x6 x7 x14 h → G w E 15 429 [(0, rv w.2.2.2 x0), (1, rv w.2.2.2 x1), (2, Value.int x2), (3, rv w.2.2.2 x3), (4, Value.int x4), (5, Value.int x5), (6, Value.int x6), (7, Value.int x7), (14, Value.int x14)] [] sh h 0 0) (hL458 : ∀ (x0 : Nat) (x1 : Nat) (x2 : Int32) (x3 : Nat) (x4 : Int32) (x5 : Int32) (x6 : Int32) (x7 : Int32) (x14 : Int32) (h : Hp), L458 x0 x1 x2 x3 x4 x5 x6 x7 x14 h → G w E 15 458 [(0, rv w.2.2.2 x0), (1, rv w.2.2.2 x1), (2, Value.int x2), (3, rv w.2.2.2 x3), (4, Value.int x4), (5, Value.int x5), (6, Value.int x6), (7, Value.int x7), (14, Value.int x14)] [] sh h 0 0) (hL491 : ∀ (x0 : Nat) (x1 : Nat) (x2 : Int32) (x3 : Nat) (x4 : Int32) (x5 : Int32) (x6 : Int32) (x7 : Int32) (x14 : Int32) (h : Hp), L491 x0 x1 x2 x3 x4 x5 x6 x7 x14 h → G w E 15 491 [(0, rv w.2.2.2 x0), (1, rv w.2.2.2 x1), (2, Value.int x2), (3, rv w.2.2.2 x3), (4, Value.int x4), (5, Value.int x5), (6, Value.int x6), (7, Value.int x7), (14, Value.int x14)] [] sh h 0 0) (hV : V_X12_windows_270 w sh x0 x1 x2 x3 x4 x5 x6 x7 x8 x10 h L3 L97 L146 L397 L429 L458 L491 RET) : G w E 15 270 [(0, rv w.2.2.2 x0), (1, rv w.2.2.2 x1), (2, Value.int x2), (3, rv w.2.2.2 x3), (4, Value.int x4), (5, Value.int x5), (6, Value.int x6), (7, Value.int x7), (8, Value.int x8), (10, Value.int x10)] [] sh h 0 0 := by
  unfold V_X12_windows_270 at hV
  refine g_aload_n (pc := 270) X 0 rfl rfl dX12_windows_270 ?_
  obtain ⟨q1, hV⟩ := hV
  refine g_getI (pc := 271) X fl_X12_305 q1 dX12_windows_271 ?_
  refine g_aload_n (pc := 274) X 0 rfl rfl dX12_windows_274 ?_
  refine g_getI (pc := 275) X fl_X12_308 q1 dX12_windows_275 ?_
  refine g_iadd (pc := 278) X dX12_windows_278 ?_
  refine g_aload_n (pc := 279) X 0 rfl rfl dX12_windows_279 ?_
  refine g_getI (pc := 280) X fl_X12_311 q1 dX12_windows_280 ?_
  refine g_iadd (pc := 283) X dX12_windows_283 ?_
  refine g_istore (pc := 284) X (i := 11) (rest := [(0, rv w.2.2.2 x0), (1, rv w.2.2.2 x1), (2, Value.int x2), (3, rv w.2.2.2 x3), (4, Value.int x4), (5, Value.int x5), (6, Value.int x6), (7, Value.int x7), (8, Value.int x8), (10, Value.int x10)]) (by decide) rfl dX12_windows_284 (fun y2 e3 => ?_)
  have hV := hV y2 e3
  refine g_aload_n (pc := 286) X 1 rfl rfl dX12_windows_286 ?_
  refine g_iload (pc := 287) X 9 rfl dX12_windows_287 ?_
  refine g_i2l (pc := 289) X dX12_windows_289 ?_
  obtain ⟨P4, t5, hV⟩ := hV
  refine g_cSI (pc := 290) X (As := [Value.long (x8.toInt64)]) ml_X12_267 t5 (by rw [hR]; exact ⟨by decide, by decide, by decide, by decide⟩) rfl rfl (by simp [rv_cat, cat_int, cat_long]) dX12_windows_290 (fun v8 h7 p6 => ?_)
  have hV := hV v8 h7 p6
  refine g_iconst (pc := 293) (v := (1 : Int32)) X dX12_windows_293 (by decide) ?_
  refine g_iadd (pc := 294) X dX12_windows_294 ?_
  refine g_aload_n (pc := 295) X 1 rfl rfl dX12_windows_295 ?_
  refine g_getI (pc := 296) X fl_X12_305 q1 dX12_windows_296 ?_
  refine g_i2l (pc := 299) X dX12_windows_299 ?_
  obtain ⟨P9, t10, hV⟩ := hV
  refine g_cSI (pc := 300) X (As := [Value.long ((h7.1 x0 48).toInt64)]) ml_X12_267 t10 (by rw [hR]; exact ⟨by decide, by decide, by decide, by decide⟩) rfl rfl (by simp [rv_cat, cat_int, cat_long]) dX12_windows_300 (fun v13 h12 p11 => ?_)
  have hV := hV v13 h12 p11
  refine g_iadd (pc := 303) X dX12_windows_303 ?_
  refine g_aload_n (pc := 304) X 1 rfl rfl dX12_windows_304 ?_
  refine g_getI (pc := 305) X fl_X12_308 q1 dX12_windows_305 ?_
  refine g_i2l (pc := 308) X dX12_windows_308 ?_
  obtain ⟨P14, t15, hV⟩ := hV
  refine g_cSI (pc := 309) X (As := [Value.long ((h12.1 x0 49).toInt64)]) ml_X12_267 t15 (by rw [hR]; exact ⟨by decide, by decide, by decide, by decide⟩) rfl rfl (by simp [rv_cat, cat_int, cat_long]) dX12_windows_309 (fun v18 h17 p16 => ?_)
  have hV := hV v18 h17 p16
  refine g_iadd (pc := 312) X dX12_windows_312 ?_
  refine g_aload_n (pc := 313) X 1 rfl rfl dX12_windows_313 ?_
  refine g_getI (pc := 314) X fl_X12_311 q1 dX12_windows_314 ?_
  refine g_i2l (pc := 317) X dX12_windows_317 ?_
  obtain ⟨P19, t20, hV⟩ := hV
  refine g_cSI (pc := 318) X (As := [Value.long ((h17.1 x0 50).toInt64)]) ml_X12_267 t20 (by rw [hR]; exact ⟨by decide, by decide, by decide, by decide⟩) rfl rfl (by simp [rv_cat, cat_int, cat_long]) dX12_windows_318 (fun v23 h22 p21 => ?_)
  have hV := hV v23 h22 p21
  refine g_iadd (pc := 321) X dX12_windows_321 ?_
  refine g_iload (pc := 322) X 10 rfl dX12_windows_322 ?_
  refine g_if_eq (pc := 324) X 331 dX12_windows_324 (by decide) (fun c24 => ?_) (fun c24 => ?_)
  · have hV := hV.1 c24
    refine g_iconst (pc := 331) (v := (0 : Int32)) X dX12_windows_331 (by decide) ?_
    refine g_lv [1, 2, 3, 4, 5, 6, 7, 8, 9, 10, 0] rfl ?_
    exact W_X12_windows_332 X Tt hR hL3 hL97 hL146 hL397 hL429 hL458 hL491 hV
  · have hV := hV.2 c24
    refine g_iconst (pc := 327) (v := (4 : Int32)) X dX12_windows_327 (by decide) ?_
    refine g_goto (pc := 328) X 332 dX12_windows_328 (by decide) ?_
    refine g_lv [1, 2, 3, 4, 5, 6, 7, 8, 9, 10, 0] rfl ?_
    exact W_X12_windows_332 X Tt hR hL3 hL97 hL146 hL397 hL429 hL458 hL491 hV
def V_X12_windows_267 (w : Wd) (sh : List Sh) (x0 : Nat) (x1 : Nat) (x2 : Int32) (x3 : Nat) (x4 : Int32) (x5 : Int32) (x6 : Int32) (x7 : Int32) (x8 : Int32) (x10 : Int32) (s0 : Int64) (s1 : Nat) (h : Hp) (L3 : Nat → Nat → Int32 → Nat → Int32 → Int32 → Int32 → Int32 → Hp → Prop) (L97 : Nat → Nat → Int32 → Nat → Int32 → Int32 → Int32 → Int32 → Int32 → Int32 → Int32 → Hp → Prop) (L146 : Nat → Nat → Int32 → Nat → Int32 → Int32 → Int32 → Int32 → Int32 → Int32 → Int32 → Hp → Prop) (L397 : Nat → Nat → Int32 → Nat → Int32 → Int32 → Int32 → Int32 → Int32 → Int64 → Int32 → Hp → Prop) (L429 : Nat → Nat → Int32 → Nat → Int32 → Int32 → Int32 → Int32 → Int32 → Hp → Prop) (L458 : Nat → Nat → Int32 → Nat → Int32 → Int32 → Int32 → Int32 → Int32 → Hp → Prop) (L491 : Nat → Nat → Int32 → Nat → Int32 → Int32 → Int32 → Int32 → Int32 → Hp → Prop) (RET : Hp → Prop) : Prop :=
  shAt sh s1 = some (.inr 12) ∧ (∃ P2 : Hp → Prop, C_X12_sayBig w sh s1 s0 h P2 ∧ (∀ h5 : Hp, P2 h5 → (V_X12_windows_270 w sh x0 x1 x2 x3 x4 x5 x6 x7 x8 x10 h5 L3 L97 L146 L397 L429 L458 L491 RET)))
set_option maxRecDepth 20000 in
set_option maxHeartbeats 4000000 in
theorem W_X12_windows_267 {w : Wd} {E : GE} {sh : List Sh} {x0 : Nat} {x1 : Nat} {x2 : Int32} {x3 : Nat} {x4 : Int32} {x5 : Int32} {x6 : Int32} {x7 : Int32} {x8 : Int32} {x10 : Int32} {s0 : Int64} {s1 : Nat} {h : Hp} {L3 : Nat → Nat → Int32 → Nat → Int32 → Int32 → Int32 → Int32 → Hp → Prop} {L97 : Nat → Nat → Int32 → Nat → Int32 → Int32 → Int32 → Int32 → Int32 → Int32 → Int32 → Hp → Prop} {L146 : Nat → Nat → Int32 → Nat → Int32 → Int32 → Int32 → Int32 → Int32 → Int32 → Int32 → Hp → Prop} {L397 : Nat → Nat → Int32 → Nat → Int32 → Int32 → Int32 → Int32 → Int32 → Int64 → Int32 → Hp → Prop} {L429 : Nat → Nat → Int32 → Nat → Int32 → Int32 → Int32 → Int32 → Int32 → Hp → Prop} {L458 : Nat → Nat → Int32 → Nat → Int32 → Int32 → Int32 → Int32 → Int32 → Hp → Prop} {L491 : Nat → Nat → Int32 → Nat → Int32 → Int32 → Int32 → Int32 → Int32 → Hp → Prop} {RET : Hp → Prop} (X : Cx w E cX12_windows 15 RX12) (Tt : Rt w E none sh.length 0 0 (fun q sh9 h9 => q = none ∧ sh9 = sh ∧ RET h9)) (hR : gR E = { frames := 3, cells := 0, slots := 0, locals := 77 }) (hL3 : ∀ (x0 : Nat) (x1 : Nat) (x2 : Int32) (x3 : Nat) (x4 : Int32) (x5 : Int32) (x6 : Int32) (x7 : Int32) (h : Hp), L3 x0 x1 x2 x3 x4 x5 x6 x7 h → G w E 15 3 [(0, rv w.2.2.2 x0), (1, rv w.2.2.2 x1), (2, Value.int x2), (3, rv w.2.2.2 x3), (4, Value.int x4), (5, Value.int x5), (6, Value.int x6), (7, Value.int x7)] [] sh h 0 0) (hL97 : ∀ (x0 : Nat) (x1 : Nat) (x2 : Int32) (x3 : Nat) (x4 : Int32) (x5 : Int32) (x6 : Int32) (x7 : Int32) (x8 : Int32) (x9 : Int32) (x10 : Int32) (h : Hp), L97 x0 x1 x2 x3 x4 x5 x6 x7 x8 x9 x10 h → G w E 15 97 [(0, rv w.2.2.2 x0), (1, rv w.2.2.2 x1), (2, Value.int x2), (3, rv w.2.2.2 x3), (4, Value.int x4), (5, Value.int x5), (6, Value.int x6), (7, Value.int x7), (8, Value.int x8), (9, Value.int x9), (10, Value.int x10)] [] sh h 0 0) (hL146 : ∀ (x0 : Nat) (x1 : Nat) (x2 : Int32) (x3 : Nat) (x4 : Int32) (x5 : Int32) (x6 : Int32) (x7 : Int32) (x8 : Int32) (x9 : Int32) (x10 : Int32) (h : Hp), L146 x0 x1 x2 x3 x4 x5 x6 x7 x8 x9 x10 h → G w E 15 146 [(0, rv w.2.2.2 x0), (1, rv w.2.2.2 x1), (2, Value.int x2), (3, rv w.2.2.2 x3), (4, Value.int x4), (5, Value.int x5), (6, Value.int x6), (7, Value.int x7), (8, Value.int x8), (9, Value.int x9), (10, Value.int x10)] [] sh h 0 0) (hL397 : ∀ (x0 : Nat) (x1 : Nat) (x2 : Int32) (x3 : Nat) (x4 : Int32) (x5 : Int32) (x6 : Int32) (x7 : Int32) (x10 : Int32) (x12 : Int64) (x14 : Int32) (h : Hp), L397 x0 x1 x2 x3 x4 x5 x6 x7 x10 x12 x14 h → G w E 15 397 [(0, rv w.2.2.2 x0), (1, rv w.2.2.2 x1), (2, Value.int x2), (3, rv w.2.2.2 x3), (4, Value.int x4), (5, Value.int x5), (6, Value.int x6), (7, Value.int x7), (10, Value.int x10), (12, Value.long x12), (14, Value.int x14)] [] sh h 0 0) (hL429 : ∀ (x0 : Nat) (x1 : Nat) (x2 : Int32) (x3 : Nat) (x4 : Int32) (x5 : Int32) (x6 : Int32) (x7 : Int32) (x14 : Int32) (h : Hp), L429 x0 x1 x2 x3 x4 x5 x6 x7 x14 h → G w E 15 429 [(0, rv w.2.2.2 x0), (1, rv w.2.2.2 x1), (2, Value.int x2), (3, rv w.2.2.2 x3), (4, Value.int x4), (5, Value.int x5), (6, Value.int x6), (7, Value.int x7), (14, Value.int x14)] [] sh h 0 0) (hL458 : ∀ (x0 : Nat) (x1 : Nat) (x2 : Int32) (x3 : Nat) (x4 : Int32) (x5 : Int32) (x6 : Int32) (x7 : Int32) (x14 : Int32) (h : Hp), L458 x0 x1 x2 x3 x4 x5 x6 x7 x14 h → G w E 15 458 [(0, rv w.2.2.2 x0), (1, rv w.2.2.2 x1), (2, Value.int x2), (3, rv w.2.2.2 x3), (4, Value.int x4), (5, Value.int x5), (6, Value.int x6), (7, Value.int x7), (14, Value.int x14)] [] sh h 0 0) (hL491 : ∀ (x0 : Nat) (x1 : Nat) (x2 : Int32) (x3 : Nat) (x4 : Int32) (x5 : Int32) (x6 : Int32) (x7 : Int32) (x14 : Int32) (h : Hp), L491 x0 x1 x2 x3 x4 x5 x6 x7 x14 h → G w E 15 491 [(0, rv w.2.2.2 x0), (1, rv w.2.2.2 x1), (2, Value.int x2), (3, rv w.2.2.2 x3), (4, Value.int x4), (5, Value.int x5), (6, Value.int x6), (7, Value.int x7), (14, Value.int x14)] [] sh h 0 0) (hV : V_X12_windows_267 w sh x0 x1 x2 x3 x4 x5 x6 x7 x8 x10 s0 s1 h L3 L97 L146 L397 L429 L458 L491 RET) : G w E 15 267 [(0, rv w.2.2.2 x0), (1, rv w.2.2.2 x1), (2, Value.int x2), (3, rv w.2.2.2 x3), (4, Value.int x4), (5, Value.int x5), (6, Value.int x6), (7, Value.int x7), (8, Value.int x8), (10, Value.int x10)] [Value.long s0, rv w.2.2.2 s1] sh h 0 0 := by
  unfold V_X12_windows_267 at hV
  obtain ⟨q1, hV⟩ := hV
  obtain ⟨P2, t3, hV⟩ := hV
  refine g_cVV (pc := 267) X (As := [Value.long s0]) ml_X12_290 rfl q1 t3 (by rw [hR]; exact ⟨by decide, by decide, by decide, by decide⟩) rfl rfl (Nat.zero_le _) dX12_windows_267 (fun h5 p4 => ?_)
  have hV := hV h5 p4
  exact W_X12_windows_270 X Tt hR hL3 hL97 hL146 hL397 hL429 hL458 hL491 hV
def V_X12_windows_231 (w : Wd) (sh : List Sh) (x0 : Nat) (x1 : Nat) (x2 : Int32) (x3 : Nat) (x4 : Int32) (x5 : Int32) (x6 : Int32) (x7 : Int32) (x8 : Int32) (x9 : Int32) (x10 : Int32) (s0 : Int32) (s1 : Int32) (s2 : Nat) (h : Hp) (L3 : Nat → Nat → Int32 → Nat → Int32 → Int32 → Int32 → Int32 → Hp → Prop) (L97 : Nat → Nat → Int32 → Nat → Int32 → Int32 → Int32 → Int32 → Int32 → Int32 → Int32 → Hp → Prop) (L146 : Nat → Nat → Int32 → Nat → Int32 → Int32 → Int32 → Int32 → Int32 → Int32 → Int32 → Hp → Prop) (L397 : Nat → Nat → Int32 → Nat → Int32 → Int32 → Int32 → Int32 → Int32 → Int64 → Int32 → Hp → Prop) (L429 : Nat → Nat → Int32 → Nat → Int32 → Int32 → Int32 → Int32 → Int32 → Hp → Prop) (L458 : Nat → Nat → Int32 → Nat → Int32 → Int32 → Int32 → Int32 → Int32 → Hp → Prop) (L491 : Nat → Nat → Int32 → Nat → Int32 → Int32 → Int32 → Int32 → Int32 → Hp → Prop) (RET : Hp → Prop) : Prop :=
  shAt sh s2 = some (.inr 12) ∧ (∃ P2 : Hp → Prop, C_X12_say w sh s2 (s1 + s0) h P2 ∧ (∀ h5 : Hp, P2 h5 → (((x9 ≤ 0) → (V_X12_windows_270 w sh x0 x1 x2 x3 x4 x5 x6 x7 x8 x10 h5 L3 L97 L146 L397 L429 L458 L491 RET)) ∧ ((¬ x9 ≤ 0) → (shAt sh x0 = some (.inr 12) ∧ (∃ P8 : Hp → Prop, C_X12_sayBig w sh x0 ((h5.1 x0 59).toInt64) h5 P8 ∧ (∀ h11 : Hp, P8 h11 → (((¬ x9 = (1 : Int32)) → (V_X12_windows_267 w sh x0 x1 x2 x3 x4 x5 x6 x7 x8 x10 ((x7 - (2048 : Int32)).toInt64) x0 h11 L3 L97 L146 L397 L429 L458 L491 RET)) ∧ ((x9 = (1 : Int32)) → (V_X12_windows_267 w sh x0 x1 x2 x3 x4 x5 x6 x7 x8 x10 (0 : Int64) x0 h11 L3 L97 L146 L397 L429 L458 L491 RET))))))))))
set_option maxRecDepth 20000 in
set_option maxHeartbeats 4000000 in
theorem W_X12_windows_231 {w : Wd} {E : GE} {sh : List Sh} {x0 : Nat} {x1 : Nat} {x2 : Int32} {x3 : Nat} {x4 : Int32} {x5 : Int32} {x6 : Int32} {x7 : Int32} {x8 : Int32} {x9 : Int32} {x10 : Int32} {s0 : Int32} {s1 : Int32} {s2 : Nat} {h : Hp} {L3 : Nat → Nat → Int32 → Nat → Int32 → Int32 → Int32 → Int32 → Hp → Prop} {L97 : Nat → Nat → Int32 → Nat → Int32 → Int32 → Int32 → Int32 → Int32 → Int32 → Int32 → Hp → Prop} {L146 : Nat → Nat → Int32 → Nat → Int32 → Int32 → Int32 → Int32 → Int32 → Int32 → Int32 → Hp → Prop} {L397 : Nat → Nat → Int32 → Nat → Int32 → Int32 → Int32 → Int32 → Int32 → Int64 → Int32 → Hp → Prop} {L429 : Nat → Nat → Int32 → Nat → Int32 → Int32 → Int32 → Int32 → Int32 → Hp → Prop} {L458 : Nat → Nat → Int32 → Nat → Int32 → Int32 → Int32 → Int32 → Int32 → Hp → Prop} {L491 : Nat → Nat → Int32 → Nat → Int32 → Int32 → Int32 → Int32 → Int32 → Hp → Prop} {RET : Hp → Prop} (X : Cx w E cX12_windows 15 RX12) (Tt : Rt w E none sh.length 0 0 (fun q sh9 h9 => q = none ∧ sh9 = sh ∧ RET h9)) (hR : gR E = { frames := 3, cells := 0, slots := 0, locals := 77 }) (hL3 : ∀ (x0 : Nat) (x1 : Nat) (x2 : Int32) (x3 : Nat) (x4 : Int32) (x5 : Int32) (x6 : Int32) (x7 : Int32) (h : Hp), L3 x0 x1 x2 x3 x4 x5 x6 x7 h → G w E 15 3 [(0, rv w.2.2.2 x0), (1, rv w.2.2.2 x1), (2, Value.int x2), (3, rv w.2.2.2 x3), (4, Value.int x4), (5, Value.int x5), (6, Value.int x6), (7, Value.int x7)] [] sh h 0 0) (hL97 : ∀ (x0 : Nat) (x1 : Nat) (x2 : Int32) (x3 : Nat) (x4 : Int32) (x5 : Int32) (x6 : Int32) (x7 : Int32) (x8 : Int32) (x9 : Int32) (x10 : Int32) (h : Hp), L97 x0 x1 x2 x3 x4 x5 x6 x7 x8 x9 x10 h → G w E 15 97 [(0, rv w.2.2.2 x0), (1, rv w.2.2.2 x1), (2, Value.int x2), (3, rv w.2.2.2 x3), (4, Value.int x4), (5, Value.int x5), (6, Value.int x6), (7, Value.int x7), (8, Value.int x8), (9, Value.int x9), (10, Value.int x10)] [] sh h 0 0) (hL146 : ∀ (x0 : Nat) (x1 : Nat) (x2 : Int32) (x3 : Nat) (x4 : Int32) (x5 : Int32) (x6 : Int32) (x7 : Int32) (x8 : Int32) (x9 : Int32) (x10 : Int32) (h : Hp), L146 x0 x1 x2 x3 x4 x5 x6 x7 x8 x9 x10 h → G w E 15 146 [(0, rv w.2.2.2 x0), (1, rv w.2.2.2 x1), (2, Value.int x2), (3, rv w.2.2.2 x3), (4, Value.int x4), (5, Value.int x5), (6, Value.int x6), (7, Value.int x7), (8, Value.int x8), (9, Value.int x9), (10, Value.int x10)] [] sh h 0 0) (hL397 : ∀ (x0 : Nat) (x1 : Nat) (x2 : Int32) (x3 : Nat) (x4 : Int32) (x5 : Int32) (x6 : Int32) (x7 : Int32) (x10 : Int32) (x12 : Int64) (x14 : Int32) (h : Hp), L397 x0 x1 x2 x3 x4 x5 x6 x7 x10 x12 x14 h → G w E 15 397 [(0, rv w.2.2.2 x0), (1, rv w.2.2.2 x1), (2, Value.int x2), (3, rv w.2.2.2 x3), (4, Value.int x4), (5, Value.int x5), (6, Value.int x6), (7, Value.int x7), (10, Value.int x10), (12, Value.long x12), (14, Value.int x14)] [] sh h 0 0) (hL429 : ∀ (x0 : Nat) (x1 : Nat) (x2 : Int32) (x3 : Nat) (x4 : Int32) (x5 : Int32) (x6 : Int32) (x7 : Int32) (x14 : Int32) (h : Hp), L429 x0 x1 x2 x3 x4 x5 x6 x7 x14 h → G w E 15 429 [(0, rv w.2.2.2 x0), (1, rv w.2.2.2 x1), (2, Value.int x2), (3, rv w.2.2.2 x3), (4, Value.int x4), (5, Value.int x5), (6, Value.int x6), (7, Value.int x7), (14, Value.int x14)] [] sh h 0 0) (hL458 : ∀ (x0 : Nat) (x1 : Nat) (x2 : Int32) (x3 : Nat) (x4 : Int32) (x5 : Int32) (x6 : Int32) (x7 : Int32) (x14 : Int32) (h : Hp), L458 x0 x1 x2 x3 x4 x5 x6 x7 x14 h → G w E 15 458 [(0, rv w.2.2.2 x0), (1, rv w.2.2.2 x1), (2, Value.int x2), (3, rv w.2.2.2 x3), (4, Value.int x4), (5, Value.int x5), (6, Value.int x6), (7, Value.int x7), (14, Value.int x14)] [] sh h 0 0) (hL491 : ∀ (x0 : Nat) (x1 : Nat) (x2 : Int32) (x3 : Nat) (x4 : Int32) (x5 : Int32) (x6 : Int32) (x7 : Int32) (x14 : Int32) (h : Hp), L491 x0 x1 x2 x3 x4 x5 x6 x7 x14 h → G w E 15 491 [(0, rv w.2.2.2 x0), (1, rv w.2.2.2 x1), (2, Value.int x2), (3, rv w.2.2.2 x3), (4, Value.int x4), (5, Value.int x5), (6, Value.int x6), (7, Value.int x7), (14, Value.int x14)] [] sh h 0 0) (hV : V_X12_windows_231 w sh x0 x1 x2 x3 x4 x5 x6 x7 x8 x9 x10 s0 s1 s2 h L3 L97 L146 L397 L429 L458 L491 RET) : G w E 15 231 [(0, rv w.2.2.2 x0), (1, rv w.2.2.2 x1), (2, Value.int x2), (3, rv w.2.2.2 x3), (4, Value.int x4), (5, Value.int x5), (6, Value.int x6), (7, Value.int x7), (8, Value.int x8), (9, Value.int x9), (10, Value.int x10)] [Value.int s0, Value.int s1, rv w.2.2.2 s2] sh h 0 0 := by
  unfold V_X12_windows_231 at hV
  refine g_iadd (pc := 231) X dX12_windows_231 ?_
  obtain ⟨q1, hV⟩ := hV
  obtain ⟨P2, t3, hV⟩ := hV
  refine g_cVV (pc := 232) X (As := [Value.int (s1 + s0)]) ml_X12_273 rfl q1 t3 (by rw [hR]; exact ⟨by decide, by decide, by decide, by decide⟩) rfl rfl (Nat.zero_le _) dX12_windows_232 (fun h5 p4 => ?_)
  have hV := hV h5 p4
  refine g_iload (pc := 235) X 9 rfl dX12_windows_235 ?_
  refine g_if_le (pc := 237) X 270 dX12_windows_237 (by decide) (fun c6 => ?_) (fun c6 => ?_)
  · have hV := hV.1 c6
    refine g_lv [0, 1, 2, 3, 4, 5, 6, 7, 8, 10] rfl ?_
    exact W_X12_windows_270 X Tt hR hL3 hL97 hL146 hL397 hL429 hL458 hL491 hV
  · have hV := hV.2 c6
    refine g_aload_n (pc := 240) X 0 rfl rfl dX12_windows_240 ?_
    refine g_aload_n (pc := 241) X 0 rfl rfl dX12_windows_241 ?_
    obtain ⟨q7, hV⟩ := hV
    refine g_getI (pc := 242) X fl_X12_293 q7 dX12_windows_242 ?_
    refine g_i2l (pc := 245) X dX12_windows_245 ?_
    obtain ⟨P8, t9, hV⟩ := hV
    refine g_cVV (pc := 246) X (As := [Value.long ((h5.1 x0 59).toInt64)]) ml_X12_290 rfl q7 t9 (by rw [hR]; exact ⟨by decide, by decide, by decide, by decide⟩) rfl rfl (Nat.zero_le _) dX12_windows_246 (fun h11 p10 => ?_)
    have hV := hV h11 p10
    refine g_aload_n (pc := 249) X 0 rfl rfl dX12_windows_249 ?_
    refine g_iload (pc := 250) X 9 rfl dX12_windows_250 ?_
    refine g_iconst (pc := 252) (v := (1 : Int32)) X dX12_windows_252 (by decide) ?_
    refine g_icmp_ne (pc := 253) X 260 dX12_windows_253 (by decide) (fun c12 => ?_) (fun c12 => ?_)
    · have hV := hV.1 c12
      refine g_iload (pc := 260) X 7 rfl dX12_windows_260 ?_
      refine g_sipush (pc := 262) (v := (2048 : Int32)) X dX12_windows_262 (by decide) ?_
      refine g_isub (pc := 265) X dX12_windows_265 ?_
      refine g_i2l (pc := 266) X dX12_windows_266 ?_
      refine g_lv [0, 1, 2, 3, 4, 5, 6, 7, 8, 10] rfl ?_
      exact W_X12_windows_267 X Tt hR hL3 hL97 hL146 hL397 hL429 hL458 hL491 hV
    · have hV := hV.2 c12
      refine g_lconst (pc := 256) (v := (0 : Int64)) X dX12_windows_256 (by decide) ?_
      refine g_goto (pc := 257) X 267 dX12_windows_257 (by decide) ?_
      refine g_lv [0, 1, 2, 3, 4, 5, 6, 7, 8, 10] rfl ?_
      exact W_X12_windows_267 X Tt hR hL3 hL97 hL146 hL397 hL429 hL458 hL491 hV
def V_X12_windows_216 (w : Wd) (sh : List Sh) (x0 : Nat) (x1 : Nat) (x2 : Int32) (x3 : Nat) (x4 : Int32) (x5 : Int32) (x6 : Int32) (x7 : Int32) (x8 : Int32) (x9 : Int32) (s0 : Int32) (h : Hp) (L3 : Nat → Nat → Int32 → Nat → Int32 → Int32 → Int32 → Int32 → Hp → Prop) (L97 : Nat → Nat → Int32 → Nat → Int32 → Int32 → Int32 → Int32 → Int32 → Int32 → Int32 → Hp → Prop) (L146 : Nat → Nat → Int32 → Nat → Int32 → Int32 → Int32 → Int32 → Int32 → Int32 → Int32 → Hp → Prop) (L397 : Nat → Nat → Int32 → Nat → Int32 → Int32 → Int32 → Int32 → Int32 → Int64 → Int32 → Hp → Prop) (L429 : Nat → Nat → Int32 → Nat → Int32 → Int32 → Int32 → Int32 → Int32 → Hp → Prop) (L458 : Nat → Nat → Int32 → Nat → Int32 → Int32 → Int32 → Int32 → Int32 → Hp → Prop) (L491 : Nat → Nat → Int32 → Nat → Int32 → Int32 → Int32 → Int32 → Int32 → Hp → Prop) (RET : Hp → Prop) : Prop :=
  ∀ y1 : Int32, y1 = s0 → (((y1 = 0) → (V_X12_windows_231 w sh x0 x1 x2 x3 x4 x5 x6 x7 x8 x9 y1 (0 : Int32) x9 x0 h L3 L97 L146 L397 L429 L458 L491 RET)) ∧ ((¬ y1 = 0) → (V_X12_windows_231 w sh x0 x1 x2 x3 x4 x5 x6 x7 x8 x9 y1 (4 : Int32) x9 x0 h L3 L97 L146 L397 L429 L458 L491 RET)))
set_option maxRecDepth 20000 in
set_option maxHeartbeats 4000000 in
theorem W_X12_windows_216 {w : Wd} {E : GE} {sh : List Sh} {x0 : Nat} {x1 : Nat} {x2 : Int32} {x3 : Nat} {x4 : Int32} {x5 : Int32} {x6 : Int32} {x7 : Int32} {x8 : Int32} {x9 : Int32} {s0 : Int32} {h : Hp} {L3 : Nat → Nat → Int32 → Nat → Int32 → Int32 → Int32 → Int32 → Hp → Prop} {L97 : Nat → Nat → Int32 → Nat → Int32 → Int32 → Int32 → Int32 → Int32 → Int32 → Int32 → Hp → Prop} {L146 : Nat → Nat → Int32 → Nat → Int32 → Int32 → Int32 → Int32 → Int32 → Int32 → Int32 → Hp → Prop} {L397 : Nat → Nat → Int32 → Nat → Int32 → Int32 → Int32 → Int32 → Int32 → Int64 → Int32 → Hp → Prop} {L429 : Nat → Nat → Int32 → Nat → Int32 → Int32 → Int32 → Int32 → Int32 → Hp → Prop} {L458 : Nat → Nat → Int32 → Nat → Int32 → Int32 → Int32 → Int32 → Int32 → Hp → Prop} {L491 : Nat → Nat → Int32 → Nat → Int32 → Int32 → Int32 → Int32 → Int32 → Hp → Prop} {RET : Hp → Prop} (X : Cx w E cX12_windows 15 RX12) (Tt : Rt w E none sh.length 0 0 (fun q sh9 h9 => q = none ∧ sh9 = sh ∧ RET h9)) (hR : gR E = { frames := 3, cells := 0, slots := 0, locals := 77 }) (hL3 : ∀ (x0 : Nat) (x1 : Nat) (x2 : Int32) (x3 : Nat) (x4 : Int32) (x5 : Int32) (x6 : Int32) (x7 : Int32) (h : Hp), L3 x0 x1 x2 x3 x4 x5 x6 x7 h → G w E 15 3 [(0, rv w.2.2.2 x0), (1, rv w.2.2.2 x1), (2, Value.int x2), (3, rv w.2.2.2 x3), (4, Value.int x4), (5, Value.int x5), (6, Value.int x6), (7, Value.int x7)] [] sh h 0 0) (hL97 : ∀ (x0 : Nat) (x1 : Nat) (x2 : Int32) (x3 : Nat) (x4 : Int32) (x5 : Int32) (x6 : Int32) (x7 : Int32) (x8 : Int32) (x9 : Int32) (x10 : Int32) (h : Hp), L97 x0 x1 x2 x3 x4 x5 x6 x7 x8 x9 x10 h → G w E 15 97 [(0, rv w.2.2.2 x0), (1, rv w.2.2.2 x1), (2, Value.int x2), (3, rv w.2.2.2 x3), (4, Value.int x4), (5, Value.int x5), (6, Value.int x6), (7, Value.int x7), (8, Value.int x8), (9, Value.int x9), (10, Value.int x10)] [] sh h 0 0) (hL146 : ∀ (x0 : Nat) (x1 : Nat) (x2 : Int32) (x3 : Nat) (x4 : Int32) (x5 : Int32) (x6 : Int32) (x7 : Int32) (x8 : Int32) (x9 : Int32) (x10 : Int32) (h : Hp), L146 x0 x1 x2 x3 x4 x5 x6 x7 x8 x9 x10 h → G w E 15 146 [(0, rv w.2.2.2 x0), (1, rv w.2.2.2 x1), (2, Value.int x2), (3, rv w.2.2.2 x3), (4, Value.int x4), (5, Value.int x5), (6, Value.int x6), (7, Value.int x7), (8, Value.int x8), (9, Value.int x9), (10, Value.int x10)] [] sh h 0 0) (hL397 : ∀ (x0 : Nat) (x1 : Nat) (x2 : Int32) (x3 : Nat) (x4 : Int32) (x5 : Int32) (x6 : Int32) (x7 : Int32) (x10 : Int32) (x12 : Int64) (x14 : Int32) (h : Hp), L397 x0 x1 x2 x3 x4 x5 x6 x7 x10 x12 x14 h → G w E 15 397 [(0, rv w.2.2.2 x0), (1, rv w.2.2.2 x1), (2, Value.int x2), (3, rv w.2.2.2 x3), (4, Value.int x4), (5, Value.int x5), (6, Value.int x6), (7, Value.int x7), (10, Value.int x10), (12, Value.long x12), (14, Value.int x14)] [] sh h 0 0) (hL429 : ∀ (x0 : Nat) (x1 : Nat) (x2 : Int32) (x3 : Nat) (x4 : Int32) (x5 : Int32) (x6 : Int32) (x7 : Int32) (x14 : Int32) (h : Hp), L429 x0 x1 x2 x3 x4 x5 x6 x7 x14 h → G w E 15 429 [(0, rv w.2.2.2 x0), (1, rv w.2.2.2 x1), (2, Value.int x2), (3, rv w.2.2.2 x3), (4, Value.int x4), (5, Value.int x5), (6, Value.int x6), (7, Value.int x7), (14, Value.int x14)] [] sh h 0 0) (hL458 : ∀ (x0 : Nat) (x1 : Nat) (x2 : Int32) (x3 : Nat) (x4 : Int32) (x5 : Int32) (x6 : Int32) (x7 : Int32) (x14 : Int32) (h : Hp), L458 x0 x1 x2 x3 x4 x5 x6 x7 x14 h → G w E 15 458 [(0, rv w.2.2.2 x0), (1, rv w.2.2.2 x1), (2, Value.int x2), (3, rv w.2.2.2 x3), (4, Value.int x4), (5, Value.int x5), (6, Value.int x6), (7, Value.int x7), (14, Value.int x14)] [] sh h 0 0) (hL491 : ∀ (x0 : Nat) (x1 : Nat) (x2 : Int32) (x3 : Nat) (x4 : Int32) (x5 : Int32) (x6 : Int32) (x7 : Int32) (x14 : Int32) (h : Hp), L491 x0 x1 x2 x3 x4 x5 x6 x7 x14 h → G w E 15 491 [(0, rv w.2.2.2 x0), (1, rv w.2.2.2 x1), (2, Value.int x2), (3, rv w.2.2.2 x3), (4, Value.int x4), (5, Value.int x5), (6, Value.int x6), (7, Value.int x7), (14, Value.int x14)] [] sh h 0 0) (hV : V_X12_windows_216 w sh x0 x1 x2 x3 x4 x5 x6 x7 x8 x9 s0 h L3 L97 L146 L397 L429 L458 L491 RET) : G w E 15 216 [(0, rv w.2.2.2 x0), (1, rv w.2.2.2 x1), (2, Value.int x2), (3, rv w.2.2.2 x3), (4, Value.int x4), (5, Value.int x5), (6, Value.int x6), (7, Value.int x7), (8, Value.int x8), (9, Value.int x9)] [Value.int s0] sh h 0 0 := by
  unfold V_X12_windows_216 at hV
  refine g_istore (pc := 216) X (i := 10) (rest := [(0, rv w.2.2.2 x0), (1, rv w.2.2.2 x1), (2, Value.int x2), (3, rv w.2.2.2 x3), (4, Value.int x4), (5, Value.int x5), (6, Value.int x6), (7, Value.int x7), (8, Value.int x8), (9, Value.int x9)]) (by decide) rfl dX12_windows_216 (fun y1 e2 => ?_)
  have hV := hV y1 e2
  refine g_aload_n (pc := 218) X 1 rfl rfl dX12_windows_218 ?_
  refine g_iload (pc := 219) X 10 rfl dX12_windows_219 ?_
  refine g_iload (pc := 221) X 0 rfl dX12_windows_221 ?_
  refine g_if_eq (pc := 223) X 230 dX12_windows_223 (by decide) (fun c3 => ?_) (fun c3 => ?_)
  · have hV := hV.1 c3
    refine g_iconst (pc := 230) (v := (0 : Int32)) X dX12_windows_230 (by decide) ?_
    refine g_lv [1, 2, 3, 4, 5, 6, 7, 8, 9, 10, 0] rfl ?_
    exact W_X12_windows_231 X Tt hR hL3 hL97 hL146 hL397 hL429 hL458 hL491 hV
  · have hV := hV.2 c3
    refine g_iconst (pc := 226) (v := (4 : Int32)) X dX12_windows_226 (by decide) ?_
    refine g_goto (pc := 227) X 231 dX12_windows_227 (by decide) ?_
    refine g_lv [1, 2, 3, 4, 5, 6, 7, 8, 9, 10, 0] rfl ?_
    exact W_X12_windows_231 X Tt hR hL3 hL97 hL146 hL397 hL429 hL458 hL491 hV
def V_X12_windows_146 (w : Wd) (sh : List Sh) (x0 : Nat) (x1 : Nat) (x2 : Int32) (x3 : Nat) (x4 : Int32) (x5 : Int32) (x6 : Int32) (x7 : Int32) (x8 : Int32) (x9 : Int32) (x10 : Int32) (h : Hp) (L3 : Nat → Nat → Int32 → Nat → Int32 → Int32 → Int32 → Int32 → Hp → Prop) (L97 : Nat → Nat → Int32 → Nat → Int32 → Int32 → Int32 → Int32 → Int32 → Int32 → Int32 → Hp → Prop) (L146 : Nat → Nat → Int32 → Nat → Int32 → Int32 → Int32 → Int32 → Int32 → Int32 → Int32 → Hp → Prop) (L397 : Nat → Nat → Int32 → Nat → Int32 → Int32 → Int32 → Int32 → Int32 → Int64 → Int32 → Hp → Prop) (L429 : Nat → Nat → Int32 → Nat → Int32 → Int32 → Int32 → Int32 → Int32 → Hp → Prop) (L458 : Nat → Nat → Int32 → Nat → Int32 → Int32 → Int32 → Int32 → Int32 → Hp → Prop) (L491 : Nat → Nat → Int32 → Nat → Int32 → Int32 → Int32 → Int32 → Int32 → Hp → Prop) (RET : Hp → Prop) : Prop :=
  ((x8 ≤ x10) → (shAt sh x0 = some (.inr 12) ∧ (∃ P3 : Hp → Prop, C_X12_findSteps w sh x0 x8 h P3 ∧ (∀ h6 : Hp, P3 h6 → (∃ P7 : Hp → Prop, C_X12_findModes w sh x0 x5 h6 P7 ∧ (∀ h10 : Hp, P7 h10 → (∃ P11 : Hp → Prop, C_X12_sayParts w sh x0 x5 h10 P11 ∧ (∀ h14 : Hp, P11 h14 → ((((h14.1 x0 60) = 0) → ((((x6 &&& (1 : Int32)) ≤ 0) → (V_X12_windows_216 w sh x0 x1 x2 x3 x4 x5 x6 x7 x8 x9 (0 : Int32) h14 L3 L97 L146 L397 L429 L458 L491 RET)) ∧ ((¬ (x6 &&& (1 : Int32)) ≤ 0) → (V_X12_windows_216 w sh x0 x1 x2 x3 x4 x5 x6 x7 x8 x9 (1 : Int32) h14 L3 L97 L146 L397 L429 L458 L491 RET)))) ∧ ((¬ (h14.1 x0 60) = 0) → (RET h14))))))))))) ∧ ((¬ x8 ≤ x10) → (shAt sh x0 = some (.inr 12) ∧ (∃ n19 : Nat, shAt sh x1 = some (.inl (0, n19)) ∧ (vp_in (x7 + x10) n19 ∧ (∃ n22 : Nat, shAt sh (h.2.1 x0 58) = some (.inl (0, n22)) ∧ (vp_in ((h.1 x0 59) + x10) n22 ∧ (∀ h24 : Hp, h24 = wI h (h.2.1 x0 58) ((h.1 x0 59) + x10).toNatClampNeg (b8 (h.1 x1 (x7 + x10).toNatClampNeg)) → (∀ y26 : Int32, y26 = x10 + (1 : Int32) → (L146 x0 x1 x2 x3 x4 x5 x6 x7 x8 x9 y26 h24)))))))))
set_option maxRecDepth 20000 in
set_option maxHeartbeats 4000000 in
theorem W_X12_windows_146 {w : Wd} {E : GE} {sh : List Sh} {x0 : Nat} {x1 : Nat} {x2 : Int32} {x3 : Nat} {x4 : Int32} {x5 : Int32} {x6 : Int32} {x7 : Int32} {x8 : Int32} {x9 : Int32} {x10 : Int32} {h : Hp} {L3 : Nat → Nat → Int32 → Nat → Int32 → Int32 → Int32 → Int32 → Hp → Prop} {L97 : Nat → Nat → Int32 → Nat → Int32 → Int32 → Int32 → Int32 → Int32 → Int32 → Int32 → Hp → Prop} {L146 : Nat → Nat → Int32 → Nat → Int32 → Int32 → Int32 → Int32 → Int32 → Int32 → Int32 → Hp → Prop} {L397 : Nat → Nat → Int32 → Nat → Int32 → Int32 → Int32 → Int32 → Int32 → Int64 → Int32 → Hp → Prop} {L429 : Nat → Nat → Int32 → Nat → Int32 → Int32 → Int32 → Int32 → Int32 → Hp → Prop} {L458 : Nat → Nat → Int32 → Nat → Int32 → Int32 → Int32 → Int32 → Int32 → Hp → Prop} {L491 : Nat → Nat → Int32 → Nat → Int32 → Int32 → Int32 → Int32 → Int32 → Hp → Prop} {RET : Hp → Prop} (X : Cx w E cX12_windows 15 RX12) (Tt : Rt w E none sh.length 0 0 (fun q sh9 h9 => q = none ∧ sh9 = sh ∧ RET h9)) (hR : gR E = { frames := 3, cells := 0, slots := 0, locals := 77 }) (hL3 : ∀ (x0 : Nat) (x1 : Nat) (x2 : Int32) (x3 : Nat) (x4 : Int32) (x5 : Int32) (x6 : Int32) (x7 : Int32) (h : Hp), L3 x0 x1 x2 x3 x4 x5 x6 x7 h → G w E 15 3 [(0, rv w.2.2.2 x0), (1, rv w.2.2.2 x1), (2, Value.int x2), (3, rv w.2.2.2 x3), (4, Value.int x4), (5, Value.int x5), (6, Value.int x6), (7, Value.int x7)] [] sh h 0 0) (hL97 : ∀ (x0 : Nat) (x1 : Nat) (x2 : Int32) (x3 : Nat) (x4 : Int32) (x5 : Int32) (x6 : Int32) (x7 : Int32) (x8 : Int32) (x9 : Int32) (x10 : Int32) (h : Hp), L97 x0 x1 x2 x3 x4 x5 x6 x7 x8 x9 x10 h → G w E 15 97 [(0, rv w.2.2.2 x0), (1, rv w.2.2.2 x1), (2, Value.int x2), (3, rv w.2.2.2 x3), (4, Value.int x4), (5, Value.int x5), (6, Value.int x6), (7, Value.int x7), (8, Value.int x8), (9, Value.int x9), (10, Value.int x10)] [] sh h 0 0) (hL146 : ∀ (x0 : Nat) (x1 : Nat) (x2 : Int32) (x3 : Nat) (x4 : Int32) (x5 : Int32) (x6 : Int32) (x7 : Int32) (x8 : Int32) (x9 : Int32) (x10 : Int32) (h : Hp), L146 x0 x1 x2 x3 x4 x5 x6 x7 x8 x9 x10 h → G w E 15 146 [(0, rv w.2.2.2 x0), (1, rv w.2.2.2 x1), (2, Value.int x2), (3, rv w.2.2.2 x3), (4, Value.int x4), (5, Value.int x5), (6, Value.int x6), (7, Value.int x7), (8, Value.int x8), (9, Value.int x9), (10, Value.int x10)] [] sh h 0 0) (hL397 : ∀ (x0 : Nat) (x1 : Nat) (x2 : Int32) (x3 : Nat) (x4 : Int32) (x5 : Int32) (x6 : Int32) (x7 : Int32) (x10 : Int32) (x12 : Int64) (x14 : Int32) (h : Hp), L397 x0 x1 x2 x3 x4 x5 x6 x7 x10 x12 x14 h → G w E 15 397 [(0, rv w.2.2.2 x0), (1, rv w.2.2.2 x1), (2, Value.int x2), (3, rv w.2.2.2 x3), (4, Value.int x4), (5, Value.int x5), (6, Value.int x6), (7, Value.int x7), (10, Value.int x10), (12, Value.long x12), (14, Value.int x14)] [] sh h 0 0) (hL429 : ∀ (x0 : Nat) (x1 : Nat) (x2 : Int32) (x3 : Nat) (x4 : Int32) (x5 : Int32) (x6 : Int32) (x7 : Int32) (x14 : Int32) (h : Hp), L429 x0 x1 x2 x3 x4 x5 x6 x7 x14 h → G w E 15 429 [(0, rv w.2.2.2 x0), (1, rv w.2.2.2 x1), (2, Value.int x2), (3, rv w.2.2.2 x3), (4, Value.int x4), (5, Value.int x5), (6, Value.int x6), (7, Value.int x7), (14, Value.int x14)] [] sh h 0 0) (hL458 : ∀ (x0 : Nat) (x1 : Nat) (x2 : Int32) (x3 : Nat) (x4 : Int32) (x5 : Int32) (x6 : Int32) (x7 : Int32) (x14 : Int32) (h : Hp), L458 x0 x1 x2 x3 x4 x5 x6 x7 x14 h → G w E 15 458 [(0, rv w.2.2.2 x0), (1, rv w.2.2.2 x1), (2, Value.int x2), (3, rv w.2.2.2 x3), (4, Value.int x4), (5, Value.int x5), (6, Value.int x6), (7, Value.int x7), (14, Value.int x14)] [] sh h 0 0) (hL491 : ∀ (x0 : Nat) (x1 : Nat) (x2 : Int32) (x3 : Nat) (x4 : Int32) (x5 : Int32) (x6 : Int32) (x7 : Int32) (x14 : Int32) (h : Hp), L491 x0 x1 x2 x3 x4 x5 x6 x7 x14 h → G w E 15 491 [(0, rv w.2.2.2 x0), (1, rv w.2.2.2 x1), (2, Value.int x2), (3, rv w.2.2.2 x3), (4, Value.int x4), (5, Value.int x5), (6, Value.int x6), (7, Value.int x7), (14, Value.int x14)] [] sh h 0 0) (hV : V_X12_windows_146 w sh x0 x1 x2 x3 x4 x5 x6 x7 x8 x9 x10 h L3 L97 L146 L397 L429 L458 L491 RET) : G w E 15 146 [(0, rv w.2.2.2 x0), (1, rv w.2.2.2 x1), (2, Value.int x2), (3, rv w.2.2.2 x3), (4, Value.int x4), (5, Value.int x5), (6, Value.int x6), (7, Value.int x7), (8, Value.int x8), (9, Value.int x9), (10, Value.int x10)] [] sh h 0 0 := by
  unfold V_X12_windows_146 at hV
  refine g_iload (pc := 146) X 10 rfl dX12_windows_146 ?_
  refine g_iload (pc := 148) X 8 rfl dX12_windows_148 ?_
  refine g_icmp_ge (pc := 150) X 178 dX12_windows_150 (by decide) (fun c1 => ?_) (fun c1 => ?_)
  · have hV := hV.1 c1
    refine g_aload_n (pc := 178) X 0 rfl rfl dX12_windows_178 ?_
    refine g_iload (pc := 179) X 8 rfl dX12_windows_179 ?_
    obtain ⟨q2, hV⟩ := hV
    obtain ⟨P3, t4, hV⟩ := hV
    refine g_cVV (pc := 181) X (As := [Value.int x8]) ml_X12_296 rfl q2 t4 (by rw [hR]; exact ⟨by decide, by decide, by decide, by decide⟩) rfl rfl (Nat.zero_le _) dX12_windows_181 (fun h6 p5 => ?_)
    have hV := hV h6 p5
    refine g_aload_n (pc := 184) X 0 rfl rfl dX12_windows_184 ?_
    refine g_iload (pc := 185) X 5 rfl dX12_windows_185 ?_
    obtain ⟨P7, t8, hV⟩ := hV
    refine g_cVV (pc := 187) X (As := [Value.int x5]) ml_X12_299 rfl q2 t8 (by rw [hR]; exact ⟨by decide, by decide, by decide, by decide⟩) rfl rfl (Nat.zero_le _) dX12_windows_187 (fun h10 p9 => ?_)
    have hV := hV h10 p9
    refine g_aload_n (pc := 190) X 0 rfl rfl dX12_windows_190 ?_
    refine g_iload (pc := 191) X 5 rfl dX12_windows_191 ?_
    obtain ⟨P11, t12, hV⟩ := hV
    refine g_cVV (pc := 193) X (As := [Value.int x5]) ml_X12_302 rfl q2 t12 (by rw [hR]; exact ⟨by decide, by decide, by decide, by decide⟩) rfl rfl (Nat.zero_le _) dX12_windows_193 (fun h14 p13 => ?_)
    have hV := hV h14 p13
    refine g_aload_n (pc := 196) X 0 rfl rfl dX12_windows_196 ?_
    refine g_getI (pc := 197) X fl_X12_277 q2 dX12_windows_197 ?_
    refine g_if_eq (pc := 200) X 204 dX12_windows_200 (by decide) (fun c15 => ?_) (fun c15 => ?_)
    · have hV := hV.1 c15
      refine g_iload (pc := 204) X 6 rfl dX12_windows_204 ?_
      refine g_iconst (pc := 206) (v := (1 : Int32)) X dX12_windows_206 (by decide) ?_
      refine g_iand (pc := 207) X dX12_windows_207 ?_
      refine g_if_le (pc := 208) X 215 dX12_windows_208 (by decide) (fun c16 => ?_) (fun c16 => ?_)
      · have hV := hV.1 c16
        refine g_iconst (pc := 215) (v := (0 : Int32)) X dX12_windows_215 (by decide) ?_
        refine g_lv [0, 1, 2, 3, 4, 5, 6, 7, 8, 9] rfl ?_
        exact W_X12_windows_216 X Tt hR hL3 hL97 hL146 hL397 hL429 hL458 hL491 hV
      · have hV := hV.2 c16
        refine g_iconst (pc := 211) (v := (1 : Int32)) X dX12_windows_211 (by decide) ?_
        refine g_goto (pc := 212) X 216 dX12_windows_212 (by decide) ?_
        refine g_lv [0, 1, 2, 3, 4, 5, 6, 7, 8, 9] rfl ?_
        exact W_X12_windows_216 X Tt hR hL3 hL97 hL146 hL397 hL429 hL458 hL491 hV
    · have hV := hV.2 c15
      exact g_vret (pc := 203) X Tt ⟨rfl, rfl, hV⟩ dX12_windows_203
  · have hV := hV.2 c1
    refine g_aload_n (pc := 153) X 0 rfl rfl dX12_windows_153 ?_
    obtain ⟨q17, hV⟩ := hV
    refine g_getR (pc := 154) X fl_X12_107 q17 dX12_windows_154 ?_
    refine g_aload_n (pc := 157) X 0 rfl rfl dX12_windows_157 ?_
    refine g_getI (pc := 158) X fl_X12_293 q17 dX12_windows_158 ?_
    refine g_iload (pc := 161) X 10 rfl dX12_windows_161 ?_
    refine g_iadd (pc := 163) X dX12_windows_163 ?_
    refine g_aload_n (pc := 164) X 1 rfl rfl dX12_windows_164 ?_
    refine g_iload (pc := 165) X 7 rfl dX12_windows_165 ?_
    refine g_iload (pc := 167) X 10 rfl dX12_windows_167 ?_
    refine g_iadd (pc := 169) X dX12_windows_169 ?_
    obtain ⟨n19, q18, hV⟩ := hV
    obtain ⟨q20, hV⟩ := hV
    refine g_bald (pc := 170) X q18 q20 dX12_windows_170 ?_
    obtain ⟨n22, q21, hV⟩ := hV
    obtain ⟨q23, hV⟩ := hV
    refine g_bast (pc := 171) X q21 q23 dX12_windows_171 (fun h24 e25 => ?_)
    have hV := hV h24 e25
    refine g_iinc (pc := 172) X 10 (v := (1 : Int32)) (rest := [(0, rv w.2.2.2 x0), (1, rv w.2.2.2 x1), (2, Value.int x2), (3, rv w.2.2.2 x3), (4, Value.int x4), (5, Value.int x5), (6, Value.int x6), (7, Value.int x7), (8, Value.int x8), (9, Value.int x9)]) rfl (by decide) rfl (by decide) dX12_windows_172 (fun y26 e27 => ?_)
    have hV := hV y26 e27
    refine g_goto (pc := 175) X 146 dX12_windows_175 (by decide) ?_
    refine g_lv [1, 2, 3, 4, 5, 6, 7, 8, 9, 10, 0] rfl ?_
    exact hL146 x0 x1 x2 x3 x4 x5 x6 x7 x8 x9 y26 h24 hV
def V_X12_windows_136 (w : Wd) (sh : List Sh) (x0 : Nat) (x1 : Nat) (x2 : Int32) (x3 : Nat) (x4 : Int32) (x5 : Int32) (x6 : Int32) (x7 : Int32) (x8 : Int32) (x9 : Int32) (x10 : Int32) (s0 : Int32) (s1 : Int32) (s2 : Nat) (h : Hp) (L3 : Nat → Nat → Int32 → Nat → Int32 → Int32 → Int32 → Int32 → Hp → Prop) (L97 : Nat → Nat → Int32 → Nat → Int32 → Int32 → Int32 → Int32 → Int32 → Int32 → Int32 → Hp → Prop) (L146 : Nat → Nat → Int32 → Nat → Int32 → Int32 → Int32 → Int32 → Int32 → Int32 → Int32 → Hp → Prop) (L397 : Nat → Nat → Int32 → Nat → Int32 → Int32 → Int32 → Int32 → Int32 → Int64 → Int32 → Hp → Prop) (L429 : Nat → Nat → Int32 → Nat → Int32 → Int32 → Int32 → Int32 → Int32 → Hp → Prop) (L458 : Nat → Nat → Int32 → Nat → Int32 → Int32 → Int32 → Int32 → Int32 → Hp → Prop) (L491 : Nat → Nat → Int32 → Nat → Int32 → Int32 → Int32 → Int32 → Int32 → Hp → Prop) (RET : Hp → Prop) : Prop :=
  ∃ n2 : Nat, shAt sh s2 = some (.inl (0, n2)) ∧ (vp_in s1 n2 ∧ (∀ h4 : Hp, h4 = wI h s2 s1.toNatClampNeg s0 → (∀ y6 : Int32, y6 = x10 + (1 : Int32) → (L97 x0 x1 x2 x3 x4 x5 x6 x7 x8 x9 y6 h4))))
set_option maxRecDepth 20000 in
set_option maxHeartbeats 4000000 in
theorem W_X12_windows_136 {w : Wd} {E : GE} {sh : List Sh} {x0 : Nat} {x1 : Nat} {x2 : Int32} {x3 : Nat} {x4 : Int32} {x5 : Int32} {x6 : Int32} {x7 : Int32} {x8 : Int32} {x9 : Int32} {x10 : Int32} {s0 : Int32} {s1 : Int32} {s2 : Nat} {h : Hp} {L3 : Nat → Nat → Int32 → Nat → Int32 → Int32 → Int32 → Int32 → Hp → Prop} {L97 : Nat → Nat → Int32 → Nat → Int32 → Int32 → Int32 → Int32 → Int32 → Int32 → Int32 → Hp → Prop} {L146 : Nat → Nat → Int32 → Nat → Int32 → Int32 → Int32 → Int32 → Int32 → Int32 → Int32 → Hp → Prop} {L397 : Nat → Nat → Int32 → Nat → Int32 → Int32 → Int32 → Int32 → Int32 → Int64 → Int32 → Hp → Prop} {L429 : Nat → Nat → Int32 → Nat → Int32 → Int32 → Int32 → Int32 → Int32 → Hp → Prop} {L458 : Nat → Nat → Int32 → Nat → Int32 → Int32 → Int32 → Int32 → Int32 → Hp → Prop} {L491 : Nat → Nat → Int32 → Nat → Int32 → Int32 → Int32 → Int32 → Int32 → Hp → Prop} {RET : Hp → Prop} (X : Cx w E cX12_windows 15 RX12) (Tt : Rt w E none sh.length 0 0 (fun q sh9 h9 => q = none ∧ sh9 = sh ∧ RET h9)) (hR : gR E = { frames := 3, cells := 0, slots := 0, locals := 77 }) (hL3 : ∀ (x0 : Nat) (x1 : Nat) (x2 : Int32) (x3 : Nat) (x4 : Int32) (x5 : Int32) (x6 : Int32) (x7 : Int32) (h : Hp), L3 x0 x1 x2 x3 x4 x5 x6 x7 h → G w E 15 3 [(0, rv w.2.2.2 x0), (1, rv w.2.2.2 x1), (2, Value.int x2), (3, rv w.2.2.2 x3), (4, Value.int x4), (5, Value.int x5), (6, Value.int x6), (7, Value.int x7)] [] sh h 0 0) (hL97 : ∀ (x0 : Nat) (x1 : Nat) (x2 : Int32) (x3 : Nat) (x4 : Int32) (x5 : Int32) (x6 : Int32) (x7 : Int32) (x8 : Int32) (x9 : Int32) (x10 : Int32) (h : Hp), L97 x0 x1 x2 x3 x4 x5 x6 x7 x8 x9 x10 h → G w E 15 97 [(0, rv w.2.2.2 x0), (1, rv w.2.2.2 x1), (2, Value.int x2), (3, rv w.2.2.2 x3), (4, Value.int x4), (5, Value.int x5), (6, Value.int x6), (7, Value.int x7), (8, Value.int x8), (9, Value.int x9), (10, Value.int x10)] [] sh h 0 0) (hL146 : ∀ (x0 : Nat) (x1 : Nat) (x2 : Int32) (x3 : Nat) (x4 : Int32) (x5 : Int32) (x6 : Int32) (x7 : Int32) (x8 : Int32) (x9 : Int32) (x10 : Int32) (h : Hp), L146 x0 x1 x2 x3 x4 x5 x6 x7 x8 x9 x10 h → G w E 15 146 [(0, rv w.2.2.2 x0), (1, rv w.2.2.2 x1), (2, Value.int x2), (3, rv w.2.2.2 x3), (4, Value.int x4), (5, Value.int x5), (6, Value.int x6), (7, Value.int x7), (8, Value.int x8), (9, Value.int x9), (10, Value.int x10)] [] sh h 0 0) (hL397 : ∀ (x0 : Nat) (x1 : Nat) (x2 : Int32) (x3 : Nat) (x4 : Int32) (x5 : Int32) (x6 : Int32) (x7 : Int32) (x10 : Int32) (x12 : Int64) (x14 : Int32) (h : Hp), L397 x0 x1 x2 x3 x4 x5 x6 x7 x10 x12 x14 h → G w E 15 397 [(0, rv w.2.2.2 x0), (1, rv w.2.2.2 x1), (2, Value.int x2), (3, rv w.2.2.2 x3), (4, Value.int x4), (5, Value.int x5), (6, Value.int x6), (7, Value.int x7), (10, Value.int x10), (12, Value.long x12), (14, Value.int x14)] [] sh h 0 0) (hL429 : ∀ (x0 : Nat) (x1 : Nat) (x2 : Int32) (x3 : Nat) (x4 : Int32) (x5 : Int32) (x6 : Int32) (x7 : Int32) (x14 : Int32) (h : Hp), L429 x0 x1 x2 x3 x4 x5 x6 x7 x14 h → G w E 15 429 [(0, rv w.2.2.2 x0), (1, rv w.2.2.2 x1), (2, Value.int x2), (3, rv w.2.2.2 x3), (4, Value.int x4), (5, Value.int x5), (6, Value.int x6), (7, Value.int x7), (14, Value.int x14)] [] sh h 0 0) (hL458 : ∀ (x0 : Nat) (x1 : Nat) (x2 : Int32) (x3 : Nat) (x4 : Int32) (x5 : Int32) (x6 : Int32) (x7 : Int32) (x14 : Int32) (h : Hp), L458 x0 x1 x2 x3 x4 x5 x6 x7 x14 h → G w E 15 458 [(0, rv w.2.2.2 x0), (1, rv w.2.2.2 x1), (2, Value.int x2), (3, rv w.2.2.2 x3), (4, Value.int x4), (5, Value.int x5), (6, Value.int x6), (7, Value.int x7), (14, Value.int x14)] [] sh h 0 0) (hL491 : ∀ (x0 : Nat) (x1 : Nat) (x2 : Int32) (x3 : Nat) (x4 : Int32) (x5 : Int32) (x6 : Int32) (x7 : Int32) (x14 : Int32) (h : Hp), L491 x0 x1 x2 x3 x4 x5 x6 x7 x14 h → G w E 15 491 [(0, rv w.2.2.2 x0), (1, rv w.2.2.2 x1), (2, Value.int x2), (3, rv w.2.2.2 x3), (4, Value.int x4), (5, Value.int x5), (6, Value.int x6), (7, Value.int x7), (14, Value.int x14)] [] sh h 0 0) (hV : V_X12_windows_136 w sh x0 x1 x2 x3 x4 x5 x6 x7 x8 x9 x10 s0 s1 s2 h L3 L97 L146 L397 L429 L458 L491 RET) : G w E 15 136 [(0, rv w.2.2.2 x0), (1, rv w.2.2.2 x1), (2, Value.int x2), (3, rv w.2.2.2 x3), (4, Value.int x4), (5, Value.int x5), (6, Value.int x6), (7, Value.int x7), (8, Value.int x8), (9, Value.int x9), (10, Value.int x10)] [Value.int s0, Value.int s1, rv w.2.2.2 s2] sh h 0 0 := by
  unfold V_X12_windows_136 at hV
  obtain ⟨n2, q1, hV⟩ := hV
  obtain ⟨q3, hV⟩ := hV
  refine g_bast (pc := 136) X q1 q3 dX12_windows_136 (fun h4 e5 => ?_)
  have hV := hV h4 e5
  refine g_iinc (pc := 137) X 10 (v := (1 : Int32)) (rest := [(0, rv w.2.2.2 x0), (1, rv w.2.2.2 x1), (2, Value.int x2), (3, rv w.2.2.2 x3), (4, Value.int x4), (5, Value.int x5), (6, Value.int x6), (7, Value.int x7), (8, Value.int x8), (9, Value.int x9)]) rfl (by decide) rfl (by decide) dX12_windows_137 (fun y6 e7 => ?_)
  have hV := hV y6 e7
  refine g_goto (pc := 140) X 97 dX12_windows_140 (by decide) ?_
  refine g_lv [1, 2, 3, 4, 5, 6, 7, 8, 9, 10, 0] rfl ?_
  exact hL97 x0 x1 x2 x3 x4 x5 x6 x7 x8 x9 y6 h4 hV
def V_X12_windows_97 (w : Wd) (sh : List Sh) (x0 : Nat) (x1 : Nat) (x2 : Int32) (x3 : Nat) (x4 : Int32) (x5 : Int32) (x6 : Int32) (x7 : Int32) (x8 : Int32) (x9 : Int32) (x10 : Int32) (h : Hp) (L3 : Nat → Nat → Int32 → Nat → Int32 → Int32 → Int32 → Int32 → Hp → Prop) (L97 : Nat → Nat → Int32 → Nat → Int32 → Int32 → Int32 → Int32 → Int32 → Int32 → Int32 → Hp → Prop) (L146 : Nat → Nat → Int32 → Nat → Int32 → Int32 → Int32 → Int32 → Int32 → Int32 → Int32 → Hp → Prop) (L397 : Nat → Nat → Int32 → Nat → Int32 → Int32 → Int32 → Int32 → Int32 → Int64 → Int32 → Hp → Prop) (L429 : Nat → Nat → Int32 → Nat → Int32 → Int32 → Int32 → Int32 → Int32 → Hp → Prop) (L458 : Nat → Nat → Int32 → Nat → Int32 → Int32 → Int32 → Int32 → Int32 → Hp → Prop) (L491 : Nat → Nat → Int32 → Nat → Int32 → Int32 → Int32 → Int32 → Int32 → Hp → Prop) (RET : Hp → Prop) : Prop :=
  shAt sh x0 = some (.inr 12) ∧ ((((h.1 x0 59) ≤ x10) → (∀ y3 : Int32, y3 = (0 : Int32) → (L146 x0 x1 x2 x3 x4 x5 x6 x7 x8 x9 y3 h))) ∧ ((¬ (h.1 x0 59) ≤ x10) → (((¬ x9 = (1 : Int32)) → (∃ n7 : Nat, shAt sh x1 = some (.inl (0, n7)) ∧ (vp_in ((x7 - (2048 : Int32)) + x10) n7 ∧ (V_X12_windows_136 w sh x0 x1 x2 x3 x4 x5 x6 x7 x8 x9 x10 (b8 (h.1 x1 ((x7 - (2048 : Int32)) + x10).toNatClampNeg)) x10 (h.2.1 x0 58) h L3 L97 L146 L397 L429 L458 L491 RET)))) ∧ ((x9 = (1 : Int32)) → (∃ n10 : Nat, shAt sh x3 = some (.inl (0, n10)) ∧ (vp_in x10 n10 ∧ (V_X12_windows_136 w sh x0 x1 x2 x3 x4 x5 x6 x7 x8 x9 x10 (b8 (h.1 x3 x10.toNatClampNeg)) x10 (h.2.1 x0 58) h L3 L97 L146 L397 L429 L458 L491 RET)))))))
set_option maxRecDepth 20000 in
set_option maxHeartbeats 4000000 in
theorem W_X12_windows_97 {w : Wd} {E : GE} {sh : List Sh} {x0 : Nat} {x1 : Nat} {x2 : Int32} {x3 : Nat} {x4 : Int32} {x5 : Int32} {x6 : Int32} {x7 : Int32} {x8 : Int32} {x9 : Int32} {x10 : Int32} {h : Hp} {L3 : Nat → Nat → Int32 → Nat → Int32 → Int32 → Int32 → Int32 → Hp → Prop} {L97 : Nat → Nat → Int32 → Nat → Int32 → Int32 → Int32 → Int32 → Int32 → Int32 → Int32 → Hp → Prop} {L146 : Nat → Nat → Int32 → Nat → Int32 → Int32 → Int32 → Int32 → Int32 → Int32 → Int32 → Hp → Prop} {L397 : Nat → Nat → Int32 → Nat → Int32 → Int32 → Int32 → Int32 → Int32 → Int64 → Int32 → Hp → Prop} {L429 : Nat → Nat → Int32 → Nat → Int32 → Int32 → Int32 → Int32 → Int32 → Hp → Prop} {L458 : Nat → Nat → Int32 → Nat → Int32 → Int32 → Int32 → Int32 → Int32 → Hp → Prop} {L491 : Nat → Nat → Int32 → Nat → Int32 → Int32 → Int32 → Int32 → Int32 → Hp → Prop} {RET : Hp → Prop} (X : Cx w E cX12_windows 15 RX12) (Tt : Rt w E none sh.length 0 0 (fun q sh9 h9 => q = none ∧ sh9 = sh ∧ RET h9)) (hR : gR E = { frames := 3, cells := 0, slots := 0, locals := 77 }) (hL3 : ∀ (x0 : Nat) (x1 : Nat) (x2 : Int32) (x3 : Nat) (x4 : Int32) (x5 : Int32) (x6 : Int32) (x7 : Int32) (h : Hp), L3 x0 x1 x2 x3 x4 x5 x6 x7 h → G w E 15 3 [(0, rv w.2.2.2 x0), (1, rv w.2.2.2 x1), (2, Value.int x2), (3, rv w.2.2.2 x3), (4, Value.int x4), (5, Value.int x5), (6, Value.int x6), (7, Value.int x7)] [] sh h 0 0) (hL97 : ∀ (x0 : Nat) (x1 : Nat) (x2 : Int32) (x3 : Nat) (x4 : Int32) (x5 : Int32) (x6 : Int32) (x7 : Int32) (x8 : Int32) (x9 : Int32) (x10 : Int32) (h : Hp), L97 x0 x1 x2 x3 x4 x5 x6 x7 x8 x9 x10 h → G w E 15 97 [(0, rv w.2.2.2 x0), (1, rv w.2.2.2 x1), (2, Value.int x2), (3, rv w.2.2.2 x3), (4, Value.int x4), (5, Value.int x5), (6, Value.int x6), (7, Value.int x7), (8, Value.int x8), (9, Value.int x9), (10, Value.int x10)] [] sh h 0 0) (hL146 : ∀ (x0 : Nat) (x1 : Nat) (x2 : Int32) (x3 : Nat) (x4 : Int32) (x5 : Int32) (x6 : Int32) (x7 : Int32) (x8 : Int32) (x9 : Int32) (x10 : Int32) (h : Hp), L146 x0 x1 x2 x3 x4 x5 x6 x7 x8 x9 x10 h → G w E 15 146 [(0, rv w.2.2.2 x0), (1, rv w.2.2.2 x1), (2, Value.int x2), (3, rv w.2.2.2 x3), (4, Value.int x4), (5, Value.int x5), (6, Value.int x6), (7, Value.int x7), (8, Value.int x8), (9, Value.int x9), (10, Value.int x10)] [] sh h 0 0) (hL397 : ∀ (x0 : Nat) (x1 : Nat) (x2 : Int32) (x3 : Nat) (x4 : Int32) (x5 : Int32) (x6 : Int32) (x7 : Int32) (x10 : Int32) (x12 : Int64) (x14 : Int32) (h : Hp), L397 x0 x1 x2 x3 x4 x5 x6 x7 x10 x12 x14 h → G w E 15 397 [(0, rv w.2.2.2 x0), (1, rv w.2.2.2 x1), (2, Value.int x2), (3, rv w.2.2.2 x3), (4, Value.int x4), (5, Value.int x5), (6, Value.int x6), (7, Value.int x7), (10, Value.int x10), (12, Value.long x12), (14, Value.int x14)] [] sh h 0 0) (hL429 : ∀ (x0 : Nat) (x1 : Nat) (x2 : Int32) (x3 : Nat) (x4 : Int32) (x5 : Int32) (x6 : Int32) (x7 : Int32) (x14 : Int32) (h : Hp), L429 x0 x1 x2 x3 x4 x5 x6 x7 x14 h → G w E 15 429 [(0, rv w.2.2.2 x0), (1, rv w.2.2.2 x1), (2, Value.int x2), (3, rv w.2.2.2 x3), (4, Value.int x4), (5, Value.int x5), (6, Value.int x6), (7, Value.int x7), (14, Value.int x14)] [] sh h 0 0) (hL458 : ∀ (x0 : Nat) (x1 : Nat) (x2 : Int32) (x3 : Nat) (x4 : Int32) (x5 : Int32) (x6 : Int32) (x7 : Int32) (x14 : Int32) (h : Hp), L458 x0 x1 x2 x3 x4 x5 x6 x7 x14 h → G w E 15 458 [(0, rv w.2.2.2 x0), (1, rv w.2.2.2 x1), (2, Value.int x2), (3, rv w.2.2.2 x3), (4, Value.int x4), (5, Value.int x5), (6, Value.int x6), (7, Value.int x7), (14, Value.int x14)] [] sh h 0 0) (hL491 : ∀ (x0 : Nat) (x1 : Nat) (x2 : Int32) (x3 : Nat) (x4 : Int32) (x5 : Int32) (x6 : Int32) (x7 : Int32) (x14 : Int32) (h : Hp), L491 x0 x1 x2 x3 x4 x5 x6 x7 x14 h → G w E 15 491 [(0, rv w.2.2.2 x0), (1, rv w.2.2.2 x1), (2, Value.int x2), (3, rv w.2.2.2 x3), (4, Value.int x4), (5, Value.int x5), (6, Value.int x6), (7, Value.int x7), (14, Value.int x14)] [] sh h 0 0) (hV : V_X12_windows_97 w sh x0 x1 x2 x3 x4 x5 x6 x7 x8 x9 x10 h L3 L97 L146 L397 L429 L458 L491 RET) : G w E 15 97 [(0, rv w.2.2.2 x0), (1, rv w.2.2.2 x1), (2, Value.int x2), (3, rv w.2.2.2 x3), (4, Value.int x4), (5, Value.int x5), (6, Value.int x6), (7, Value.int x7), (8, Value.int x8), (9, Value.int x9), (10, Value.int x10)] [] sh h 0 0 := by
  unfold V_X12_windows_97 at hV
  refine g_iload (pc := 97) X 10 rfl dX12_windows_97 ?_
  refine g_aload_n (pc := 99) X 0 rfl rfl dX12_windows_99 ?_
  obtain ⟨q1, hV⟩ := hV
  refine g_getI (pc := 100) X fl_X12_293 q1 dX12_windows_100 ?_
  refine g_icmp_ge (pc := 103) X 143 dX12_windows_103 (by decide) (fun c2 => ?_) (fun c2 => ?_)
  · have hV := hV.1 c2
    refine g_iconst (pc := 143) (v := (0 : Int32)) X dX12_windows_143 (by decide) ?_
    refine g_istore (pc := 144) X (i := 10) (rest := [(0, rv w.2.2.2 x0), (1, rv w.2.2.2 x1), (2, Value.int x2), (3, rv w.2.2.2 x3), (4, Value.int x4), (5, Value.int x5), (6, Value.int x6), (7, Value.int x7), (8, Value.int x8), (9, Value.int x9)]) (by decide) rfl dX12_windows_144 (fun y3 e4 => ?_)
    have hV := hV y3 e4
    refine g_lv [1, 2, 3, 4, 5, 6, 7, 8, 9, 10, 0] rfl ?_
    exact hL146 x0 x1 x2 x3 x4 x5 x6 x7 x8 x9 y3 h hV
  · have hV := hV.2 c2
    refine g_aload_n (pc := 106) X 0 rfl rfl dX12_windows_106 ?_
    refine g_getR (pc := 107) X fl_X12_107 q1 dX12_windows_107 ?_
    refine g_iload (pc := 110) X 10 rfl dX12_windows_110 ?_
    refine g_iload (pc := 112) X 9 rfl dX12_windows_112 ?_
    refine g_iconst (pc := 114) (v := (1 : Int32)) X dX12_windows_114 (by decide) ?_
    refine g_icmp_ne (pc := 115) X 125 dX12_windows_115 (by decide) (fun c5 => ?_) (fun c5 => ?_)
    · have hV := hV.1 c5
      refine g_aload_n (pc := 125) X 1 rfl rfl dX12_windows_125 ?_
      refine g_iload (pc := 126) X 7 rfl dX12_windows_126 ?_
      refine g_sipush (pc := 128) (v := (2048 : Int32)) X dX12_windows_128 (by decide) ?_
      refine g_isub (pc := 131) X dX12_windows_131 ?_
      refine g_iload (pc := 132) X 10 rfl dX12_windows_132 ?_
      refine g_iadd (pc := 134) X dX12_windows_134 ?_
      obtain ⟨n7, q6, hV⟩ := hV
      obtain ⟨q8, hV⟩ := hV
      refine g_bald (pc := 135) X q6 q8 dX12_windows_135 ?_
      exact W_X12_windows_136 X Tt hR hL3 hL97 hL146 hL397 hL429 hL458 hL491 hV
    · have hV := hV.2 c5
      refine g_aload_n (pc := 118) X 3 rfl rfl dX12_windows_118 ?_
      refine g_iload (pc := 119) X 10 rfl dX12_windows_119 ?_
      obtain ⟨n10, q9, hV⟩ := hV
      obtain ⟨q11, hV⟩ := hV
      refine g_bald (pc := 121) X q9 q11 dX12_windows_121 ?_
      refine g_goto (pc := 122) X 136 dX12_windows_122 (by decide) ?_
      exact W_X12_windows_136 X Tt hR hL3 hL97 hL146 hL397 hL429 hL458 hL491 hV
def V_X12_windows_91 (w : Wd) (sh : List Sh) (x0 : Nat) (x1 : Nat) (x2 : Int32) (x3 : Nat) (x4 : Int32) (x5 : Int32) (x6 : Int32) (x7 : Int32) (x8 : Int32) (x9 : Int32) (s0 : Int32) (s1 : Nat) (h : Hp) (L3 : Nat → Nat → Int32 → Nat → Int32 → Int32 → Int32 → Int32 → Hp → Prop) (L97 : Nat → Nat → Int32 → Nat → Int32 → Int32 → Int32 → Int32 → Int32 → Int32 → Int32 → Hp → Prop) (L146 : Nat → Nat → Int32 → Nat → Int32 → Int32 → Int32 → Int32 → Int32 → Int32 → Int32 → Hp → Prop) (L397 : Nat → Nat → Int32 → Nat → Int32 → Int32 → Int32 → Int32 → Int32 → Int64 → Int32 → Hp → Prop) (L429 : Nat → Nat → Int32 → Nat → Int32 → Int32 → Int32 → Int32 → Int32 → Hp → Prop) (L458 : Nat → Nat → Int32 → Nat → Int32 → Int32 → Int32 → Int32 → Int32 → Hp → Prop) (L491 : Nat → Nat → Int32 → Nat → Int32 → Int32 → Int32 → Int32 → Int32 → Hp → Prop) (RET : Hp → Prop) : Prop :=
  shAt sh s1 = some (.inr 12) ∧ (∀ h2 : Hp, h2 = wI h s1 59 s0 → (∀ y4 : Int32, y4 = (0 : Int32) → (L97 x0 x1 x2 x3 x4 x5 x6 x7 x8 x9 y4 h2)))
set_option maxRecDepth 20000 in
set_option maxHeartbeats 4000000 in
theorem W_X12_windows_91 {w : Wd} {E : GE} {sh : List Sh} {x0 : Nat} {x1 : Nat} {x2 : Int32} {x3 : Nat} {x4 : Int32} {x5 : Int32} {x6 : Int32} {x7 : Int32} {x8 : Int32} {x9 : Int32} {s0 : Int32} {s1 : Nat} {h : Hp} {L3 : Nat → Nat → Int32 → Nat → Int32 → Int32 → Int32 → Int32 → Hp → Prop} {L97 : Nat → Nat → Int32 → Nat → Int32 → Int32 → Int32 → Int32 → Int32 → Int32 → Int32 → Hp → Prop} {L146 : Nat → Nat → Int32 → Nat → Int32 → Int32 → Int32 → Int32 → Int32 → Int32 → Int32 → Hp → Prop} {L397 : Nat → Nat → Int32 → Nat → Int32 → Int32 → Int32 → Int32 → Int32 → Int64 → Int32 → Hp → Prop} {L429 : Nat → Nat → Int32 → Nat → Int32 → Int32 → Int32 → Int32 → Int32 → Hp → Prop} {L458 : Nat → Nat → Int32 → Nat → Int32 → Int32 → Int32 → Int32 → Int32 → Hp → Prop} {L491 : Nat → Nat → Int32 → Nat → Int32 → Int32 → Int32 → Int32 → Int32 → Hp → Prop} {RET : Hp → Prop} (X : Cx w E cX12_windows 15 RX12) (Tt : Rt w E none sh.length 0 0 (fun q sh9 h9 => q = none ∧ sh9 = sh ∧ RET h9)) (hR : gR E = { frames := 3, cells := 0, slots := 0, locals := 77 }) (hL3 : ∀ (x0 : Nat) (x1 : Nat) (x2 : Int32) (x3 : Nat) (x4 : Int32) (x5 : Int32) (x6 : Int32) (x7 : Int32) (h : Hp), L3 x0 x1 x2 x3 x4 x5 x6 x7 h → G w E 15 3 [(0, rv w.2.2.2 x0), (1, rv w.2.2.2 x1), (2, Value.int x2), (3, rv w.2.2.2 x3), (4, Value.int x4), (5, Value.int x5), (6, Value.int x6), (7, Value.int x7)] [] sh h 0 0) (hL97 : ∀ (x0 : Nat) (x1 : Nat) (x2 : Int32) (x3 : Nat) (x4 : Int32) (x5 : Int32) (x6 : Int32) (x7 : Int32) (x8 : Int32) (x9 : Int32) (x10 : Int32) (h : Hp), L97 x0 x1 x2 x3 x4 x5 x6 x7 x8 x9 x10 h → G w E 15 97 [(0, rv w.2.2.2 x0), (1, rv w.2.2.2 x1), (2, Value.int x2), (3, rv w.2.2.2 x3), (4, Value.int x4), (5, Value.int x5), (6, Value.int x6), (7, Value.int x7), (8, Value.int x8), (9, Value.int x9), (10, Value.int x10)] [] sh h 0 0) (hL146 : ∀ (x0 : Nat) (x1 : Nat) (x2 : Int32) (x3 : Nat) (x4 : Int32) (x5 : Int32) (x6 : Int32) (x7 : Int32) (x8 : Int32) (x9 : Int32) (x10 : Int32) (h : Hp), L146 x0 x1 x2 x3 x4 x5 x6 x7 x8 x9 x10 h → G w E 15 146 [(0, rv w.2.2.2 x0), (1, rv w.2.2.2 x1), (2, Value.int x2), (3, rv w.2.2.2 x3), (4, Value.int x4), (5, Value.int x5), (6, Value.int x6), (7, Value.int x7), (8, Value.int x8), (9, Value.int x9), (10, Value.int x10)] [] sh h 0 0) (hL397 : ∀ (x0 : Nat) (x1 : Nat) (x2 : Int32) (x3 : Nat) (x4 : Int32) (x5 : Int32) (x6 : Int32) (x7 : Int32) (x10 : Int32) (x12 : Int64) (x14 : Int32) (h : Hp), L397 x0 x1 x2 x3 x4 x5 x6 x7 x10 x12 x14 h → G w E 15 397 [(0, rv w.2.2.2 x0), (1, rv w.2.2.2 x1), (2, Value.int x2), (3, rv w.2.2.2 x3), (4, Value.int x4), (5, Value.int x5), (6, Value.int x6), (7, Value.int x7), (10, Value.int x10), (12, Value.long x12), (14, Value.int x14)] [] sh h 0 0) (hL429 : ∀ (x0 : Nat) (x1 : Nat) (x2 : Int32) (x3 : Nat) (x4 : Int32) (x5 : Int32) (x6 : Int32) (x7 : Int32) (x14 : Int32) (h : Hp), L429 x0 x1 x2 x3 x4 x5 x6 x7 x14 h → G w E 15 429 [(0, rv w.2.2.2 x0), (1, rv w.2.2.2 x1), (2, Value.int x2), (3, rv w.2.2.2 x3), (4, Value.int x4), (5, Value.int x5), (6, Value.int x6), (7, Value.int x7), (14, Value.int x14)] [] sh h 0 0) (hL458 : ∀ (x0 : Nat) (x1 : Nat) (x2 : Int32) (x3 : Nat) (x4 : Int32) (x5 : Int32) (x6 : Int32) (x7 : Int32) (x14 : Int32) (h : Hp), L458 x0 x1 x2 x3 x4 x5 x6 x7 x14 h → G w E 15 458 [(0, rv w.2.2.2 x0), (1, rv w.2.2.2 x1), (2, Value.int x2), (3, rv w.2.2.2 x3), (4, Value.int x4), (5, Value.int x5), (6, Value.int x6), (7, Value.int x7), (14, Value.int x14)] [] sh h 0 0) (hL491 : ∀ (x0 : Nat) (x1 : Nat) (x2 : Int32) (x3 : Nat) (x4 : Int32) (x5 : Int32) (x6 : Int32) (x7 : Int32) (x14 : Int32) (h : Hp), L491 x0 x1 x2 x3 x4 x5 x6 x7 x14 h → G w E 15 491 [(0, rv w.2.2.2 x0), (1, rv w.2.2.2 x1), (2, Value.int x2), (3, rv w.2.2.2 x3), (4, Value.int x4), (5, Value.int x5), (6, Value.int x6), (7, Value.int x7), (14, Value.int x14)] [] sh h 0 0) (hV : V_X12_windows_91 w sh x0 x1 x2 x3 x4 x5 x6 x7 x8 x9 s0 s1 h L3 L97 L146 L397 L429 L458 L491 RET) : G w E 15 91 [(0, rv w.2.2.2 x0), (1, rv w.2.2.2 x1), (2, Value.int x2), (3, rv w.2.2.2 x3), (4, Value.int x4), (5, Value.int x5), (6, Value.int x6), (7, Value.int x7), (8, Value.int x8), (9, Value.int x9)] [Value.int s0, rv w.2.2.2 s1] sh h 0 0 := by
  unfold V_X12_windows_91 at hV
  obtain ⟨q1, hV⟩ := hV
  refine g_putI (pc := 91) X fl_X12_293 q1 rfl rfl dX12_windows_91 (fun h2 e3 => ?_)
  have hV := hV h2 e3
  refine g_iconst (pc := 94) (v := (0 : Int32)) X dX12_windows_94 (by decide) ?_
  refine g_istore (pc := 95) X (i := 10) (rest := [(0, rv w.2.2.2 x0), (1, rv w.2.2.2 x1), (2, Value.int x2), (3, rv w.2.2.2 x3), (4, Value.int x4), (5, Value.int x5), (6, Value.int x6), (7, Value.int x7), (8, Value.int x8), (9, Value.int x9)]) (by decide) rfl dX12_windows_95 (fun y4 e5 => ?_)
  have hV := hV y4 e5
  refine g_lv [1, 2, 3, 4, 5, 6, 7, 8, 9, 10, 0] rfl ?_
  exact hL97 x0 x1 x2 x3 x4 x5 x6 x7 x8 x9 y4 h2 hV
def V_X12_windows_64 (w : Wd) (sh : List Sh) (x0 : Nat) (x1 : Nat) (x2 : Int32) (x3 : Nat) (x4 : Int32) (x5 : Int32) (x6 : Int32) (x7 : Int32) (x8 : Int32) (s0 : Int32) (h : Hp) (L3 : Nat → Nat → Int32 → Nat → Int32 → Int32 → Int32 → Int32 → Hp → Prop) (L97 : Nat → Nat → Int32 → Nat → Int32 → Int32 → Int32 → Int32 → Int32 → Int32 → Int32 → Hp → Prop) (L146 : Nat → Nat → Int32 → Nat → Int32 → Int32 → Int32 → Int32 → Int32 → Int32 → Int32 → Hp → Prop) (L397 : Nat → Nat → Int32 → Nat → Int32 → Int32 → Int32 → Int32 → Int32 → Int64 → Int32 → Hp → Prop) (L429 : Nat → Nat → Int32 → Nat → Int32 → Int32 → Int32 → Int32 → Int32 → Hp → Prop) (L458 : Nat → Nat → Int32 → Nat → Int32 → Int32 → Int32 → Int32 → Int32 → Hp → Prop) (L491 : Nat → Nat → Int32 → Nat → Int32 → Int32 → Int32 → Int32 → Int32 → Hp → Prop) (RET : Hp → Prop) : Prop :=
  ∀ y1 : Int32, y1 = s0 → (((¬ y1 = (1 : Int32)) → (((¬ y1 = (2 : Int32)) → (V_X12_windows_91 w sh x0 x1 x2 x3 x4 x5 x6 x7 x8 y1 (0 : Int32) x0 h L3 L97 L146 L397 L429 L458 L491 RET)) ∧ ((y1 = (2 : Int32)) → (V_X12_windows_91 w sh x0 x1 x2 x3 x4 x5 x6 x7 x8 y1 (2048 : Int32) x0 h L3 L97 L146 L397 L429 L458 L491 RET)))) ∧ ((y1 = (1 : Int32)) → (V_X12_windows_91 w sh x0 x1 x2 x3 x4 x5 x6 x7 x8 y1 x4 x0 h L3 L97 L146 L397 L429 L458 L491 RET)))
set_option maxRecDepth 20000 in
set_option maxHeartbeats 4000000 in
theorem W_X12_windows_64 {w : Wd} {E : GE} {sh : List Sh} {x0 : Nat} {x1 : Nat} {x2 : Int32} {x3 : Nat} {x4 : Int32} {x5 : Int32} {x6 : Int32} {x7 : Int32} {x8 : Int32} {s0 : Int32} {h : Hp} {L3 : Nat → Nat → Int32 → Nat → Int32 → Int32 → Int32 → Int32 → Hp → Prop} {L97 : Nat → Nat → Int32 → Nat → Int32 → Int32 → Int32 → Int32 → Int32 → Int32 → Int32 → Hp → Prop} {L146 : Nat → Nat → Int32 → Nat → Int32 → Int32 → Int32 → Int32 → Int32 → Int32 → Int32 → Hp → Prop} {L397 : Nat → Nat → Int32 → Nat → Int32 → Int32 → Int32 → Int32 → Int32 → Int64 → Int32 → Hp → Prop} {L429 : Nat → Nat → Int32 → Nat → Int32 → Int32 → Int32 → Int32 → Int32 → Hp → Prop} {L458 : Nat → Nat → Int32 → Nat → Int32 → Int32 → Int32 → Int32 → Int32 → Hp → Prop} {L491 : Nat → Nat → Int32 → Nat → Int32 → Int32 → Int32 → Int32 → Int32 → Hp → Prop} {RET : Hp → Prop} (X : Cx w E cX12_windows 15 RX12) (Tt : Rt w E none sh.length 0 0 (fun q sh9 h9 => q = none ∧ sh9 = sh ∧ RET h9)) (hR : gR E = { frames := 3, cells := 0, slots := 0, locals := 77 }) (hL3 : ∀ (x0 : Nat) (x1 : Nat) (x2 : Int32) (x3 : Nat) (x4 : Int32) (x5 : Int32) (x6 : Int32) (x7 : Int32) (h : Hp), L3 x0 x1 x2 x3 x4 x5 x6 x7 h → G w E 15 3 [(0, rv w.2.2.2 x0), (1, rv w.2.2.2 x1), (2, Value.int x2), (3, rv w.2.2.2 x3), (4, Value.int x4), (5, Value.int x5), (6, Value.int x6), (7, Value.int x7)] [] sh h 0 0) (hL97 : ∀ (x0 : Nat) (x1 : Nat) (x2 : Int32) (x3 : Nat) (x4 : Int32) (x5 : Int32) (x6 : Int32) (x7 : Int32) (x8 : Int32) (x9 : Int32) (x10 : Int32) (h : Hp), L97 x0 x1 x2 x3 x4 x5 x6 x7 x8 x9 x10 h → G w E 15 97 [(0, rv w.2.2.2 x0), (1, rv w.2.2.2 x1), (2, Value.int x2), (3, rv w.2.2.2 x3), (4, Value.int x4), (5, Value.int x5), (6, Value.int x6), (7, Value.int x7), (8, Value.int x8), (9, Value.int x9), (10, Value.int x10)] [] sh h 0 0) (hL146 : ∀ (x0 : Nat) (x1 : Nat) (x2 : Int32) (x3 : Nat) (x4 : Int32) (x5 : Int32) (x6 : Int32) (x7 : Int32) (x8 : Int32) (x9 : Int32) (x10 : Int32) (h : Hp), L146 x0 x1 x2 x3 x4 x5 x6 x7 x8 x9 x10 h → G w E 15 146 [(0, rv w.2.2.2 x0), (1, rv w.2.2.2 x1), (2, Value.int x2), (3, rv w.2.2.2 x3), (4, Value.int x4), (5, Value.int x5), (6, Value.int x6), (7, Value.int x7), (8, Value.int x8), (9, Value.int x9), (10, Value.int x10)] [] sh h 0 0) (hL397 : ∀ (x0 : Nat) (x1 : Nat) (x2 : Int32) (x3 : Nat) (x4 : Int32) (x5 : Int32) (x6 : Int32) (x7 : Int32) (x10 : Int32) (x12 : Int64) (x14 : Int32) (h : Hp), L397 x0 x1 x2 x3 x4 x5 x6 x7 x10 x12 x14 h → G w E 15 397 [(0, rv w.2.2.2 x0), (1, rv w.2.2.2 x1), (2, Value.int x2), (3, rv w.2.2.2 x3), (4, Value.int x4), (5, Value.int x5), (6, Value.int x6), (7, Value.int x7), (10, Value.int x10), (12, Value.long x12), (14, Value.int x14)] [] sh h 0 0) (hL429 : ∀ (x0 : Nat) (x1 : Nat) (x2 : Int32) (x3 : Nat) (x4 : Int32) (x5 : Int32) (x6 : Int32) (x7 : Int32) (x14 : Int32) (h : Hp), L429 x0 x1 x2 x3 x4 x5 x6 x7 x14 h → G w E 15 429 [(0, rv w.2.2.2 x0), (1, rv w.2.2.2 x1), (2, Value.int x2), (3, rv w.2.2.2 x3), (4, Value.int x4), (5, Value.int x5), (6, Value.int x6), (7, Value.int x7), (14, Value.int x14)] [] sh h 0 0) (hL458 : ∀ (x0 : Nat) (x1 : Nat) (x2 : Int32) (x3 : Nat) (x4 : Int32) (x5 : Int32) (x6 : Int32) (x7 : Int32) (x14 : Int32) (h : Hp), L458 x0 x1 x2 x3 x4 x5 x6 x7 x14 h → G w E 15 458 [(0, rv w.2.2.2 x0), (1, rv w.2.2.2 x1), (2, Value.int x2), (3, rv w.2.2.2 x3), (4, Value.int x4), (5, Value.int x5), (6, Value.int x6), (7, Value.int x7), (14, Value.int x14)] [] sh h 0 0) (hL491 : ∀ (x0 : Nat) (x1 : Nat) (x2 : Int32) (x3 : Nat) (x4 : Int32) (x5 : Int32) (x6 : Int32) (x7 : Int32) (x14 : Int32) (h : Hp), L491 x0 x1 x2 x3 x4 x5 x6 x7 x14 h → G w E 15 491 [(0, rv w.2.2.2 x0), (1, rv w.2.2.2 x1), (2, Value.int x2), (3, rv w.2.2.2 x3), (4, Value.int x4), (5, Value.int x5), (6, Value.int x6), (7, Value.int x7), (14, Value.int x14)] [] sh h 0 0) (hV : V_X12_windows_64 w sh x0 x1 x2 x3 x4 x5 x6 x7 x8 s0 h L3 L97 L146 L397 L429 L458 L491 RET) : G w E 15 64 [(0, rv w.2.2.2 x0), (1, rv w.2.2.2 x1), (2, Value.int x2), (3, rv w.2.2.2 x3), (4, Value.int x4), (5, Value.int x5), (6, Value.int x6), (7, Value.int x7), (8, Value.int x8)] [Value.int s0] sh h 0 0 := by
  unfold V_X12_windows_64 at hV
  refine g_istore (pc := 64) X (i := 9) (rest := [(0, rv w.2.2.2 x0), (1, rv w.2.2.2 x1), (2, Value.int x2), (3, rv w.2.2.2 x3), (4, Value.int x4), (5, Value.int x5), (6, Value.int x6), (7, Value.int x7), (8, Value.int x8)]) (by decide) rfl dX12_windows_64 (fun y1 e2 => ?_)
  have hV := hV y1 e2
  refine g_aload_n (pc := 66) X 1 rfl rfl dX12_windows_66 ?_
  refine g_iload (pc := 67) X 0 rfl dX12_windows_67 ?_
  refine g_iconst (pc := 69) (v := (1 : Int32)) X dX12_windows_69 (by decide) ?_
  refine g_icmp_ne (pc := 70) X 78 dX12_windows_70 (by decide) (fun c3 => ?_) (fun c3 => ?_)
  · have hV := hV.1 c3
    refine g_iload (pc := 78) X 0 rfl dX12_windows_78 ?_
    refine g_iconst (pc := 80) (v := (2 : Int32)) X dX12_windows_80 (by decide) ?_
    refine g_icmp_ne (pc := 81) X 90 dX12_windows_81 (by decide) (fun c4 => ?_) (fun c4 => ?_)
    · have hV := hV.1 c4
      refine g_iconst (pc := 90) (v := (0 : Int32)) X dX12_windows_90 (by decide) ?_
      refine g_lv [1, 2, 3, 4, 5, 6, 7, 8, 9, 0] rfl ?_
      exact W_X12_windows_91 X Tt hR hL3 hL97 hL146 hL397 hL429 hL458 hL491 hV
    · have hV := hV.2 c4
      refine g_sipush (pc := 84) (v := (2048 : Int32)) X dX12_windows_84 (by decide) ?_
      refine g_goto (pc := 87) X 91 dX12_windows_87 (by decide) ?_
      refine g_lv [1, 2, 3, 4, 5, 6, 7, 8, 9, 0] rfl ?_
      exact W_X12_windows_91 X Tt hR hL3 hL97 hL146 hL397 hL429 hL458 hL491 hV
  · have hV := hV.2 c3
    refine g_iload (pc := 73) X 5 rfl dX12_windows_73 ?_
    refine g_goto (pc := 75) X 91 dX12_windows_75 (by decide) ?_
    refine g_lv [1, 2, 3, 4, 5, 6, 7, 8, 9, 0] rfl ?_
    exact W_X12_windows_91 X Tt hR hL3 hL97 hL146 hL397 hL429 hL458 hL491 hV
def V_X12_windows_63 (w : Wd) (sh : List Sh) (x0 : Nat) (x1 : Nat) (x2 : Int32) (x3 : Nat) (x4 : Int32) (x5 : Int32) (x6 : Int32) (x7 : Int32) (x8 : Int32) (h : Hp) (L3 : Nat → Nat → Int32 → Nat → Int32 → Int32 → Int32 → Int32 → Hp → Prop) (L97 : Nat → Nat → Int32 → Nat → Int32 → Int32 → Int32 → Int32 → Int32 → Int32 → Int32 → Hp → Prop) (L146 : Nat → Nat → Int32 → Nat → Int32 → Int32 → Int32 → Int32 → Int32 → Int32 → Int32 → Hp → Prop) (L397 : Nat → Nat → Int32 → Nat → Int32 → Int32 → Int32 → Int32 → Int32 → Int64 → Int32 → Hp → Prop) (L429 : Nat → Nat → Int32 → Nat → Int32 → Int32 → Int32 → Int32 → Int32 → Hp → Prop) (L458 : Nat → Nat → Int32 → Nat → Int32 → Int32 → Int32 → Int32 → Int32 → Hp → Prop) (L491 : Nat → Nat → Int32 → Nat → Int32 → Int32 → Int32 → Int32 → Int32 → Hp → Prop) (RET : Hp → Prop) : Prop :=
  V_X12_windows_64 w sh x0 x1 x2 x3 x4 x5 x6 x7 x8 (0 : Int32) h L3 L97 L146 L397 L429 L458 L491 RET
set_option maxRecDepth 20000 in
set_option maxHeartbeats 4000000 in
theorem W_X12_windows_63 {w : Wd} {E : GE} {sh : List Sh} {x0 : Nat} {x1 : Nat} {x2 : Int32} {x3 : Nat} {x4 : Int32} {x5 : Int32} {x6 : Int32} {x7 : Int32} {x8 : Int32} {h : Hp} {L3 : Nat → Nat → Int32 → Nat → Int32 → Int32 → Int32 → Int32 → Hp → Prop} {L97 : Nat → Nat → Int32 → Nat → Int32 → Int32 → Int32 → Int32 → Int32 → Int32 → Int32 → Hp → Prop} {L146 : Nat → Nat → Int32 → Nat → Int32 → Int32 → Int32 → Int32 → Int32 → Int32 → Int32 → Hp → Prop} {L397 : Nat → Nat → Int32 → Nat → Int32 → Int32 → Int32 → Int32 → Int32 → Int64 → Int32 → Hp → Prop} {L429 : Nat → Nat → Int32 → Nat → Int32 → Int32 → Int32 → Int32 → Int32 → Hp → Prop} {L458 : Nat → Nat → Int32 → Nat → Int32 → Int32 → Int32 → Int32 → Int32 → Hp → Prop} {L491 : Nat → Nat → Int32 → Nat → Int32 → Int32 → Int32 → Int32 → Int32 → Hp → Prop} {RET : Hp → Prop} (X : Cx w E cX12_windows 15 RX12) (Tt : Rt w E none sh.length 0 0 (fun q sh9 h9 => q = none ∧ sh9 = sh ∧ RET h9)) (hR : gR E = { frames := 3, cells := 0, slots := 0, locals := 77 }) (hL3 : ∀ (x0 : Nat) (x1 : Nat) (x2 : Int32) (x3 : Nat) (x4 : Int32) (x5 : Int32) (x6 : Int32) (x7 : Int32) (h : Hp), L3 x0 x1 x2 x3 x4 x5 x6 x7 h → G w E 15 3 [(0, rv w.2.2.2 x0), (1, rv w.2.2.2 x1), (2, Value.int x2), (3, rv w.2.2.2 x3), (4, Value.int x4), (5, Value.int x5), (6, Value.int x6), (7, Value.int x7)] [] sh h 0 0) (hL97 : ∀ (x0 : Nat) (x1 : Nat) (x2 : Int32) (x3 : Nat) (x4 : Int32) (x5 : Int32) (x6 : Int32) (x7 : Int32) (x8 : Int32) (x9 : Int32) (x10 : Int32) (h : Hp), L97 x0 x1 x2 x3 x4 x5 x6 x7 x8 x9 x10 h → G w E 15 97 [(0, rv w.2.2.2 x0), (1, rv w.2.2.2 x1), (2, Value.int x2), (3, rv w.2.2.2 x3), (4, Value.int x4), (5, Value.int x5), (6, Value.int x6), (7, Value.int x7), (8, Value.int x8), (9, Value.int x9), (10, Value.int x10)] [] sh h 0 0) (hL146 : ∀ (x0 : Nat) (x1 : Nat) (x2 : Int32) (x3 : Nat) (x4 : Int32) (x5 : Int32) (x6 : Int32) (x7 : Int32) (x8 : Int32) (x9 : Int32) (x10 : Int32) (h : Hp), L146 x0 x1 x2 x3 x4 x5 x6 x7 x8 x9 x10 h → G w E 15 146 [(0, rv w.2.2.2 x0), (1, rv w.2.2.2 x1), (2, Value.int x2), (3, rv w.2.2.2 x3), (4, Value.int x4), (5, Value.int x5), (6, Value.int x6), (7, Value.int x7), (8, Value.int x8), (9, Value.int x9), (10, Value.int x10)] [] sh h 0 0) (hL397 : ∀ (x0 : Nat) (x1 : Nat) (x2 : Int32) (x3 : Nat) (x4 : Int32) (x5 : Int32) (x6 : Int32) (x7 : Int32) (x10 : Int32) (x12 : Int64) (x14 : Int32) (h : Hp), L397 x0 x1 x2 x3 x4 x5 x6 x7 x10 x12 x14 h → G w E 15 397 [(0, rv w.2.2.2 x0), (1, rv w.2.2.2 x1), (2, Value.int x2), (3, rv w.2.2.2 x3), (4, Value.int x4), (5, Value.int x5), (6, Value.int x6), (7, Value.int x7), (10, Value.int x10), (12, Value.long x12), (14, Value.int x14)] [] sh h 0 0) (hL429 : ∀ (x0 : Nat) (x1 : Nat) (x2 : Int32) (x3 : Nat) (x4 : Int32) (x5 : Int32) (x6 : Int32) (x7 : Int32) (x14 : Int32) (h : Hp), L429 x0 x1 x2 x3 x4 x5 x6 x7 x14 h → G w E 15 429 [(0, rv w.2.2.2 x0), (1, rv w.2.2.2 x1), (2, Value.int x2), (3, rv w.2.2.2 x3), (4, Value.int x4), (5, Value.int x5), (6, Value.int x6), (7, Value.int x7), (14, Value.int x14)] [] sh h 0 0) (hL458 : ∀ (x0 : Nat) (x1 : Nat) (x2 : Int32) (x3 : Nat) (x4 : Int32) (x5 : Int32) (x6 : Int32) (x7 : Int32) (x14 : Int32) (h : Hp), L458 x0 x1 x2 x3 x4 x5 x6 x7 x14 h → G w E 15 458 [(0, rv w.2.2.2 x0), (1, rv w.2.2.2 x1), (2, Value.int x2), (3, rv w.2.2.2 x3), (4, Value.int x4), (5, Value.int x5), (6, Value.int x6), (7, Value.int x7), (14, Value.int x14)] [] sh h 0 0) (hL491 : ∀ (x0 : Nat) (x1 : Nat) (x2 : Int32) (x3 : Nat) (x4 : Int32) (x5 : Int32) (x6 : Int32) (x7 : Int32) (x14 : Int32) (h : Hp), L491 x0 x1 x2 x3 x4 x5 x6 x7 x14 h → G w E 15 491 [(0, rv w.2.2.2 x0), (1, rv w.2.2.2 x1), (2, Value.int x2), (3, rv w.2.2.2 x3), (4, Value.int x4), (5, Value.int x5), (6, Value.int x6), (7, Value.int x7), (14, Value.int x14)] [] sh h 0 0) (hV : V_X12_windows_63 w sh x0 x1 x2 x3 x4 x5 x6 x7 x8 h L3 L97 L146 L397 L429 L458 L491 RET) : G w E 15 63 [(0, rv w.2.2.2 x0), (1, rv w.2.2.2 x1), (2, Value.int x2), (3, rv w.2.2.2 x3), (4, Value.int x4), (5, Value.int x5), (6, Value.int x6), (7, Value.int x7), (8, Value.int x8)] [] sh h 0 0 := by
  unfold V_X12_windows_63 at hV
  refine g_iconst (pc := 63) (v := (0 : Int32)) X dX12_windows_63 (by decide) ?_
  exact W_X12_windows_64 X Tt hR hL3 hL97 hL146 hL397 hL429 hL458 hL491 hV
def V_X12_windows_36 (w : Wd) (sh : List Sh) (x0 : Nat) (x1 : Nat) (x2 : Int32) (x3 : Nat) (x4 : Int32) (x5 : Int32) (x6 : Int32) (x7 : Int32) (s0 : Int32) (h : Hp) (L3 : Nat → Nat → Int32 → Nat → Int32 → Int32 → Int32 → Int32 → Hp → Prop) (L97 : Nat → Nat → Int32 → Nat → Int32 → Int32 → Int32 → Int32 → Int32 → Int32 → Int32 → Hp → Prop) (L146 : Nat → Nat → Int32 → Nat → Int32 → Int32 → Int32 → Int32 → Int32 → Int32 → Int32 → Hp → Prop) (L397 : Nat → Nat → Int32 → Nat → Int32 → Int32 → Int32 → Int32 → Int32 → Int64 → Int32 → Hp → Prop) (L429 : Nat → Nat → Int32 → Nat → Int32 → Int32 → Int32 → Int32 → Int32 → Hp → Prop) (L458 : Nat → Nat → Int32 → Nat → Int32 → Int32 → Int32 → Int32 → Int32 → Hp → Prop) (L491 : Nat → Nat → Int32 → Nat → Int32 → Int32 → Int32 → Int32 → Int32 → Hp → Prop) (RET : Hp → Prop) : Prop :=
  ∀ y1 : Int32, y1 = s0 → (((x4 ≤ 0) → ((((x6 &&& (4 : Int32)) ≤ 0) → (V_X12_windows_63 w sh x0 x1 x2 x3 x4 x5 x6 x7 y1 h L3 L97 L146 L397 L429 L458 L491 RET)) ∧ ((¬ (x6 &&& (4 : Int32)) ≤ 0) → (((x7 ≤ 0) → (V_X12_windows_63 w sh x0 x1 x2 x3 x4 x5 x6 x7 y1 h L3 L97 L146 L397 L429 L458 L491 RET)) ∧ ((¬ x7 ≤ 0) → (V_X12_windows_64 w sh x0 x1 x2 x3 x4 x5 x6 x7 y1 (2 : Int32) h L3 L97 L146 L397 L429 L458 L491 RET)))))) ∧ ((¬ x4 ≤ 0) → (V_X12_windows_64 w sh x0 x1 x2 x3 x4 x5 x6 x7 y1 (1 : Int32) h L3 L97 L146 L397 L429 L458 L491 RET)))
set_option maxRecDepth 20000 in
set_option maxHeartbeats 4000000 in
theorem W_X12_windows_36 {w : Wd} {E : GE} {sh : List Sh} {x0 : Nat} {x1 : Nat} {x2 : Int32} {x3 : Nat} {x4 : Int32} {x5 : Int32} {x6 : Int32} {x7 : Int32} {s0 : Int32} {h : Hp} {L3 : Nat → Nat → Int32 → Nat → Int32 → Int32 → Int32 → Int32 → Hp → Prop} {L97 : Nat → Nat → Int32 → Nat → Int32 → Int32 → Int32 → Int32 → Int32 → Int32 → Int32 → Hp → Prop} {L146 : Nat → Nat → Int32 → Nat → Int32 → Int32 → Int32 → Int32 → Int32 → Int32 → Int32 → Hp → Prop} {L397 : Nat → Nat → Int32 → Nat → Int32 → Int32 → Int32 → Int32 → Int32 → Int64 → Int32 → Hp → Prop} {L429 : Nat → Nat → Int32 → Nat → Int32 → Int32 → Int32 → Int32 → Int32 → Hp → Prop} {L458 : Nat → Nat → Int32 → Nat → Int32 → Int32 → Int32 → Int32 → Int32 → Hp → Prop} {L491 : Nat → Nat → Int32 → Nat → Int32 → Int32 → Int32 → Int32 → Int32 → Hp → Prop} {RET : Hp → Prop} (X : Cx w E cX12_windows 15 RX12) (Tt : Rt w E none sh.length 0 0 (fun q sh9 h9 => q = none ∧ sh9 = sh ∧ RET h9)) (hR : gR E = { frames := 3, cells := 0, slots := 0, locals := 77 }) (hL3 : ∀ (x0 : Nat) (x1 : Nat) (x2 : Int32) (x3 : Nat) (x4 : Int32) (x5 : Int32) (x6 : Int32) (x7 : Int32) (h : Hp), L3 x0 x1 x2 x3 x4 x5 x6 x7 h → G w E 15 3 [(0, rv w.2.2.2 x0), (1, rv w.2.2.2 x1), (2, Value.int x2), (3, rv w.2.2.2 x3), (4, Value.int x4), (5, Value.int x5), (6, Value.int x6), (7, Value.int x7)] [] sh h 0 0) (hL97 : ∀ (x0 : Nat) (x1 : Nat) (x2 : Int32) (x3 : Nat) (x4 : Int32) (x5 : Int32) (x6 : Int32) (x7 : Int32) (x8 : Int32) (x9 : Int32) (x10 : Int32) (h : Hp), L97 x0 x1 x2 x3 x4 x5 x6 x7 x8 x9 x10 h → G w E 15 97 [(0, rv w.2.2.2 x0), (1, rv w.2.2.2 x1), (2, Value.int x2), (3, rv w.2.2.2 x3), (4, Value.int x4), (5, Value.int x5), (6, Value.int x6), (7, Value.int x7), (8, Value.int x8), (9, Value.int x9), (10, Value.int x10)] [] sh h 0 0) (hL146 : ∀ (x0 : Nat) (x1 : Nat) (x2 : Int32) (x3 : Nat) (x4 : Int32) (x5 : Int32) (x6 : Int32) (x7 : Int32) (x8 : Int32) (x9 : Int32) (x10 : Int32) (h : Hp), L146 x0 x1 x2 x3 x4 x5 x6 x7 x8 x9 x10 h → G w E 15 146 [(0, rv w.2.2.2 x0), (1, rv w.2.2.2 x1), (2, Value.int x2), (3, rv w.2.2.2 x3), (4, Value.int x4), (5, Value.int x5), (6, Value.int x6), (7, Value.int x7), (8, Value.int x8), (9, Value.int x9), (10, Value.int x10)] [] sh h 0 0) (hL397 : ∀ (x0 : Nat) (x1 : Nat) (x2 : Int32) (x3 : Nat) (x4 : Int32) (x5 : Int32) (x6 : Int32) (x7 : Int32) (x10 : Int32) (x12 : Int64) (x14 : Int32) (h : Hp), L397 x0 x1 x2 x3 x4 x5 x6 x7 x10 x12 x14 h → G w E 15 397 [(0, rv w.2.2.2 x0), (1, rv w.2.2.2 x1), (2, Value.int x2), (3, rv w.2.2.2 x3), (4, Value.int x4), (5, Value.int x5), (6, Value.int x6), (7, Value.int x7), (10, Value.int x10), (12, Value.long x12), (14, Value.int x14)] [] sh h 0 0) (hL429 : ∀ (x0 : Nat) (x1 : Nat) (x2 : Int32) (x3 : Nat) (x4 : Int32) (x5 : Int32) (x6 : Int32) (x7 : Int32) (x14 : Int32) (h : Hp), L429 x0 x1 x2 x3 x4 x5 x6 x7 x14 h → G w E 15 429 [(0, rv w.2.2.2 x0), (1, rv w.2.2.2 x1), (2, Value.int x2), (3, rv w.2.2.2 x3), (4, Value.int x4), (5, Value.int x5), (6, Value.int x6), (7, Value.int x7), (14, Value.int x14)] [] sh h 0 0) (hL458 : ∀ (x0 : Nat) (x1 : Nat) (x2 : Int32) (x3 : Nat) (x4 : Int32) (x5 : Int32) (x6 : Int32) (x7 : Int32) (x14 : Int32) (h : Hp), L458 x0 x1 x2 x3 x4 x5 x6 x7 x14 h → G w E 15 458 [(0, rv w.2.2.2 x0), (1, rv w.2.2.2 x1), (2, Value.int x2), (3, rv w.2.2.2 x3), (4, Value.int x4), (5, Value.int x5), (6, Value.int x6), (7, Value.int x7), (14, Value.int x14)] [] sh h 0 0) (hL491 : ∀ (x0 : Nat) (x1 : Nat) (x2 : Int32) (x3 : Nat) (x4 : Int32) (x5 : Int32) (x6 : Int32) (x7 : Int32) (x14 : Int32) (h : Hp), L491 x0 x1 x2 x3 x4 x5 x6 x7 x14 h → G w E 15 491 [(0, rv w.2.2.2 x0), (1, rv w.2.2.2 x1), (2, Value.int x2), (3, rv w.2.2.2 x3), (4, Value.int x4), (5, Value.int x5), (6, Value.int x6), (7, Value.int x7), (14, Value.int x14)] [] sh h 0 0) (hV : V_X12_windows_36 w sh x0 x1 x2 x3 x4 x5 x6 x7 s0 h L3 L97 L146 L397 L429 L458 L491 RET) : G w E 15 36 [(0, rv w.2.2.2 x0), (1, rv w.2.2.2 x1), (2, Value.int x2), (3, rv w.2.2.2 x3), (4, Value.int x4), (5, Value.int x5), (6, Value.int x6), (7, Value.int x7)] [Value.int s0] sh h 0 0 := by
  unfold V_X12_windows_36 at hV
  refine g_istore (pc := 36) X (i := 8) (rest := [(0, rv w.2.2.2 x0), (1, rv w.2.2.2 x1), (2, Value.int x2), (3, rv w.2.2.2 x3), (4, Value.int x4), (5, Value.int x5), (6, Value.int x6), (7, Value.int x7)]) (by decide) rfl dX12_windows_36 (fun y1 e2 => ?_)
  have hV := hV y1 e2
  refine g_iload (pc := 38) X 5 rfl dX12_windows_38 ?_
  refine g_if_le (pc := 40) X 47 dX12_windows_40 (by decide) (fun c3 => ?_) (fun c3 => ?_)
  · have hV := hV.1 c3
    refine g_iload (pc := 47) X 7 rfl dX12_windows_47 ?_
    refine g_iconst (pc := 49) (v := (4 : Int32)) X dX12_windows_49 (by decide) ?_
    refine g_iand (pc := 50) X dX12_windows_50 ?_
    refine g_if_le (pc := 51) X 63 dX12_windows_51 (by decide) (fun c4 => ?_) (fun c4 => ?_)
    · have hV := hV.1 c4
      refine g_lv [1, 2, 3, 4, 5, 6, 7, 8, 0] rfl ?_
      exact W_X12_windows_63 X Tt hR hL3 hL97 hL146 hL397 hL429 hL458 hL491 hV
    · have hV := hV.2 c4
      refine g_iload (pc := 54) X 8 rfl dX12_windows_54 ?_
      refine g_if_le (pc := 56) X 63 dX12_windows_56 (by decide) (fun c5 => ?_) (fun c5 => ?_)
      · have hV := hV.1 c5
        refine g_lv [1, 2, 3, 4, 5, 6, 7, 8, 0] rfl ?_
        exact W_X12_windows_63 X Tt hR hL3 hL97 hL146 hL397 hL429 hL458 hL491 hV
      · have hV := hV.2 c5
        refine g_iconst (pc := 59) (v := (2 : Int32)) X dX12_windows_59 (by decide) ?_
        refine g_goto (pc := 60) X 64 dX12_windows_60 (by decide) ?_
        refine g_lv [1, 2, 3, 4, 5, 6, 7, 8, 0] rfl ?_
        exact W_X12_windows_64 X Tt hR hL3 hL97 hL146 hL397 hL429 hL458 hL491 hV
  · have hV := hV.2 c3
    refine g_iconst (pc := 43) (v := (1 : Int32)) X dX12_windows_43 (by decide) ?_
    refine g_goto (pc := 44) X 64 dX12_windows_44 (by decide) ?_
    refine g_lv [1, 2, 3, 4, 5, 6, 7, 8, 0] rfl ?_
    exact W_X12_windows_64 X Tt hR hL3 hL97 hL146 hL397 hL429 hL458 hL491 hV
def V_X12_windows_3 (w : Wd) (sh : List Sh) (x0 : Nat) (x1 : Nat) (x2 : Int32) (x3 : Nat) (x4 : Int32) (x5 : Int32) (x6 : Int32) (x7 : Int32) (h : Hp) (L3 : Nat → Nat → Int32 → Nat → Int32 → Int32 → Int32 → Int32 → Hp → Prop) (L97 : Nat → Nat → Int32 → Nat → Int32 → Int32 → Int32 → Int32 → Int32 → Int32 → Int32 → Hp → Prop) (L146 : Nat → Nat → Int32 → Nat → Int32 → Int32 → Int32 → Int32 → Int32 → Int32 → Int32 → Hp → Prop) (L397 : Nat → Nat → Int32 → Nat → Int32 → Int32 → Int32 → Int32 → Int32 → Int64 → Int32 → Hp → Prop) (L429 : Nat → Nat → Int32 → Nat → Int32 → Int32 → Int32 → Int32 → Int32 → Hp → Prop) (L458 : Nat → Nat → Int32 → Nat → Int32 → Int32 → Int32 → Int32 → Int32 → Hp → Prop) (L491 : Nat → Nat → Int32 → Nat → Int32 → Int32 → Int32 → Int32 → Int32 → Hp → Prop) (RET : Hp → Prop) : Prop :=
  ((x2 ≤ x7) → (RET h)) ∧ ((¬ x2 ≤ x7) → (shAt sh x0 = some (.inr 12) ∧ (((¬ (h.1 x0 60) = 0) → (RET h)) ∧ (((h.1 x0 60) = 0) → ((((2048 : Int32) ≤ (x2 - x7)) → (V_X12_windows_36 w sh x0 x1 x2 x3 x4 x5 x6 x7 (2048 : Int32) h L3 L97 L146 L397 L429 L458 L491 RET)) ∧ ((¬ (2048 : Int32) ≤ (x2 - x7)) → (V_X12_windows_36 w sh x0 x1 x2 x3 x4 x5 x6 x7 (x2 - x7) h L3 L97 L146 L397 L429 L458 L491 RET)))))))
set_option maxRecDepth 20000 in
set_option maxHeartbeats 4000000 in
theorem W_X12_windows_3 {w : Wd} {E : GE} {sh : List Sh} {x0 : Nat} {x1 : Nat} {x2 : Int32} {x3 : Nat} {x4 : Int32} {x5 : Int32} {x6 : Int32} {x7 : Int32} {h : Hp} {L3 : Nat → Nat → Int32 → Nat → Int32 → Int32 → Int32 → Int32 → Hp → Prop} {L97 : Nat → Nat → Int32 → Nat → Int32 → Int32 → Int32 → Int32 → Int32 → Int32 → Int32 → Hp → Prop} {L146 : Nat → Nat → Int32 → Nat → Int32 → Int32 → Int32 → Int32 → Int32 → Int32 → Int32 → Hp → Prop} {L397 : Nat → Nat → Int32 → Nat → Int32 → Int32 → Int32 → Int32 → Int32 → Int64 → Int32 → Hp → Prop} {L429 : Nat → Nat → Int32 → Nat → Int32 → Int32 → Int32 → Int32 → Int32 → Hp → Prop} {L458 : Nat → Nat → Int32 → Nat → Int32 → Int32 → Int32 → Int32 → Int32 → Hp → Prop} {L491 : Nat → Nat → Int32 → Nat → Int32 → Int32 → Int32 → Int32 → Int32 → Hp → Prop} {RET : Hp → Prop} (X : Cx w E cX12_windows 15 RX12) (Tt : Rt w E none sh.length 0 0 (fun q sh9 h9 => q = none ∧ sh9 = sh ∧ RET h9)) (hR : gR E = { frames := 3, cells := 0, slots := 0, locals := 77 }) (hL3 : ∀ (x0 : Nat) (x1 : Nat) (x2 : Int32) (x3 : Nat) (x4 : Int32) (x5 : Int32) (x6 : Int32) (x7 : Int32) (h : Hp), L3 x0 x1 x2 x3 x4 x5 x6 x7 h → G w E 15 3 [(0, rv w.2.2.2 x0), (1, rv w.2.2.2 x1), (2, Value.int x2), (3, rv w.2.2.2 x3), (4, Value.int x4), (5, Value.int x5), (6, Value.int x6), (7, Value.int x7)] [] sh h 0 0) (hL97 : ∀ (x0 : Nat) (x1 : Nat) (x2 : Int32) (x3 : Nat) (x4 : Int32) (x5 : Int32) (x6 : Int32) (x7 : Int32) (x8 : Int32) (x9 : Int32) (x10 : Int32) (h : Hp), L97 x0 x1 x2 x3 x4 x5 x6 x7 x8 x9 x10 h → G w E 15 97 [(0, rv w.2.2.2 x0), (1, rv w.2.2.2 x1), (2, Value.int x2), (3, rv w.2.2.2 x3), (4, Value.int x4), (5, Value.int x5), (6, Value.int x6), (7, Value.int x7), (8, Value.int x8), (9, Value.int x9), (10, Value.int x10)] [] sh h 0 0) (hL146 : ∀ (x0 : Nat) (x1 : Nat) (x2 : Int32) (x3 : Nat) (x4 : Int32) (x5 : Int32) (x6 : Int32) (x7 : Int32) (x8 : Int32) (x9 : Int32) (x10 : Int32) (h : Hp), L146 x0 x1 x2 x3 x4 x5 x6 x7 x8 x9 x10 h → G w E 15 146 [(0, rv w.2.2.2 x0), (1, rv w.2.2.2 x1), (2, Value.int x2), (3, rv w.2.2.2 x3), (4, Value.int x4), (5, Value.int x5), (6, Value.int x6), (7, Value.int x7), (8, Value.int x8), (9, Value.int x9), (10, Value.int x10)] [] sh h 0 0) (hL397 : ∀ (x0 : Nat) (x1 : Nat) (x2 : Int32) (x3 : Nat) (x4 : Int32) (x5 : Int32) (x6 : Int32) (x7 : Int32) (x10 : Int32) (x12 : Int64) (x14 : Int32) (h : Hp), L397 x0 x1 x2 x3 x4 x5 x6 x7 x10 x12 x14 h → G w E 15 397 [(0, rv w.2.2.2 x0), (1, rv w.2.2.2 x1), (2, Value.int x2), (3, rv w.2.2.2 x3), (4, Value.int x4), (5, Value.int x5), (6, Value.int x6), (7, Value.int x7), (10, Value.int x10), (12, Value.long x12), (14, Value.int x14)] [] sh h 0 0) (hL429 : ∀ (x0 : Nat) (x1 : Nat) (x2 : Int32) (x3 : Nat) (x4 : Int32) (x5 : Int32) (x6 : Int32) (x7 : Int32) (x14 : Int32) (h : Hp), L429 x0 x1 x2 x3 x4 x5 x6 x7 x14 h → G w E 15 429 [(0, rv w.2.2.2 x0), (1, rv w.2.2.2 x1), (2, Value.int x2), (3, rv w.2.2.2 x3), (4, Value.int x4), (5, Value.int x5), (6, Value.int x6), (7, Value.int x7), (14, Value.int x14)] [] sh h 0 0) (hL458 : ∀ (x0 : Nat) (x1 : Nat) (x2 : Int32) (x3 : Nat) (x4 : Int32) (x5 : Int32) (x6 : Int32) (x7 : Int32) (x14 : Int32) (h : Hp), L458 x0 x1 x2 x3 x4 x5 x6 x7 x14 h → G w E 15 458 [(0, rv w.2.2.2 x0), (1, rv w.2.2.2 x1), (2, Value.int x2), (3, rv w.2.2.2 x3), (4, Value.int x4), (5, Value.int x5), (6, Value.int x6), (7, Value.int x7), (14, Value.int x14)] [] sh h 0 0) (hL491 : ∀ (x0 : Nat) (x1 : Nat) (x2 : Int32) (x3 : Nat) (x4 : Int32) (x5 : Int32) (x6 : Int32) (x7 : Int32) (x14 : Int32) (h : Hp), L491 x0 x1 x2 x3 x4 x5 x6 x7 x14 h → G w E 15 491 [(0, rv w.2.2.2 x0), (1, rv w.2.2.2 x1), (2, Value.int x2), (3, rv w.2.2.2 x3), (4, Value.int x4), (5, Value.int x5), (6, Value.int x6), (7, Value.int x7), (14, Value.int x14)] [] sh h 0 0) (hV : V_X12_windows_3 w sh x0 x1 x2 x3 x4 x5 x6 x7 h L3 L97 L146 L397 L429 L458 L491 RET) : G w E 15 3 [(0, rv w.2.2.2 x0), (1, rv w.2.2.2 x1), (2, Value.int x2), (3, rv w.2.2.2 x3), (4, Value.int x4), (5, Value.int x5), (6, Value.int x6), (7, Value.int x7)] [] sh h 0 0 := by
  unfold V_X12_windows_3 at hV
  refine g_iload (pc := 3) X 7 rfl dX12_windows_3 ?_
  refine g_iload_n (pc := 5) X 2 rfl rfl dX12_windows_5 ?_
  refine g_icmp_ge (pc := 6) X 530 dX12_windows_6 (by decide) (fun c1 => ?_) (fun c1 => ?_)
  · have hV := hV.1 c1
    exact g_vret (pc := 530) X Tt ⟨rfl, rfl, hV⟩ dX12_windows_530
  · have hV := hV.2 c1
    refine g_aload_n (pc := 9) X 0 rfl rfl dX12_windows_9 ?_
    obtain ⟨q2, hV⟩ := hV
    refine g_getI (pc := 10) X fl_X12_277 q2 dX12_windows_10 ?_
    refine g_if_ne (pc := 13) X 530 dX12_windows_13 (by decide) (fun c3 => ?_) (fun c3 => ?_)
    · have hV := hV.1 c3
      exact g_vret (pc := 530) X Tt ⟨rfl, rfl, hV⟩ dX12_windows_530
    · have hV := hV.2 c3
      refine g_iload_n (pc := 16) X 2 rfl rfl dX12_windows_16 ?_
      refine g_iload (pc := 17) X 7 rfl dX12_windows_17 ?_
      refine g_isub (pc := 19) X dX12_windows_19 ?_
      refine g_sipush (pc := 20) (v := (2048 : Int32)) X dX12_windows_20 (by decide) ?_
      refine g_icmp_ge (pc := 23) X 33 dX12_windows_23 (by decide) (fun c4 => ?_) (fun c4 => ?_)
      · have hV := hV.1 c4
        refine g_sipush (pc := 33) (v := (2048 : Int32)) X dX12_windows_33 (by decide) ?_
        exact W_X12_windows_36 X Tt hR hL3 hL97 hL146 hL397 hL429 hL458 hL491 hV
      · have hV := hV.2 c4
        refine g_iload_n (pc := 26) X 2 rfl rfl dX12_windows_26 ?_
        refine g_iload (pc := 27) X 7 rfl dX12_windows_27 ?_
        refine g_isub (pc := 29) X dX12_windows_29 ?_
        refine g_goto (pc := 30) X 36 dX12_windows_30 (by decide) ?_
        exact W_X12_windows_36 X Tt hR hL3 hL97 hL146 hL397 hL429 hL458 hL491 hV
def V_X12_windows_0 (w : Wd) (sh : List Sh) (x0 : Nat) (x1 : Nat) (x2 : Int32) (x3 : Nat) (x4 : Int32) (x5 : Int32) (x6 : Int32) (h : Hp) (L3 : Nat → Nat → Int32 → Nat → Int32 → Int32 → Int32 → Int32 → Hp → Prop) (L97 : Nat → Nat → Int32 → Nat → Int32 → Int32 → Int32 → Int32 → Int32 → Int32 → Int32 → Hp → Prop) (L146 : Nat → Nat → Int32 → Nat → Int32 → Int32 → Int32 → Int32 → Int32 → Int32 → Int32 → Hp → Prop) (L397 : Nat → Nat → Int32 → Nat → Int32 → Int32 → Int32 → Int32 → Int32 → Int64 → Int32 → Hp → Prop) (L429 : Nat → Nat → Int32 → Nat → Int32 → Int32 → Int32 → Int32 → Int32 → Hp → Prop) (L458 : Nat → Nat → Int32 → Nat → Int32 → Int32 → Int32 → Int32 → Int32 → Hp → Prop) (L491 : Nat → Nat → Int32 → Nat → Int32 → Int32 → Int32 → Int32 → Int32 → Hp → Prop) (RET : Hp → Prop) : Prop :=
  ∀ y1 : Int32, y1 = (0 : Int32) → (L3 x0 x1 x2 x3 x4 x5 x6 y1 h)
set_option maxRecDepth 20000 in
set_option maxHeartbeats 4000000 in
theorem W_X12_windows_0 {w : Wd} {E : GE} {sh : List Sh} {x0 : Nat} {x1 : Nat} {x2 : Int32} {x3 : Nat} {x4 : Int32} {x5 : Int32} {x6 : Int32} {h : Hp} {L3 : Nat → Nat → Int32 → Nat → Int32 → Int32 → Int32 → Int32 → Hp → Prop} {L97 : Nat → Nat → Int32 → Nat → Int32 → Int32 → Int32 → Int32 → Int32 → Int32 → Int32 → Hp → Prop} {L146 : Nat → Nat → Int32 → Nat → Int32 → Int32 → Int32 → Int32 → Int32 → Int32 → Int32 → Hp → Prop} {L397 : Nat → Nat → Int32 → Nat → Int32 → Int32 → Int32 → Int32 → Int32 → Int64 → Int32 → Hp → Prop} {L429 : Nat → Nat → Int32 → Nat → Int32 → Int32 → Int32 → Int32 → Int32 → Hp → Prop} {L458 : Nat → Nat → Int32 → Nat → Int32 → Int32 → Int32 → Int32 → Int32 → Hp → Prop} {L491 : Nat → Nat → Int32 → Nat → Int32 → Int32 → Int32 → Int32 → Int32 → Hp → Prop} {RET : Hp → Prop} (X : Cx w E cX12_windows 15 RX12) (Tt : Rt w E none sh.length 0 0 (fun q sh9 h9 => q = none ∧ sh9 = sh ∧ RET h9)) (hR : gR E = { frames := 3, cells := 0, slots := 0, locals := 77 }) (hL3 : ∀ (x0 : Nat) (x1 : Nat) (x2 : Int32) (x3 : Nat) (x4 : Int32) (x5 : Int32) (x6 : Int32) (x7 : Int32) (h : Hp), L3 x0 x1 x2 x3 x4 x5 x6 x7 h → G w E 15 3 [(0, rv w.2.2.2 x0), (1, rv w.2.2.2 x1), (2, Value.int x2), (3, rv w.2.2.2 x3), (4, Value.int x4), (5, Value.int x5), (6, Value.int x6), (7, Value.int x7)] [] sh h 0 0) (hL97 : ∀ (x0 : Nat) (x1 : Nat) (x2 : Int32) (x3 : Nat) (x4 : Int32) (x5 : Int32) (x6 : Int32) (x7 : Int32) (x8 : Int32) (x9 : Int32) (x10 : Int32) (h : Hp), L97 x0 x1 x2 x3 x4 x5 x6 x7 x8 x9 x10 h → G w E 15 97 [(0, rv w.2.2.2 x0), (1, rv w.2.2.2 x1), (2, Value.int x2), (3, rv w.2.2.2 x3), (4, Value.int x4), (5, Value.int x5), (6, Value.int x6), (7, Value.int x7), (8, Value.int x8), (9, Value.int x9), (10, Value.int x10)] [] sh h 0 0) (hL146 : ∀ (x0 : Nat) (x1 : Nat) (x2 : Int32) (x3 : Nat) (x4 : Int32) (x5 : Int32) (x6 : Int32) (x7 : Int32) (x8 : Int32) (x9 : Int32) (x10 : Int32) (h : Hp), L146 x0 x1 x2 x3 x4 x5 x6 x7 x8 x9 x10 h → G w E 15 146 [(0, rv w.2.2.2 x0), (1, rv w.2.2.2 x1), (2, Value.int x2), (3, rv w.2.2.2 x3), (4, Value.int x4), (5, Value.int x5), (6, Value.int x6), (7, Value.int x7), (8, Value.int x8), (9, Value.int x9), (10, Value.int x10)] [] sh h 0 0) (hL397 : ∀ (x0 : Nat) (x1 : Nat) (x2 : Int32) (x3 : Nat) (x4 : Int32) (x5 : Int32) (x6 : Int32) (x7 : Int32) (x10 : Int32) (x12 : Int64) (x14 : Int32) (h : Hp), L397 x0 x1 x2 x3 x4 x5 x6 x7 x10 x12 x14 h → G w E 15 397 [(0, rv w.2.2.2 x0), (1, rv w.2.2.2 x1), (2, Value.int x2), (3, rv w.2.2.2 x3), (4, Value.int x4), (5, Value.int x5), (6, Value.int x6), (7, Value.int x7), (10, Value.int x10), (12, Value.long x12), (14, Value.int x14)] [] sh h 0 0) (hL429 : ∀ (x0 : Nat) (x1 : Nat) (x2 : Int32) (x3 : Nat) (x4 : Int32) (x5 : Int32) (x6 : Int32) (x7 : Int32) (x14 : Int32) (h : Hp), L429 x0 x1 x2 x3 x4 x5 x6 x7 x14 h → G w E 15 429 [(0, rv w.2.2.2 x0), (1, rv w.2.2.2 x1), (2, Value.int x2), (3, rv w.2.2.2 x3), (4, Value.int x4), (5, Value.int x5), (6, Value.int x6), (7, Value.int x7), (14, Value.int x14)] [] sh h 0 0) (hL458 : ∀ (x0 : Nat) (x1 : Nat) (x2 : Int32) (x3 : Nat) (x4 : Int32) (x5 : Int32) (x6 : Int32) (x7 : Int32) (x14 : Int32) (h : Hp), L458 x0 x1 x2 x3 x4 x5 x6 x7 x14 h → G w E 15 458 [(0, rv w.2.2.2 x0), (1, rv w.2.2.2 x1), (2, Value.int x2), (3, rv w.2.2.2 x3), (4, Value.int x4), (5, Value.int x5), (6, Value.int x6), (7, Value.int x7), (14, Value.int x14)] [] sh h 0 0) (hL491 : ∀ (x0 : Nat) (x1 : Nat) (x2 : Int32) (x3 : Nat) (x4 : Int32) (x5 : Int32) (x6 : Int32) (x7 : Int32) (x14 : Int32) (h : Hp), L491 x0 x1 x2 x3 x4 x5 x6 x7 x14 h → G w E 15 491 [(0, rv w.2.2.2 x0), (1, rv w.2.2.2 x1), (2, Value.int x2), (3, rv w.2.2.2 x3), (4, Value.int x4), (5, Value.int x5), (6, Value.int x6), (7, Value.int x7), (14, Value.int x14)] [] sh h 0 0) (hV : V_X12_windows_0 w sh x0 x1 x2 x3 x4 x5 x6 h L3 L97 L146 L397 L429 L458 L491 RET) : G w E 15 0 [(0, rv w.2.2.2 x0), (1, rv w.2.2.2 x1), (2, Value.int x2), (3, rv w.2.2.2 x3), (4, Value.int x4), (5, Value.int x5), (6, Value.int x6)] [] sh h 0 0 := by
  unfold V_X12_windows_0 at hV
  refine g_iconst (pc := 0) (v := (0 : Int32)) X dX12_windows_0 (by decide) ?_
  refine g_istore (pc := 1) X (i := 7) (rest := [(0, rv w.2.2.2 x0), (1, rv w.2.2.2 x1), (2, Value.int x2), (3, rv w.2.2.2 x3), (4, Value.int x4), (5, Value.int x5), (6, Value.int x6)]) (by decide) rfl dX12_windows_1 (fun y1 e2 => ?_)
  have hV := hV y1 e2
  refine g_lv [1, 2, 3, 4, 5, 6, 7, 0] rfl ?_
  exact hL3 x0 x1 x2 x3 x4 x5 x6 y1 h hV
def C_X12_windows (w : Wd) (sh : List Sh) (x0 : Nat) (x1 : Nat) (x2 : Int32) (x3 : Nat) (x4 : Int32) (x5 : Int32) (x6 : Int32) (h : Hp) (RET : Hp → Prop) : Prop := CV w yX12_windows (.code yX12_windows cX12_windows 15 none) 3 77 [rv w.2.2.2 x0, rv w.2.2.2 x1, Value.int x2, rv w.2.2.2 x3, Value.int x4, Value.int x5, Value.int x6] sh h RET
set_option maxRecDepth 20000 in
theorem K_X12_windows {w : Wd} {sh : List Sh} {x0 : Nat} {x1 : Nat} {x2 : Int32} {x3 : Nat} {x4 : Int32} {x5 : Int32} {x6 : Int32} {h : Hp} {RET : Hp → Prop} {α : Type} {r : α → α → Prop} (wf : WellFounded r) (I3 : α → Nat → Nat → Int32 → Nat → Int32 → Int32 → Int32 → Int32 → Hp → Prop) (I97 : α → Nat → Nat → Int32 → Nat → Int32 → Int32 → Int32 → Int32 → Int32 → Int32 → Int32 → Hp → Prop) (I146 : α → Nat → Nat → Int32 → Nat → Int32 → Int32 → Int32 → Int32 → Int32 → Int32 → Int32 → Hp → Prop) (I397 : α → Nat → Nat → Int32 → Nat → Int32 → Int32 → Int32 → Int32 → Int32 → Int64 → Int32 → Hp → Prop) (I429 : α → Nat → Nat → Int32 → Nat → Int32 → Int32 → Int32 → Int32 → Int32 → Hp → Prop) (I458 : α → Nat → Nat → Int32 → Nat → Int32 → Int32 → Int32 → Int32 → Int32 → Hp → Prop) (I491 : α → Nat → Nat → Int32 → Nat → Int32 → Int32 → Int32 → Int32 → Int32 → Hp → Prop) (hE : V_X12_windows_0 w sh x0 x1 x2 x3 x4 x5 x6 h (fun x0 x1 x2 x3 x4 x5 x6 x7 h => ∃ a, I3 a x0 x1 x2 x3 x4 x5 x6 x7 h) (fun x0 x1 x2 x3 x4 x5 x6 x7 x8 x9 x10 h => ∃ a, I97 a x0 x1 x2 x3 x4 x5 x6 x7 x8 x9 x10 h) (fun x0 x1 x2 x3 x4 x5 x6 x7 x8 x9 x10 h => ∃ a, I146 a x0 x1 x2 x3 x4 x5 x6 x7 x8 x9 x10 h) (fun x0 x1 x2 x3 x4 x5 x6 x7 x10 x12 x14 h => ∃ a, I397 a x0 x1 x2 x3 x4 x5 x6 x7 x10 x12 x14 h) (fun x0 x1 x2 x3 x4 x5 x6 x7 x14 h => ∃ a, I429 a x0 x1 x2 x3 x4 x5 x6 x7 x14 h) (fun x0 x1 x2 x3 x4 x5 x6 x7 x14 h => ∃ a, I458 a x0 x1 x2 x3 x4 x5 x6 x7 x14 h) (fun x0 x1 x2 x3 x4 x5 x6 x7 x14 h => ∃ a, I491 a x0 x1 x2 x3 x4 x5 x6 x7 x14 h) RET) (h3 : ∀ (b : α) (x0 : Nat) (x1 : Nat) (x2 : Int32) (x3 : Nat) (x4 : Int32) (x5 : Int32) (x6 : Int32) (x7 : Int32) (h : Hp), I3 b x0 x1 x2 x3 x4 x5 x6 x7 h → V_X12_windows_3 w sh x0 x1 x2 x3 x4 x5 x6 x7 h (fun x0 x1 x2 x3 x4 x5 x6 x7 h => ∃ a, r a b ∧ I3 a x0 x1 x2 x3 x4 x5 x6 x7 h) (fun x0 x1 x2 x3 x4 x5 x6 x7 x8 x9 x10 h => ∃ a, r a b ∧ I97 a x0 x1 x2 x3 x4 x5 x6 x7 x8 x9 x10 h) (fun x0 x1 x2 x3 x4 x5 x6 x7 x8 x9 x10 h => ∃ a, r a b ∧ I146 a x0 x1 x2 x3 x4 x5 x6 x7 x8 x9 x10 h) (fun x0 x1 x2 x3 x4 x5 x6 x7 x10 x12 x14 h => ∃ a, r a b ∧ I397 a x0 x1 x2 x3 x4 x5 x6 x7 x10 x12 x14 h) (fun x0 x1 x2 x3 x4 x5 x6 x7 x14 h => ∃ a, r a b ∧ I429 a x0 x1 x2 x3 x4 x5 x6 x7 x14 h) (fun x0 x1 x2 x3 x4 x5 x6 x7 x14 h => ∃ a, r a b ∧ I458 a x0 x1 x2 x3 x4 x5 x6 x7 x14 h) (fun x0 x1 x2 x3 x4 x5 x6 x7 x14 h => ∃ a, r a b ∧ I491 a x0 x1 x2 x3 x4 x5 x6 x7 x14 h) RET) (h97 : ∀ (b : α) (x0 : Nat) (x1 : Nat) (x2 : Int32) (x3 : Nat) (x4 : Int32) (x5 : Int32) (x6 : Int32) (x7 : Int32) (x8 : Int32) (x9 : Int32) (x10 : Int32) (h : Hp), I97 b x0 x1 x2 x3 x4 x5 x6 x7 x8 x9 x10 h → V_X12_windows_97 w sh x0 x1 x2 x3 x4 x5 x6 x7 x8 x9 x10 h (fun x0 x1 x2 x3 x4 x5 x6 x7 h => ∃ a, r a b ∧ I3 a x0 x1 x2 x3 x4 x5 x6 x7 h) (fun x0 x1 x2 x3 x4 x5 x6 x7 x8 x9 x10 h => ∃ a, r a b ∧ I97 a x0 x1 x2 x3 x4 x5 x6 x7 x8 x9 x10 h) (fun x0 x1 x2 x3 x4 x5 x6 x7 x8 x9 x10 h => ∃ a, r a b ∧ I146 a x0 x1 x2 x3 x4 x5 x6 x7 x8 x9 x10 h) (fun x0 x1 x2 x3 x4 x5 x6 x7 x10 x12 x14 h => ∃ a, r a b ∧ I397 a x0 x1 x2 x3 x4 x5 x6 x7 x10 x12 x14 h) (fun x0 x1 x2 x3 x4 x5 x6 x7 x14 h => ∃ a, r a b ∧ I429 a x0 x1 x2 x3 x4 x5 x6 x7 x14 h) (fun x0 x1 x2 x3 x4 x5 x6 x7 x14 h => ∃ a, r a b ∧ I458 a x0 x1 x2 x3 x4 x5 x6 x7 x14 h) (fun x0 x1 x2 x3 x4 x5 x6 x7 x14 h => ∃ a, r a b ∧ I491 a x0 x1 x2 x3 x4 x5 x6 x7 x14 h) RET) (h146 : ∀ (b : α) (x0 : Nat) (x1 : Nat) (x2 : Int32) (x3 : Nat) (x4 : Int32) (x5 : Int32) (x6 : Int32) (x7 : Int32) (x8 : Int32) (x9 : Int32) (x10 : Int32) (h : Hp), I146 b x0 x1 x2 x3 x4 x5 x6 x7 x8 x9 x10 h → V_X12_windows_146 w sh x0 x1 x2 x3 x4 x5 x6 x7 x8 x9 x10 h (fun x0 x1 x2 x3 x4 x5 x6 x7 h => ∃ a, r a b ∧ I3 a x0 x1 x2 x3 x4 x5 x6 x7 h) (fun x0 x1 x2 x3 x4 x5 x6 x7 x8 x9 x10 h => ∃ a, r a b ∧ I97 a x0 x1 x2 x3 x4 x5 x6 x7 x8 x9 x10 h) (fun x0 x1 x2 x3 x4 x5 x6 x7 x8 x9 x10 h => ∃ a, r a b ∧ I146 a x0 x1 x2 x3 x4 x5 x6 x7 x8 x9 x10 h) (fun x0 x1 x2 x3 x4 x5 x6 x7 x10 x12 x14 h => ∃ a, r a b ∧ I397 a x0 x1 x2 x3 x4 x5 x6 x7 x10 x12 x14 h) (fun x0 x1 x2 x3 x4 x5 x6 x7 x14 h => ∃ a, r a b ∧ I429 a x0 x1 x2 x3 x4 x5 x6 x7 x14 h) (fun x0 x1 x2 x3 x4 x5 x6 x7 x14 h => ∃ a, r a b ∧ I458 a x0 x1 x2 x3 x4 x5 x6 x7 x14 h) (fun x0 x1 x2 x3 x4 x5 x6 x7 x14 h => ∃ a, r a b ∧ I491 a x0 x1 x2 x3 x4 x5 x6 x7 x14 h) RET) (h397 : ∀ (b : α) (x0 : Nat) (x1 : Nat) (x2 : Int32) (x3 : Nat) (x4 : Int32) (x5 : Int32) (x6 : Int32) (x7 : Int32) (x10 : Int32) (x12 : Int64) (x14 : Int32) (h : Hp), I397 b x0 x1 x2 x3 x4 x5 x6 x7 x10 x12 x14 h → V_X12_windows_397 w sh x0 x1 x2 x3 x4 x5 x6 x7 x10 x12 x14 h (fun x0 x1 x2 x3 x4 x5 x6 x7 h => ∃ a, r a b ∧ I3 a x0 x1 x2 x3 x4 x5 x6 x7 h) (fun x0 x1 x2 x3 x4 x5 x6 x7 x8 x9 x10 h => ∃ a, r a b ∧ I97 a x0 x1 x2 x3 x4 x5 x6 x7 x8 x9 x10 h) (fun x0 x1 x2 x3 x4 x5 x6 x7 x8 x9 x10 h => ∃ a, r a b ∧ I146 a x0 x1 x2 x3 x4 x5 x6 x7 x8 x9 x10 h) (fun x0 x1 x2 x3 x4 x5 x6 x7 x10 x12 x14 h => ∃ a, r a b ∧ I397 a x0 x1 x2 x3 x4 x5 x6 x7 x10 x12 x14 h) (fun x0 x1 x2 x3 x4 x5 x6 x7 x14 h => ∃ a, r a b ∧ I429 a x0 x1 x2 x3 x4 x5 x6 x7 x14 h) (fun x0 x1 x2 x3 x4 x5 x6 x7 x14 h => ∃ a, r a b ∧ I458 a x0 x1 x2 x3 x4 x5 x6 x7 x14 h) (fun x0 x1 x2 x3 x4 x5 x6 x7 x14 h => ∃ a, r a b ∧ I491 a x0 x1 x2 x3 x4 x5 x6 x7 x14 h) RET) (h429 : ∀ (b : α) (x0 : Nat) (x1 : Nat) (x2 : Int32) (x3 : Nat) (x4 : Int32) (x5 : Int32) (x6 : Int32) (x7 : Int32) (x14 : Int32) (h : Hp), I429 b x0 x1 x2 x3 x4 x5 x6 x7 x14 h → V_X12_windows_429 w sh x0 x1 x2 x3 x4 x5 x6 x7 x14 h (fun x0 x1 x2 x3 x4 x5 x6 x7 h => ∃ a, r a b ∧ I3 a x0 x1 x2 x3 x4 x5 x6 x7 h) (fun x0 x1 x2 x3 x4 x5 x6 x7 x8 x9 x10 h => ∃ a, r a b ∧ I97 a x0 x1 x2 x3 x4 x5 x6 x7 x8 x9 x10 h) (fun x0 x1 x2 x3 x4 x5 x6 x7 x8 x9 x10 h => ∃ a, r a b ∧ I146 a x0 x1 x2 x3 x4 x5 x6 x7 x8 x9 x10 h) (fun x0 x1 x2 x3 x4 x5 x6 x7 x10 x12 x14 h => ∃ a, r a b ∧ I397 a x0 x1 x2 x3 x4 x5 x6 x7 x10 x12 x14 h) (fun x0 x1 x2 x3 x4 x5 x6 x7 x14 h => ∃ a, r a b ∧ I429 a x0 x1 x2 x3 x4 x5 x6 x7 x14 h) (fun x0 x1 x2 x3 x4 x5 x6 x7 x14 h => ∃ a, r a b ∧ I458 a x0 x1 x2 x3 x4 x5 x6 x7 x14 h) (fun x0 x1 x2 x3 x4 x5 x6 x7 x14 h => ∃ a, r a b ∧ I491 a x0 x1 x2 x3 x4 x5 x6 x7 x14 h) RET) (h458 : ∀ (b : α) (x0 : Nat) (x1 : Nat) (x2 : Int32) (x3 : Nat) (x4 : Int32) (x5 : Int32) (x6 : Int32) (x7 : Int32) (x14 : Int32) (h : Hp), I458 b x0 x1 x2 x3 x4 x5 x6 x7 x14 h → V_X12_windows_458 w sh x0 x1 x2 x3 x4 x5 x6 x7 x14 h (fun x0 x1 x2 x3 x4 x5 x6 x7 h => ∃ a, r a b ∧ I3 a x0 x1 x2 x3 x4 x5 x6 x7 h) (fun x0 x1 x2 x3 x4 x5 x6 x7 x8 x9 x10 h => ∃ a, r a b ∧ I97 a x0 x1 x2 x3 x4 x5 x6 x7 x8 x9 x10 h) (fun x0 x1 x2 x3 x4 x5 x6 x7 x8 x9 x10 h => ∃ a, r a b ∧ I146 a x0 x1 x2 x3 x4 x5 x6 x7 x8 x9 x10 h) (fun x0 x1 x2 x3 x4 x5 x6 x7 x10 x12 x14 h => ∃ a, r a b ∧ I397 a x0 x1 x2 x3 x4 x5 x6 x7 x10 x12 x14 h) (fun x0 x1 x2 x3 x4 x5 x6 x7 x14 h => ∃ a, r a b ∧ I429 a x0 x1 x2 x3 x4 x5 x6 x7 x14 h) (fun x0 x1 x2 x3 x4 x5 x6 x7 x14 h => ∃ a, r a b ∧ I458 a x0 x1 x2 x3 x4 x5 x6 x7 x14 h) (fun x0 x1 x2 x3 x4 x5 x6 x7 x14 h => ∃ a, r a b ∧ I491 a x0 x1 x2 x3 x4 x5 x6 x7 x14 h) RET) (h491 : ∀ (b : α) (x0 : Nat) (x1 : Nat) (x2 : Int32) (x3 : Nat) (x4 : Int32) (x5 : Int32) (x6 : Int32) (x7 : Int32) (x14 : Int32) (h : Hp), I491 b x0 x1 x2 x3 x4 x5 x6 x7 x14 h → V_X12_windows_491 w sh x0 x1 x2 x3 x4 x5 x6 x7 x14 h (fun x0 x1 x2 x3 x4 x5 x6 x7 h => ∃ a, r a b ∧ I3 a x0 x1 x2 x3 x4 x5 x6 x7 h) (fun x0 x1 x2 x3 x4 x5 x6 x7 x8 x9 x10 h => ∃ a, r a b ∧ I97 a x0 x1 x2 x3 x4 x5 x6 x7 x8 x9 x10 h) (fun x0 x1 x2 x3 x4 x5 x6 x7 x8 x9 x10 h => ∃ a, r a b ∧ I146 a x0 x1 x2 x3 x4 x5 x6 x7 x8 x9 x10 h) (fun x0 x1 x2 x3 x4 x5 x6 x7 x10 x12 x14 h => ∃ a, r a b ∧ I397 a x0 x1 x2 x3 x4 x5 x6 x7 x10 x12 x14 h) (fun x0 x1 x2 x3 x4 x5 x6 x7 x14 h => ∃ a, r a b ∧ I429 a x0 x1 x2 x3 x4 x5 x6 x7 x14 h) (fun x0 x1 x2 x3 x4 x5 x6 x7 x14 h => ∃ a, r a b ∧ I458 a x0 x1 x2 x3 x4 x5 x6 x7 x14 h) (fun x0 x1 x2 x3 x4 x5 x6 x7 x14 h => ∃ a, r a b ∧ I491 a x0 x1 x2 x3 x4 x5 x6 x7 x14 h) RET) : C_X12_windows w sh x0 x1 x2 x3 x4 x5 x6 h RET :=
  Ct_of (by decide +kernel) (by simp [lg_sl, rv_cat, cat_int, cat_long]) (fun E X Tt hR _ => by
    have key : ∀ a : α, (∀ (x0 : Nat) (x1 : Nat) (x2 : Int32) (x3 : Nat) (x4 : Int32) (x5 : Int32) (x6 : Int32) (x7 : Int32) (h : Hp), I3 a x0 x1 x2 x3 x4 x5 x6 x7 h → G w E 15 3 [(0, rv w.2.2.2 x0), (1, rv w.2.2.2 x1), (2, Value.int x2), (3, rv w.2.2.2 x3), (4, Value.int x4), (5, Value.int x5), (6, Value.int x6), (7, Value.int x7)] [] sh h 0 0) ∧ (∀ (x0 : Nat) (x1 : Nat) (x2 : Int32) (x3 : Nat) (x4 : Int32) (x5 : Int32) (x6 : Int32) (x7 : Int32) (x8 : Int32) (x9 : Int32) (x10 : Int32) (h : Hp), I97 a x0 x1 x2 x3 x4 x5 x6 x7 x8 x9 x10 h → G w E 15 97 [(0, rv w.2.2.2 x0), (1, rv w.2.2.2 x1), (2, Value.int x2), (3, rv w.2.2.2 x3), (4, Value.int x4), (5, Value.int x5), (6, Value.int x6), (7, Value.int x7), (8, Value.int x8), (9, Value.int x9), (10, Value.int x10)] [] sh h 0 0) ∧ (∀ (x0 : Nat) (x1 : Nat) (x2 : Int32) (x3 : Nat) (x4 : Int32) (x5 : Int32) (x6 : Int32) (x7 : Int32) (x8 : Int32) (x9 : Int32) (x10 : Int32) (h : Hp), I146 a x0 x1 x2 x3 x4 x5 x6 x7 x8 x9 x10 h → G w E 15 146 [(0, rv w.2.2.2 x0), (1, rv w.2.2.2 x1), (2, Value.int x2), (3, rv w.2.2.2 x3), (4, Value.int x4), (5, Value.int x5), (6, Value.int x6), (7, Value.int x7), (8, Value.int x8), (9, Value.int x9), (10, Value.int x10)] [] sh h 0 0) ∧ (∀ (x0 : Nat) (x1 : Nat) (x2 : Int32) (x3 : Nat) (x4 : Int32) (x5 : Int32) (x6 : Int32) (x7 : Int32) (x10 : Int32) (x12 : Int64) (x14 : Int32) (h : Hp), I397 a x0 x1 x2 x3 x4 x5 x6 x7 x10 x12 x14 h → G w E 15 397 [(0, rv w.2.2.2 x0), (1, rv w.2.2.2 x1), (2, Value.int x2), (3, rv w.2.2.2 x3), (4, Value.int x4), (5, Value.int x5), (6, Value.int x6), (7, Value.int x7), (10, Value.int x10), (12, Value.long x12), (14, Value.int x14)] [] sh h 0 0) ∧ (∀ (x0 : Nat) (x1 : Nat) (x2 : Int32) (x3 : Nat) (x4 : Int32) (x5 : Int32) (x6 : Int32) (x7 : Int32) (x14 : Int32) (h : Hp), I429 a x0 x1 x2 x3 x4 x5 x6 x7 x14 h → G w E 15 429 [(0, rv w.2.2.2 x0), (1, rv w.2.2.2 x1), (2, Value.int x2), (3, rv w.2.2.2 x3), (4, Value.int x4), (5, Value.int x5), (6, Value.int x6), (7, Value.int x7), (14, Value.int x14)] [] sh h 0 0) ∧ (∀ (x0 : Nat) (x1 : Nat) (x2 : Int32) (x3 : Nat) (x4 : Int32) (x5 : Int32) (x6 : Int32) (x7 : Int32) (x14 : Int32) (h : Hp), I458 a x0 x1 x2 x3 x4 x5 x6 x7 x14 h → G w E 15 458 [(0, rv w.2.2.2 x0), (1, rv w.2.2.2 x1), (2, Value.int x2), (3, rv w.2.2.2 x3), (4, Value.int x4), (5, Value.int x5), (6, Value.int x6), (7, Value.int x7), (14, Value.int x14)] [] sh h 0 0) ∧ (∀ (x0 : Nat) (x1 : Nat) (x2 : Int32) (x3 : Nat) (x4 : Int32) (x5 : Int32) (x6 : Int32) (x7 : Int32) (x14 : Int32) (h : Hp), I491 a x0 x1 x2 x3 x4 x5 x6 x7 x14 h → G w E 15 491 [(0, rv w.2.2.2 x0), (1, rv w.2.2.2 x1), (2, Value.int x2), (3, rv w.2.2.2 x3), (4, Value.int x4), (5, Value.int x5), (6, Value.int x6), (7, Value.int x7), (14, Value.int x14)] [] sh h 0 0) := by
      intro a
      induction a using wf.induction with
      | _ a ih =>
        exact ⟨(fun x0 x1 x2 x3 x4 x5 x6 x7 h hi => W_X12_windows_3 X Tt hR (fun x0 x1 x2 x3 x4 x5 x6 x7 h hx => by obtain ⟨a2, ha, hi⟩ := hx; exact ((ih a2 ha)).1 x0 x1 x2 x3 x4 x5 x6 x7 h hi) (fun x0 x1 x2 x3 x4 x5 x6 x7 x8 x9 x10 h hx => by obtain ⟨a2, ha, hi⟩ := hx; exact (((ih a2 ha)).2).1 x0 x1 x2 x3 x4 x5 x6 x7 x8 x9 x10 h hi) (fun x0 x1 x2 x3 x4 x5 x6 x7 x8 x9 x10 h hx => by obtain ⟨a2, ha, hi⟩ := hx; exact ((((ih a2 ha)).2).2).1 x0 x1 x2 x3 x4 x5 x6 x7 x8 x9 x10 h hi) (fun x0 x1 x2 x3 x4 x5 x6 x7 x10 x12 x14 h hx => by obtain ⟨a2, ha, hi⟩ := hx; exact (((((ih a2 ha)).2).2).2).1 x0 x1 x2 x3 x4 x5 x6 x7 x10 x12 x14 h hi) (fun x0 x1 x2 x3 x4 x5 x6 x7 x14 h hx => by obtain ⟨a2, ha, hi⟩ := hx; exact ((((((ih a2 ha)).2).2).2).2).1 x0 x1 x2 x3 x4 x5 x6 x7 x14 h hi) (fun x0 x1 x2 x3 x4 x5 x6 x7 x14 h hx => by obtain ⟨a2, ha, hi⟩ := hx; exact (((((((ih a2 ha)).2).2).2).2).2).1 x0 x1 x2 x3 x4 x5 x6 x7 x14 h hi) (fun x0 x1 x2 x3 x4 x5 x6 x7 x14 h hx => by obtain ⟨a2, ha, hi⟩ := hx; exact (((((((ih a2 ha)).2).2).2).2).2).2 x0 x1 x2 x3 x4 x5 x6 x7 x14 h hi) (h3 a x0 x1 x2 x3 x4 x5 x6 x7 h hi)), (fun x0 x1 x2 x3 x4 x5 x6 x7 x8 x9 x10 h hi => W_X12_windows_97 X Tt hR (fun x0 x1 x2 x3 x4 x5 x6 x7 h hx => by obtain ⟨a2, ha, hi⟩ := hx; exact ((ih a2 ha)).1 x0 x1 x2 x3 x4 x5 x6 x7 h hi) (fun x0 x1 x2 x3 x4 x5 x6 x7 x8 x9 x10 h hx => by obtain ⟨a2, ha, hi⟩ := hx; exact (((ih a2 ha)).2).1 x0 x1 x2 x3 x4 x5 x6 x7 x8 x9 x10 h hi) (fun x0 x1 x2 x3 x4 x5 x6 x7 x8 x9 x10 h hx => by obtain ⟨a2, ha, hi⟩ := hx; exact ((((ih a2 ha)).2).2).1 x0 x1 x2 x3 x4 x5 x6 x7 x8 x9 x10 h hi) (fun x0 x1 x2 x3 x4 x5 x6 x7 x10 x12 x14 h hx => by obtain ⟨a2, ha, hi⟩ := hx; exact (((((ih a2 ha)).2).2).2).1 x0 x1 x2 x3 x4 x5 x6 x7 x10 x12 x14 h hi) (fun x0 x1 x2 x3 x4 x5 x6 x7 x14 h hx => by obtain ⟨a2, ha, hi⟩ := hx; exact ((((((ih a2 ha)).2).2).2).2).1 x0 x1 x2 x3 x4 x5 x6 x7 x14 h hi) (fun x0 x1 x2 x3 x4 x5 x6 x7 x14 h hx => by obtain ⟨a2, ha, hi⟩ := hx; exact (((((((ih a2 ha)).2).2).2).2).2).1 x0 x1 x2 x3 x4 x5 x6 x7 x14 h hi) (fun x0 x1 x2 x3 x4 x5 x6 x7 x14 h hx => by obtain ⟨a2, ha, hi⟩ := hx; exact (((((((ih a2 ha)).2).2).2).2).2).2 x0 x1 x2 x3 x4 x5 x6 x7 x14 h hi) (h97 a x0 x1 x2 x3 x4 x5 x6 x7 x8 x9 x10 h hi)), (fun x0 x1 x2 x3 x4 x5 x6 x7 x8 x9 x10 h hi => W_X12_windows_146 X Tt hR (fun x0 x1 x2 x3 x4 x5 x6 x7 h hx => by obtain ⟨a2, ha, hi⟩ := hx; exact ((ih a2 ha)).1 x0 x1 x2 x3 x4 x5 x6 x7 h hi) (fun x0 x1 x2 x3 x4 x5 x6 x7 x8 x9 x10 h hx => by obtain ⟨a2, ha, hi⟩ := hx; exact (((ih a2 ha)).2).1 x0 x1 x2 x3 x4 x5 x6 x7 x8 x9 x10 h hi) (fun x0 x1 x2 x3 x4 x5 x6 x7 x8 x9 x10 h hx => by obtain ⟨a2, ha, hi⟩ := hx; exact ((((ih a2 ha)).2).2).1 x0 x1 x2 x3 x4 x5 x6 x7 x8 x9 x10 h hi) (fun x0 x1 x2 x3 x4 x5 x6 x7 x10 x12 x14 h hx => by obtain ⟨a2, ha, hi⟩ := hx; exact (((((ih a2 ha)).2).2).2).1 x0 x1 x2 x3 x4 x5 x6 x7 x10 x12 x14 h hi) (fun x0 x1 x2 x3 x4 x5 x6 x7 x14 h hx => by obtain ⟨a2, ha, hi⟩ := hx; exact ((((((ih a2 ha)).2).2).2).2).1 x0 x1 x2 x3 x4 x5 x6 x7 x14 h hi) (fun x0 x1 x2 x3 x4 x5 x6 x7 x14 h hx => by obtain ⟨a2, ha, hi⟩ := hx; exact (((((((ih a2 ha)).2).2).2).2).2).1 x0 x1 x2 x3 x4 x5 x6 x7 x14 h hi) (fun x0 x1 x2 x3 x4 x5 x6 x7 x14 h hx => by obtain ⟨a2, ha, hi⟩ := hx; exact (((((((ih a2 ha)).2).2).2).2).2).2 x0 x1 x2 x3 x4 x5 x6 x7 x14 h hi) (h146 a x0 x1 x2 x3 x4 x5 x6 x7 x8 x9 x10 h hi)), (fun x0 x1 x2 x3 x4 x5 x6 x7 x10 x12 x14 h hi => W_X12_windows_397 X Tt hR (fun x0 x1 x2 x3 x4 x5 x6 x7 h hx => by obtain ⟨a2, ha, hi⟩ := hx; exact ((ih a2 ha)).1 x0 x1 x2 x3 x4 x5 x6 x7 h hi) (fun x0 x1 x2 x3 x4 x5 x6 x7 x8 x9 x10 h hx => by obtain ⟨a2, ha, hi⟩ := hx; exact (((ih a2 ha)).2).1 x0 x1 x2 x3 x4 x5 x6 x7 x8 x9 x10 h hi) (fun x0 x1 x2 x3 x4 x5 x6 x7 x8 x9 x10 h hx => by obtain ⟨a2, ha, hi⟩ := hx; exact ((((ih a2 ha)).2).2).1 x0 x1 x2 x3 x4 x5 x6 x7 x8 x9 x10 h hi) (fun x0 x1 x2 x3 x4 x5 x6 x7 x10 x12 x14 h hx => by obtain ⟨a2, ha, hi⟩ := hx; exact (((((ih a2 ha)).2).2).2).1 x0 x1 x2 x3 x4 x5 x6 x7 x10 x12 x14 h hi) (fun x0 x1 x2 x3 x4 x5 x6 x7 x14 h hx => by obtain ⟨a2, ha, hi⟩ := hx; exact ((((((ih a2 ha)).2).2).2).2).1 x0 x1 x2 x3 x4 x5 x6 x7 x14 h hi) (fun x0 x1 x2 x3 x4 x5 x6 x7 x14 h hx => by obtain ⟨a2, ha, hi⟩ := hx; exact (((((((ih a2 ha)).2).2).2).2).2).1 x0 x1 x2 x3 x4 x5 x6 x7 x14 h hi) (fun x0 x1 x2 x3 x4 x5 x6 x7 x14 h hx => by obtain ⟨a2, ha, hi⟩ := hx; exact (((((((ih a2 ha)).2).2).2).2).2).2 x0 x1 x2 x3 x4 x5 x6 x7 x14 h hi) (h397 a x0 x1 x2 x3 x4 x5 x6 x7 x10 x12 x14 h hi)), (fun x0 x1 x2 x3 x4 x5 x6 x7 x14 h hi => W_X12_windows_429 X Tt hR (fun x0 x1 x2 x3 x4 x5 x6 x7 h hx => by obtain ⟨a2, ha, hi⟩ := hx; exact ((ih a2 ha)).1 x0 x1 x2 x3 x4 x5 x6 x7 h hi) (fun x0 x1 x2 x3 x4 x5 x6 x7 x8 x9 x10 h hx => by obtain ⟨a2, ha, hi⟩ := hx; exact (((ih a2 ha)).2).1 x0 x1 x2 x3 x4 x5 x6 x7 x8 x9 x10 h hi) (fun x0 x1 x2 x3 x4 x5 x6 x7 x8 x9 x10 h hx => by obtain ⟨a2, ha, hi⟩ := hx; exact ((((ih a2 ha)).2).2).1 x0 x1 x2 x3 x4 x5 x6 x7 x8 x9 x10 h hi) (fun x0 x1 x2 x3 x4 x5 x6 x7 x10 x12 x14 h hx => by obtain ⟨a2, ha, hi⟩ := hx; exact (((((ih a2 ha)).2).2).2).1 x0 x1 x2 x3 x4 x5 x6 x7 x10 x12 x14 h hi) (fun x0 x1 x2 x3 x4 x5 x6 x7 x14 h hx => by obtain ⟨a2, ha, hi⟩ := hx; exact ((((((ih a2 ha)).2).2).2).2).1 x0 x1 x2 x3 x4 x5 x6 x7 x14 h hi) (fun x0 x1 x2 x3 x4 x5 x6 x7 x14 h hx => by obtain ⟨a2, ha, hi⟩ := hx; exact (((((((ih a2 ha)).2).2).2).2).2).1 x0 x1 x2 x3 x4 x5 x6 x7 x14 h hi) (fun x0 x1 x2 x3 x4 x5 x6 x7 x14 h hx => by obtain ⟨a2, ha, hi⟩ := hx; exact (((((((ih a2 ha)).2).2).2).2).2).2 x0 x1 x2 x3 x4 x5 x6 x7 x14 h hi) (h429 a x0 x1 x2 x3 x4 x5 x6 x7 x14 h hi)), (fun x0 x1 x2 x3 x4 x5 x6 x7 x14 h hi => W_X12_windows_458 X Tt hR (fun x0 x1 x2 x3 x4 x5 x6 x7 h hx => by obtain ⟨a2, ha, hi⟩ := hx; exact ((ih a2 ha)).1 x0 x1 x2 x3 x4 x5 x6 x7 h hi) (fun x0 x1 x2 x3 x4 x5 x6 x7 x8 x9 x10 h hx => by obtain ⟨a2, ha, hi⟩ := hx; exact (((ih a2 ha)).2).1 x0 x1 x2 x3 x4 x5 x6 x7 x8 x9 x10 h hi) (fun x0 x1 x2 x3 x4 x5 x6 x7 x8 x9 x10 h hx => by obtain ⟨a2, ha, hi⟩ := hx; exact ((((ih a2 ha)).2).2).1 x0 x1 x2 x3 x4 x5 x6 x7 x8 x9 x10 h hi) (fun x0 x1 x2 x3 x4 x5 x6 x7 x10 x12 x14 h hx => by obtain ⟨a2, ha, hi⟩ := hx; exact (((((ih a2 ha)).2).2).2).1 x0 x1 x2 x3 x4 x5 x6 x7 x10 x12 x14 h hi) (fun x0 x1 x2 x3 x4 x5 x6 x7 x14 h hx => by obtain ⟨a2, ha, hi⟩ := hx; exact ((((((ih a2 ha)).2).2).2).2).1 x0 x1 x2 x3 x4 x5 x6 x7 x14 h hi) (fun x0 x1 x2 x3 x4 x5 x6 x7 x14 h hx => by obtain ⟨a2, ha, hi⟩ := hx; exact (((((((ih a2 ha)).2).2).2).2).2).1 x0 x1 x2 x3 x4 x5 x6 x7 x14 h hi) (fun x0 x1 x2 x3 x4 x5 x6 x7 x14 h hx => by obtain ⟨a2, ha, hi⟩ := hx; exact (((((((ih a2 ha)).2).2).2).2).2).2 x0 x1 x2 x3 x4 x5 x6 x7 x14 h hi) (h458 a x0 x1 x2 x3 x4 x5 x6 x7 x14 h hi)), (fun x0 x1 x2 x3 x4 x5 x6 x7 x14 h hi => W_X12_windows_491 X Tt hR (fun x0 x1 x2 x3 x4 x5 x6 x7 h hx => by obtain ⟨a2, ha, hi⟩ := hx; exact ((ih a2 ha)).1 x0 x1 x2 x3 x4 x5 x6 x7 h hi) (fun x0 x1 x2 x3 x4 x5 x6 x7 x8 x9 x10 h hx => by obtain ⟨a2, ha, hi⟩ := hx; exact (((ih a2 ha)).2).1 x0 x1 x2 x3 x4 x5 x6 x7 x8 x9 x10 h hi) (fun x0 x1 x2 x3 x4 x5 x6 x7 x8 x9 x10 h hx => by obtain ⟨a2, ha, hi⟩ := hx; exact ((((ih a2 ha)).2).2).1 x0 x1 x2 x3 x4 x5 x6 x7 x8 x9 x10 h hi) (fun x0 x1 x2 x3 x4 x5 x6 x7 x10 x12 x14 h hx => by obtain ⟨a2, ha, hi⟩ := hx; exact (((((ih a2 ha)).2).2).2).1 x0 x1 x2 x3 x4 x5 x6 x7 x10 x12 x14 h hi) (fun x0 x1 x2 x3 x4 x5 x6 x7 x14 h hx => by obtain ⟨a2, ha, hi⟩ := hx; exact ((((((ih a2 ha)).2).2).2).2).1 x0 x1 x2 x3 x4 x5 x6 x7 x14 h hi) (fun x0 x1 x2 x3 x4 x5 x6 x7 x14 h hx => by obtain ⟨a2, ha, hi⟩ := hx; exact (((((((ih a2 ha)).2).2).2).2).2).1 x0 x1 x2 x3 x4 x5 x6 x7 x14 h hi) (fun x0 x1 x2 x3 x4 x5 x6 x7 x14 h hx => by obtain ⟨a2, ha, hi⟩ := hx; exact (((((((ih a2 ha)).2).2).2).2).2).2 x0 x1 x2 x3 x4 x5 x6 x7 x14 h hi) (h491 a x0 x1 x2 x3 x4 x5 x6 x7 x14 h hi))⟩
    rw [show lv_args 0 [rv w.2.2.2 x0, rv w.2.2.2 x1, Value.int x2, rv w.2.2.2 x3, Value.int x4, Value.int x5, Value.int x6] = [(0, rv w.2.2.2 x0), (1, rv w.2.2.2 x1), (2, Value.int x2), (3, rv w.2.2.2 x3), (4, Value.int x4), (5, Value.int x5), (6, Value.int x6)] from by simp [lv_args, rv_cat, cat_int, cat_long]]
    refine g_lv [0, 1, 2, 3, 4, 5, 6] rfl ?_
    exact W_X12_windows_0 X Tt hR (fun x0 x1 x2 x3 x4 x5 x6 x7 h hx => by obtain ⟨a2, hi⟩ := hx; exact ((key a2)).1 x0 x1 x2 x3 x4 x5 x6 x7 h hi) (fun x0 x1 x2 x3 x4 x5 x6 x7 x8 x9 x10 h hx => by obtain ⟨a2, hi⟩ := hx; exact (((key a2)).2).1 x0 x1 x2 x3 x4 x5 x6 x7 x8 x9 x10 h hi) (fun x0 x1 x2 x3 x4 x5 x6 x7 x8 x9 x10 h hx => by obtain ⟨a2, hi⟩ := hx; exact ((((key a2)).2).2).1 x0 x1 x2 x3 x4 x5 x6 x7 x8 x9 x10 h hi) (fun x0 x1 x2 x3 x4 x5 x6 x7 x10 x12 x14 h hx => by obtain ⟨a2, hi⟩ := hx; exact (((((key a2)).2).2).2).1 x0 x1 x2 x3 x4 x5 x6 x7 x10 x12 x14 h hi) (fun x0 x1 x2 x3 x4 x5 x6 x7 x14 h hx => by obtain ⟨a2, hi⟩ := hx; exact ((((((key a2)).2).2).2).2).1 x0 x1 x2 x3 x4 x5 x6 x7 x14 h hi) (fun x0 x1 x2 x3 x4 x5 x6 x7 x14 h hx => by obtain ⟨a2, hi⟩ := hx; exact (((((((key a2)).2).2).2).2).2).1 x0 x1 x2 x3 x4 x5 x6 x7 x14 h hi) (fun x0 x1 x2 x3 x4 x5 x6 x7 x14 h hx => by obtain ⟨a2, hi⟩ := hx; exact (((((((key a2)).2).2).2).2).2).2 x0 x1 x2 x3 x4 x5 x6 x7 x14 h hi) hE)
def V_X12_make_276 (w : Wd) (sh : List Sh) (x0 : Nat) (x3 : Int32) (h : Hp) (L116 : Nat → Int32 → Int32 → Int32 → Hp → Prop) (L197 : Nat → Int32 → Int32 → Int32 → Hp → Prop) (L276 : Nat → Int32 → Hp → Prop) (RET : Int32 → Hp → Prop) : Prop :=
  shAt sh x0 = some (.inr 12) ∧ ((((h.1 x0 43) ≤ x3) → (∀ h3 : Hp, h3 = wI h x0 3 (h.1 x0 43) → (RET (h3.1 x0 3) h3))) ∧ ((¬ (h.1 x0 43) ≤ x3) → (∃ n6 : Nat, shAt sh (h.2.1 x0 42) = some (.inl (0, n6)) ∧ (vp_in x3 n6 ∧ (∃ n9 : Nat, shAt sh (h.2.1 x0 2) = some (.inl (0, n9)) ∧ (vp_in x3 n9 ∧ (∀ h11 : Hp, h11 = wI h (h.2.1 x0 2) x3.toNatClampNeg (b8 (h.1 (h.2.1 x0 42) x3.toNatClampNeg)) → (∀ y13 : Int32, y13 = x3 + (1 : Int32) → (L276 x0 y13 h11)))))))))
set_option maxRecDepth 20000 in
set_option maxHeartbeats 4000000 in
theorem W_X12_make_276 {w : Wd} {E : GE} {sh : List Sh} {x0 : Nat} {x3 : Int32} {h : Hp} {L116 : Nat → Int32 → Int32 → Int32 → Hp → Prop} {L197 : Nat → Int32 → Int32 → Int32 → Hp → Prop} {L276 : Nat → Int32 → Hp → Prop} {RET : Int32 → Hp → Prop} (X : Cx w E cX12_make 4 RX12) (Tt : Rt w E (some .int) sh.length 0 0 (fun q sh9 h9 => ∃ v : Int32, q = some (Value.int v) ∧ sh9 = sh ∧ RET v h9)) (hR : gR E = { frames := 4, cells := 0, slots := 0, locals := 111 }) (hL116 : ∀ (x0 : Nat) (x1 : Int32) (x2 : Int32) (x3 : Int32) (h : Hp), L116 x0 x1 x2 x3 h → G w E 4 116 [(0, rv w.2.2.2 x0), (1, Value.int x1), (2, Value.int x2), (3, Value.int x3)] [] sh h 0 0) (hL197 : ∀ (x0 : Nat) (x1 : Int32) (x2 : Int32) (x3 : Int32) (h : Hp), L197 x0 x1 x2 x3 h → G w E 4 197 [(0, rv w.2.2.2 x0), (1, Value.int x1), (2, Value.int x2), (3, Value.int x3)] [] sh h 0 0) (hL276 : ∀ (x0 : Nat) (x3 : Int32) (h : Hp), L276 x0 x3 h → G w E 4 276 [(0, rv w.2.2.2 x0), (3, Value.int x3)] [] sh h 0 0) (hV : V_X12_make_276 w sh x0 x3 h L116 L197 L276 RET) : G w E 4 276 [(0, rv w.2.2.2 x0), (3, Value.int x3)] [] sh h 0 0 := by
  unfold V_X12_make_276 at hV
  refine g_iload_n (pc := 276) X 1 rfl rfl dX12_make_276 ?_
  refine g_aload_n (pc := 277) X 0 rfl rfl dX12_make_277 ?_
  obtain ⟨q1, hV⟩ := hV
  refine g_getI (pc := 278) X fl_X12_264 q1 dX12_make_278 ?_
  refine g_icmp_ge (pc := 281) X 302 dX12_make_281 (by decide) (fun c2 => ?_) (fun c2 => ?_)
  · have hV := hV.1 c2
    refine g_aload_n (pc := 302) X 0 rfl rfl dX12_make_302 ?_
    refine g_aload_n (pc := 303) X 0 rfl rfl dX12_make_303 ?_
    refine g_getI (pc := 304) X fl_X12_264 q1 dX12_make_304 ?_
    refine g_putI (pc := 307) X fl_X12_135 q1 rfl rfl dX12_make_307 (fun h3 e4 => ?_)
    have hV := hV h3 e4
    refine g_aload_n (pc := 310) X 0 rfl rfl dX12_make_310 ?_
    refine g_getI (pc := 311) X fl_X12_135 q1 dX12_make_311 ?_
    exact g_iret (pc := 314) X Tt ⟨_, rfl, rfl, hV⟩ dX12_make_314
  · have hV := hV.2 c2
    refine g_aload_n (pc := 284) X 0 rfl rfl dX12_make_284 ?_
    refine g_getR (pc := 285) X fl_X12_13 q1 dX12_make_285 ?_
    refine g_iload_n (pc := 288) X 1 rfl rfl dX12_make_288 ?_
    refine g_aload_n (pc := 289) X 0 rfl rfl dX12_make_289 ?_
    refine g_getR (pc := 290) X fl_X12_77 q1 dX12_make_290 ?_
    refine g_iload_n (pc := 293) X 1 rfl rfl dX12_make_293 ?_
    obtain ⟨n6, q5, hV⟩ := hV
    obtain ⟨q7, hV⟩ := hV
    refine g_bald (pc := 294) X q5 q7 dX12_make_294 ?_
    obtain ⟨n9, q8, hV⟩ := hV
    obtain ⟨q10, hV⟩ := hV
    refine g_bast (pc := 295) X q8 q10 dX12_make_295 (fun h11 e12 => ?_)
    have hV := hV h11 e12
    refine g_iinc (pc := 296) X 1 (v := (1 : Int32)) (rest := [(0, rv w.2.2.2 x0)]) rfl (by decide) rfl (by decide) dX12_make_296 (fun y13 e14 => ?_)
    have hV := hV y13 e14
    refine g_goto (pc := 299) X 276 dX12_make_299 (by decide) ?_
    refine g_lv [1, 0] rfl ?_
    exact hL276 x0 y13 h11 hV
def V_X12_make_247 (w : Wd) (sh : List Sh) (x0 : Nat) (x1 : Int32) (s0 : Int32) (s1 : Int32) (s2 : Nat) (s3 : Int32) (s4 : Nat) (s5 : Nat) (h : Hp) (L116 : Nat → Int32 → Int32 → Int32 → Hp → Prop) (L197 : Nat → Int32 → Int32 → Int32 → Hp → Prop) (L276 : Nat → Int32 → Hp → Prop) (RET : Int32 → Hp → Prop) : Prop :=
  shAt sh s5 = some (.inr 12) ∧ (∃ P2 : Hp → Prop, C_X12_windows w sh s5 s4 s3 s2 s1 s0 x1 h P2 ∧ (∀ h5 : Hp, P2 h5 → (shAt sh x0 = some (.inr 12) ∧ ((((h5.1 x0 60) = 0) → ((((h5.1 x0 43) ≤ (8000 : Int32)) → (∀ y9 : Int32, y9 = (0 : Int32) → (L276 x0 y9 h5))) ∧ ((¬ (h5.1 x0 43) ≤ (8000 : Int32)) → (RET (-4 : Int32) h5)))) ∧ ((¬ (h5.1 x0 60) = 0) → (RET (-3 : Int32) h5))))))
set_option maxRecDepth 20000 in
set_option maxHeartbeats 4000000 in
theorem W_X12_make_247 {w : Wd} {E : GE} {sh : List Sh} {x0 : Nat} {x1 : Int32} {s0 : Int32} {s1 : Int32} {s2 : Nat} {s3 : Int32} {s4 : Nat} {s5 : Nat} {h : Hp} {L116 : Nat → Int32 → Int32 → Int32 → Hp → Prop} {L197 : Nat → Int32 → Int32 → Int32 → Hp → Prop} {L276 : Nat → Int32 → Hp → Prop} {RET : Int32 → Hp → Prop} (X : Cx w E cX12_make 4 RX12) (Tt : Rt w E (some .int) sh.length 0 0 (fun q sh9 h9 => ∃ v : Int32, q = some (Value.int v) ∧ sh9 = sh ∧ RET v h9)) (hR : gR E = { frames := 4, cells := 0, slots := 0, locals := 111 }) (hL116 : ∀ (x0 : Nat) (x1 : Int32) (x2 : Int32) (x3 : Int32) (h : Hp), L116 x0 x1 x2 x3 h → G w E 4 116 [(0, rv w.2.2.2 x0), (1, Value.int x1), (2, Value.int x2), (3, Value.int x3)] [] sh h 0 0) (hL197 : ∀ (x0 : Nat) (x1 : Int32) (x2 : Int32) (x3 : Int32) (h : Hp), L197 x0 x1 x2 x3 h → G w E 4 197 [(0, rv w.2.2.2 x0), (1, Value.int x1), (2, Value.int x2), (3, Value.int x3)] [] sh h 0 0) (hL276 : ∀ (x0 : Nat) (x3 : Int32) (h : Hp), L276 x0 x3 h → G w E 4 276 [(0, rv w.2.2.2 x0), (3, Value.int x3)] [] sh h 0 0) (hV : V_X12_make_247 w sh x0 x1 s0 s1 s2 s3 s4 s5 h L116 L197 L276 RET) : G w E 4 247 [(0, rv w.2.2.2 x0), (1, Value.int x1)] [Value.int s0, Value.int s1, rv w.2.2.2 s2, Value.int s3, rv w.2.2.2 s4, rv w.2.2.2 s5] sh h 0 0 := by
  unfold V_X12_make_247 at hV
  refine g_iload_n (pc := 247) X 1 rfl rfl dX12_make_247 ?_
  obtain ⟨q1, hV⟩ := hV
  obtain ⟨P2, t3, hV⟩ := hV
  refine g_cVV (pc := 248) X (As := [rv w.2.2.2 s4, Value.int s3, rv w.2.2.2 s2, Value.int s1, Value.int s0, Value.int x1]) ml_X12_286 rfl q1 t3 (by rw [hR]; exact ⟨by decide, by decide, by decide, by decide⟩) rfl rfl (Nat.zero_le _) dX12_make_248 (fun h5 p4 => ?_)
  have hV := hV h5 p4
  refine g_aload_n (pc := 251) X 0 rfl rfl dX12_make_251 ?_
  obtain ⟨q6, hV⟩ := hV
  refine g_getI (pc := 252) X fl_X12_277 q6 dX12_make_252 ?_
  refine g_if_eq (pc := 255) X 261 dX12_make_255 (by decide) (fun c7 => ?_) (fun c7 => ?_)
  · have hV := hV.1 c7
    refine g_aload_n (pc := 261) X 0 rfl rfl dX12_make_261 ?_
    refine g_getI (pc := 262) X fl_X12_264 q6 dX12_make_262 ?_
    refine g_sipush (pc := 265) (v := (8000 : Int32)) X dX12_make_265 (by decide) ?_
    refine g_icmp_le (pc := 268) X 274 dX12_make_268 (by decide) (fun c8 => ?_) (fun c8 => ?_)
    · have hV := hV.1 c8
      refine g_iconst (pc := 274) (v := (0 : Int32)) X dX12_make_274 (by decide) ?_
      refine g_istore_n (pc := 275) X (i := 3) (rest := [(0, rv w.2.2.2 x0), (1, Value.int x1)]) rfl (by decide) rfl dX12_make_275 (fun y9 e10 => ?_)
      have hV := hV y9 e10
      refine g_lv [1, 0] rfl ?_
      exact hL276 x0 y9 h5 hV
    · have hV := hV.2 c8
      refine g_bipush (pc := 271) (v := (-4 : Int32)) X dX12_make_271 (by decide) ?_
      exact g_iret (pc := 273) X Tt ⟨_, rfl, rfl, hV⟩ dX12_make_273
  · have hV := hV.2 c7
    refine g_bipush (pc := 258) (v := (-3 : Int32)) X dX12_make_258 (by decide) ?_
    exact g_iret (pc := 260) X Tt ⟨_, rfl, rfl, hV⟩ dX12_make_260
def V_X12_make_221 (w : Wd) (sh : List Sh) (x0 : Nat) (x1 : Int32) (x2 : Int32) (h : Hp) (L116 : Nat → Int32 → Int32 → Int32 → Hp → Prop) (L197 : Nat → Int32 → Int32 → Int32 → Hp → Prop) (L276 : Nat → Int32 → Hp → Prop) (RET : Int32 → Hp → Prop) : Prop :=
  shAt sh x0 = some (.inr 12) ∧ (((x2 = 0) → (V_X12_make_247 w sh x0 x1 (0 : Int32) (h.1 x0 5) (h.2.1 x0 4) (h.1 x0 1) (h.2.1 x0 0) x0 h L116 L197 L276 RET)) ∧ ((¬ x2 = 0) → (V_X12_make_247 w sh x0 x1 (2 : Int32) (h.1 x0 5) (h.2.1 x0 4) (h.1 x0 1) (h.2.1 x0 0) x0 h L116 L197 L276 RET)))
set_option maxRecDepth 20000 in
set_option maxHeartbeats 4000000 in
theorem W_X12_make_221 {w : Wd} {E : GE} {sh : List Sh} {x0 : Nat} {x1 : Int32} {x2 : Int32} {h : Hp} {L116 : Nat → Int32 → Int32 → Int32 → Hp → Prop} {L197 : Nat → Int32 → Int32 → Int32 → Hp → Prop} {L276 : Nat → Int32 → Hp → Prop} {RET : Int32 → Hp → Prop} (X : Cx w E cX12_make 4 RX12) (Tt : Rt w E (some .int) sh.length 0 0 (fun q sh9 h9 => ∃ v : Int32, q = some (Value.int v) ∧ sh9 = sh ∧ RET v h9)) (hR : gR E = { frames := 4, cells := 0, slots := 0, locals := 111 }) (hL116 : ∀ (x0 : Nat) (x1 : Int32) (x2 : Int32) (x3 : Int32) (h : Hp), L116 x0 x1 x2 x3 h → G w E 4 116 [(0, rv w.2.2.2 x0), (1, Value.int x1), (2, Value.int x2), (3, Value.int x3)] [] sh h 0 0) (hL197 : ∀ (x0 : Nat) (x1 : Int32) (x2 : Int32) (x3 : Int32) (h : Hp), L197 x0 x1 x2 x3 h → G w E 4 197 [(0, rv w.2.2.2 x0), (1, Value.int x1), (2, Value.int x2), (3, Value.int x3)] [] sh h 0 0) (hL276 : ∀ (x0 : Nat) (x3 : Int32) (h : Hp), L276 x0 x3 h → G w E 4 276 [(0, rv w.2.2.2 x0), (3, Value.int x3)] [] sh h 0 0) (hV : V_X12_make_221 w sh x0 x1 x2 h L116 L197 L276 RET) : G w E 4 221 [(0, rv w.2.2.2 x0), (1, Value.int x1), (2, Value.int x2)] [] sh h 0 0 := by
  unfold V_X12_make_221 at hV
  refine g_aload_n (pc := 221) X 0 rfl rfl dX12_make_221 ?_
  refine g_aload_n (pc := 222) X 0 rfl rfl dX12_make_222 ?_
  obtain ⟨q1, hV⟩ := hV
  refine g_getR (pc := 223) X fl_X12_7 q1 dX12_make_223 ?_
  refine g_aload_n (pc := 226) X 0 rfl rfl dX12_make_226 ?_
  refine g_getI (pc := 227) X fl_X12_130 q1 dX12_make_227 ?_
  refine g_aload_n (pc := 230) X 0 rfl rfl dX12_make_230 ?_
  refine g_getR (pc := 231) X fl_X12_16 q1 dX12_make_231 ?_
  refine g_aload_n (pc := 234) X 0 rfl rfl dX12_make_234 ?_
  refine g_getI (pc := 235) X fl_X12_138 q1 dX12_make_235 ?_
  refine g_iload_n (pc := 238) X 2 rfl rfl dX12_make_238 ?_
  refine g_if_eq (pc := 239) X 246 dX12_make_239 (by decide) (fun c2 => ?_) (fun c2 => ?_)
  · have hV := hV.1 c2
    refine g_iconst (pc := 246) (v := (0 : Int32)) X dX12_make_246 (by decide) ?_
    refine g_lv [0, 1] rfl ?_
    exact W_X12_make_247 X Tt hR hL116 hL197 hL276 hV
  · have hV := hV.2 c2
    refine g_iconst (pc := 242) (v := (2 : Int32)) X dX12_make_242 (by decide) ?_
    refine g_goto (pc := 243) X 247 dX12_make_243 (by decide) ?_
    refine g_lv [0, 1] rfl ?_
    exact W_X12_make_247 X Tt hR hL116 hL197 hL276 hV
def V_X12_make_197 (w : Wd) (sh : List Sh) (x0 : Nat) (x1 : Int32) (x2 : Int32) (x3 : Int32) (h : Hp) (L116 : Nat → Int32 → Int32 → Int32 → Hp → Prop) (L197 : Nat → Int32 → Int32 → Int32 → Hp → Prop) (L276 : Nat → Int32 → Hp → Prop) (RET : Int32 → Hp → Prop) : Prop :=
  shAt sh x0 = some (.inr 12) ∧ ((((h.1 x0 45) ≤ x3) → (V_X12_make_221 w sh x0 x1 x2 h L116 L197 L276 RET)) ∧ ((¬ (h.1 x0 45) ≤ x3) → (∃ n4 : Nat, shAt sh (h.2.1 x0 44) = some (.inl (0, n4)) ∧ (vp_in x3 n4 ∧ (∃ P6 : Hp → Prop, C_X12_say w sh x0 (b8 (h.1 (h.2.1 x0 44) x3.toNatClampNeg)) h P6 ∧ (∀ h9 : Hp, P6 h9 → (∀ y10 : Int32, y10 = x3 + (1 : Int32) → (L197 x0 x1 x2 y10 h9))))))))
set_option maxRecDepth 20000 in
set_option maxHeartbeats 4000000 in
theorem W_X12_make_197 {w : Wd} {E : GE} {sh : List Sh} {x0 : Nat} {x1 : Int32} {x2 : Int32} {x3 : Int32} {h : Hp} {L116 : Nat → Int32 → Int32 → Int32 → Hp → Prop} {L197 : Nat → Int32 → Int32 → Int32 → Hp → Prop} {L276 : Nat → Int32 → Hp → Prop} {RET : Int32 → Hp → Prop} (X : Cx w E cX12_make 4 RX12) (Tt : Rt w E (some .int) sh.length 0 0 (fun q sh9 h9 => ∃ v : Int32, q = some (Value.int v) ∧ sh9 = sh ∧ RET v h9)) (hR : gR E = { frames := 4, cells := 0, slots := 0, locals := 111 }) (hL116 : ∀ (x0 : Nat) (x1 : Int32) (x2 : Int32) (x3 : Int32) (h : Hp), L116 x0 x1 x2 x3 h → G w E 4 116 [(0, rv w.2.2.2 x0), (1, Value.int x1), (2, Value.int x2), (3, Value.int x3)] [] sh h 0 0) (hL197 : ∀ (x0 : Nat) (x1 : Int32) (x2 : Int32) (x3 : Int32) (h : Hp), L197 x0 x1 x2 x3 h → G w E 4 197 [(0, rv w.2.2.2 x0), (1, Value.int x1), (2, Value.int x2), (3, Value.int x3)] [] sh h 0 0) (hL276 : ∀ (x0 : Nat) (x3 : Int32) (h : Hp), L276 x0 x3 h → G w E 4 276 [(0, rv w.2.2.2 x0), (3, Value.int x3)] [] sh h 0 0) (hV : V_X12_make_197 w sh x0 x1 x2 x3 h L116 L197 L276 RET) : G w E 4 197 [(0, rv w.2.2.2 x0), (1, Value.int x1), (2, Value.int x2), (3, Value.int x3)] [] sh h 0 0 := by
  unfold V_X12_make_197 at hV
  refine g_iload_n (pc := 197) X 3 rfl rfl dX12_make_197 ?_
  refine g_aload_n (pc := 198) X 0 rfl rfl dX12_make_198 ?_
  obtain ⟨q1, hV⟩ := hV
  refine g_getI (pc := 199) X fl_X12_280 q1 dX12_make_199 ?_
  refine g_icmp_ge (pc := 202) X 221 dX12_make_202 (by decide) (fun c2 => ?_) (fun c2 => ?_)
  · have hV := hV.1 c2
    refine g_lv [0, 1, 2] rfl ?_
    exact W_X12_make_221 X Tt hR hL116 hL197 hL276 hV
  · have hV := hV.2 c2
    refine g_aload_n (pc := 205) X 0 rfl rfl dX12_make_205 ?_
    refine g_aload_n (pc := 206) X 0 rfl rfl dX12_make_206 ?_
    refine g_getR (pc := 207) X fl_X12_80 q1 dX12_make_207 ?_
    refine g_iload_n (pc := 210) X 3 rfl rfl dX12_make_210 ?_
    obtain ⟨n4, q3, hV⟩ := hV
    obtain ⟨q5, hV⟩ := hV
    refine g_bald (pc := 211) X q3 q5 dX12_make_211 ?_
    obtain ⟨P6, t7, hV⟩ := hV
    refine g_cVV (pc := 212) X (As := [Value.int (b8 (h.1 (h.2.1 x0 44) x3.toNatClampNeg))]) ml_X12_273 rfl q1 t7 (by rw [hR]; exact ⟨by decide, by decide, by decide, by decide⟩) rfl rfl (Nat.zero_le _) dX12_make_212 (fun h9 p8 => ?_)
    have hV := hV h9 p8
    refine g_iinc (pc := 215) X 3 (v := (1 : Int32)) (rest := [(0, rv w.2.2.2 x0), (1, Value.int x1), (2, Value.int x2)]) rfl (by decide) rfl (by decide) dX12_make_215 (fun y10 e11 => ?_)
    have hV := hV y10 e11
    refine g_goto (pc := 218) X 197 dX12_make_218 (by decide) ?_
    refine g_lv [1, 2, 3, 0] rfl ?_
    exact hL197 x0 x1 x2 y10 h9 hV
def V_X12_make_157 (w : Wd) (sh : List Sh) (x0 : Nat) (x1 : Int32) (x2 : Int32) (s0 : Int32) (s1 : Nat) (h : Hp) (L116 : Nat → Int32 → Int32 → Int32 → Hp → Prop) (L197 : Nat → Int32 → Int32 → Int32 → Hp → Prop) (L276 : Nat → Int32 → Hp → Prop) (RET : Int32 → Hp → Prop) : Prop :=
  shAt sh s1 = some (.inr 12) ∧ (∃ P2 : Hp → Prop, C_X12_sayHead w sh s1 s0 h P2 ∧ (∀ h5 : Hp, P2 h5 → (((x2 = 0) → (V_X12_make_221 w sh x0 x1 x2 h5 L116 L197 L276 RET)) ∧ ((¬ x2 = 0) → (shAt sh x0 = some (.inr 12) ∧ (∃ P8 : Hp → Prop, C_X12_sayBig w sh x0 (((2 : Int32) + (h5.1 x0 45)).toInt64) h5 P8 ∧ (∀ h11 : Hp, P8 h11 → (∃ n13 : Nat, shAt sh (h11.2.1 x0 10) = some (.inl (1, n13)) ∧ (vp_in (2 : Int32) n13 ∧ (∃ P15 : Hp → Prop, C_X12_say w sh x0 (h11.1 (h11.2.1 x0 10) (2 : Int32).toNatClampNeg) h11 P15 ∧ (∀ h18 : Hp, P15 h18 → (∃ n20 : Nat, shAt sh (h18.2.1 x0 11) = some (.inl (1, n20)) ∧ (vp_in (2 : Int32) n20 ∧ (∃ P22 : Hp → Prop, C_X12_say w sh x0 (h18.1 (h18.2.1 x0 11) (2 : Int32).toNatClampNeg) h18 P22 ∧ (∀ h25 : Hp, P22 h25 → (∀ y26 : Int32, y26 = (0 : Int32) → (L197 x0 x1 x2 y26 h25)))))))))))))))))
set_option maxRecDepth 20000 in
set_option maxHeartbeats 4000000 in
theorem W_X12_make_157 {w : Wd} {E : GE} {sh : List Sh} {x0 : Nat} {x1 : Int32} {x2 : Int32} {s0 : Int32} {s1 : Nat} {h : Hp} {L116 : Nat → Int32 → Int32 → Int32 → Hp → Prop} {L197 : Nat → Int32 → Int32 → Int32 → Hp → Prop} {L276 : Nat → Int32 → Hp → Prop} {RET : Int32 → Hp → Prop} (X : Cx w E cX12_make 4 RX12) (Tt : Rt w E (some .int) sh.length 0 0 (fun q sh9 h9 => ∃ v : Int32, q = some (Value.int v) ∧ sh9 = sh ∧ RET v h9)) (hR : gR E = { frames := 4, cells := 0, slots := 0, locals := 111 }) (hL116 : ∀ (x0 : Nat) (x1 : Int32) (x2 : Int32) (x3 : Int32) (h : Hp), L116 x0 x1 x2 x3 h → G w E 4 116 [(0, rv w.2.2.2 x0), (1, Value.int x1), (2, Value.int x2), (3, Value.int x3)] [] sh h 0 0) (hL197 : ∀ (x0 : Nat) (x1 : Int32) (x2 : Int32) (x3 : Int32) (h : Hp), L197 x0 x1 x2 x3 h → G w E 4 197 [(0, rv w.2.2.2 x0), (1, Value.int x1), (2, Value.int x2), (3, Value.int x3)] [] sh h 0 0) (hL276 : ∀ (x0 : Nat) (x3 : Int32) (h : Hp), L276 x0 x3 h → G w E 4 276 [(0, rv w.2.2.2 x0), (3, Value.int x3)] [] sh h 0 0) (hV : V_X12_make_157 w sh x0 x1 x2 s0 s1 h L116 L197 L276 RET) : G w E 4 157 [(0, rv w.2.2.2 x0), (1, Value.int x1), (2, Value.int x2)] [Value.int s0, rv w.2.2.2 s1] sh h 0 0 := by
  unfold V_X12_make_157 at hV
  obtain ⟨q1, hV⟩ := hV
  obtain ⟨P2, t3, hV⟩ := hV
  refine g_cVV (pc := 157) X (As := [Value.int s0]) ml_X12_283 rfl q1 t3 (by rw [hR]; exact ⟨by decide, by decide, by decide, by decide⟩) rfl rfl (Nat.zero_le _) dX12_make_157 (fun h5 p4 => ?_)
  have hV := hV h5 p4
  refine g_iload_n (pc := 160) X 2 rfl rfl dX12_make_160 ?_
  refine g_if_eq (pc := 161) X 221 dX12_make_161 (by decide) (fun c6 => ?_) (fun c6 => ?_)
  · have hV := hV.1 c6
    exact W_X12_make_221 X Tt hR hL116 hL197 hL276 hV
  · have hV := hV.2 c6
    refine g_aload_n (pc := 164) X 0 rfl rfl dX12_make_164 ?_
    refine g_iconst (pc := 165) (v := (2 : Int32)) X dX12_make_165 (by decide) ?_
    refine g_aload_n (pc := 166) X 0 rfl rfl dX12_make_166 ?_
    obtain ⟨q7, hV⟩ := hV
    refine g_getI (pc := 167) X fl_X12_280 q7 dX12_make_167 ?_
    refine g_iadd (pc := 170) X dX12_make_170 ?_
    refine g_i2l (pc := 171) X dX12_make_171 ?_
    obtain ⟨P8, t9, hV⟩ := hV
    refine g_cVV (pc := 172) X (As := [Value.long (((2 : Int32) + (h5.1 x0 45)).toInt64)]) ml_X12_290 rfl q7 t9 (by rw [hR]; exact ⟨by decide, by decide, by decide, by decide⟩) rfl rfl (Nat.zero_le _) dX12_make_172 (fun h11 p10 => ?_)
    have hV := hV h11 p10
    refine g_aload_n (pc := 175) X 0 rfl rfl dX12_make_175 ?_
    refine g_aload_n (pc := 176) X 0 rfl rfl dX12_make_176 ?_
    refine g_getR (pc := 177) X fl_X12_27 q7 dX12_make_177 ?_
    refine g_iconst (pc := 180) (v := (2 : Int32)) X dX12_make_180 (by decide) ?_
    obtain ⟨n13, q12, hV⟩ := hV
    obtain ⟨q14, hV⟩ := hV
    refine g_iald (pc := 181) X q12 q14 dX12_make_181 ?_
    obtain ⟨P15, t16, hV⟩ := hV
    refine g_cVV (pc := 182) X (As := [Value.int (h11.1 (h11.2.1 x0 10) (2 : Int32).toNatClampNeg)]) ml_X12_273 rfl q7 t16 (by rw [hR]; exact ⟨by decide, by decide, by decide, by decide⟩) rfl rfl (Nat.zero_le _) dX12_make_182 (fun h18 p17 => ?_)
    have hV := hV h18 p17
    refine g_aload_n (pc := 185) X 0 rfl rfl dX12_make_185 ?_
    refine g_aload_n (pc := 186) X 0 rfl rfl dX12_make_186 ?_
    refine g_getR (pc := 187) X fl_X12_30 q7 dX12_make_187 ?_
    refine g_iconst (pc := 190) (v := (2 : Int32)) X dX12_make_190 (by decide) ?_
    obtain ⟨n20, q19, hV⟩ := hV
    obtain ⟨q21, hV⟩ := hV
    refine g_iald (pc := 191) X q19 q21 dX12_make_191 ?_
    obtain ⟨P22, t23, hV⟩ := hV
    refine g_cVV (pc := 192) X (As := [Value.int (h18.1 (h18.2.1 x0 11) (2 : Int32).toNatClampNeg)]) ml_X12_273 rfl q7 t23 (by rw [hR]; exact ⟨by decide, by decide, by decide, by decide⟩) rfl rfl (Nat.zero_le _) dX12_make_192 (fun h25 p24 => ?_)
    have hV := hV h25 p24
    refine g_iconst (pc := 195) (v := (0 : Int32)) X dX12_make_195 (by decide) ?_
    refine g_istore_n (pc := 196) X (i := 3) (rest := [(0, rv w.2.2.2 x0), (1, Value.int x1), (2, Value.int x2)]) rfl (by decide) rfl dX12_make_196 (fun y26 e27 => ?_)
    have hV := hV y26 e27
    refine g_lv [1, 2, 3, 0] rfl ?_
    exact hL197 x0 x1 x2 y26 h25 hV
def V_X12_make_142 (w : Wd) (sh : List Sh) (x0 : Nat) (x1 : Int32) (x2 : Int32) (h : Hp) (L116 : Nat → Int32 → Int32 → Int32 → Hp → Prop) (L197 : Nat → Int32 → Int32 → Int32 → Hp → Prop) (L276 : Nat → Int32 → Hp → Prop) (RET : Int32 → Hp → Prop) : Prop :=
  shAt sh x0 = some (.inr 12) ∧ (∀ h2 : Hp, h2 = wI h x0 43 (0 : Int32) → (((x2 = 0) → (V_X12_make_157 w sh x0 x1 x2 (0 : Int32) x0 h2 L116 L197 L276 RET)) ∧ ((¬ x2 = 0) → (V_X12_make_157 w sh x0 x1 x2 (2 : Int32) x0 h2 L116 L197 L276 RET))))
set_option maxRecDepth 20000 in
set_option maxHeartbeats 4000000 in
theorem W_X12_make_142 {w : Wd} {E : GE} {sh : List Sh} {x0 : Nat} {x1 : Int32} {x2 : Int32} {h : Hp} {L116 : Nat → Int32 → Int32 → Int32 → Hp → Prop} {L197 : Nat → Int32 → Int32 → Int32 → Hp → Prop} {L276 : Nat → Int32 → Hp → Prop} {RET : Int32 → Hp → Prop} (X : Cx w E cX12_make 4 RX12) (Tt : Rt w E (some .int) sh.length 0 0 (fun q sh9 h9 => ∃ v : Int32, q = some (Value.int v) ∧ sh9 = sh ∧ RET v h9)) (hR : gR E = { frames := 4, cells := 0, slots := 0, locals := 111 }) (hL116 : ∀ (x0 : Nat) (x1 : Int32) (x2 : Int32) (x3 : Int32) (h : Hp), L116 x0 x1 x2 x3 h → G w E 4 116 [(0, rv w.2.2.2 x0), (1, Value.int x1), (2, Value.int x2), (3, Value.int x3)] [] sh h 0 0) (hL197 : ∀ (x0 : Nat) (x1 : Int32) (x2 : Int32) (x3 : Int32) (h : Hp), L197 x0 x1 x2 x3 h → G w E 4 197 [(0, rv w.2.2.2 x0), (1, Value.int x1), (2, Value.int x2), (3, Value.int x3)] [] sh h 0 0) (hL276 : ∀ (x0 : Nat) (x3 : Int32) (h : Hp), L276 x0 x3 h → G w E 4 276 [(0, rv w.2.2.2 x0), (3, Value.int x3)] [] sh h 0 0) (hV : V_X12_make_142 w sh x0 x1 x2 h L116 L197 L276 RET) : G w E 4 142 [(0, rv w.2.2.2 x0), (1, Value.int x1), (2, Value.int x2)] [] sh h 0 0 := by
  unfold V_X12_make_142 at hV
  refine g_aload_n (pc := 142) X 0 rfl rfl dX12_make_142 ?_
  refine g_iconst (pc := 143) (v := (0 : Int32)) X dX12_make_143 (by decide) ?_
  obtain ⟨q1, hV⟩ := hV
  refine g_putI (pc := 144) X fl_X12_264 q1 rfl rfl dX12_make_144 (fun h2 e3 => ?_)
  have hV := hV h2 e3
  refine g_aload_n (pc := 147) X 0 rfl rfl dX12_make_147 ?_
  refine g_iload_n (pc := 148) X 2 rfl rfl dX12_make_148 ?_
  refine g_if_eq (pc := 149) X 156 dX12_make_149 (by decide) (fun c4 => ?_) (fun c4 => ?_)
  · have hV := hV.1 c4
    refine g_iconst (pc := 156) (v := (0 : Int32)) X dX12_make_156 (by decide) ?_
    exact W_X12_make_157 X Tt hR hL116 hL197 hL276 hV
  · have hV := hV.2 c4
    refine g_iconst (pc := 152) (v := (2 : Int32)) X dX12_make_152 (by decide) ?_
    refine g_goto (pc := 153) X 157 dX12_make_153 (by decide) ?_
    exact W_X12_make_157 X Tt hR hL116 hL197 hL276 hV
def V_X12_make_116 (w : Wd) (sh : List Sh) (x0 : Nat) (x1 : Int32) (x2 : Int32) (x3 : Int32) (h : Hp) (L116 : Nat → Int32 → Int32 → Int32 → Hp → Prop) (L197 : Nat → Int32 → Int32 → Int32 → Hp → Prop) (L276 : Nat → Int32 → Hp → Prop) (RET : Int32 → Hp → Prop) : Prop :=
  shAt sh x0 = some (.inr 12) ∧ ((((h.1 x0 45) ≤ x3) → (V_X12_make_142 w sh x0 x1 x2 h L116 L197 L276 RET)) ∧ ((¬ (h.1 x0 45) ≤ x3) → (∃ n4 : Nat, shAt sh (h.2.1 x0 42) = some (.inl (0, n4)) ∧ (vp_in x3 n4 ∧ (∃ n7 : Nat, shAt sh (h.2.1 x0 44) = some (.inl (0, n7)) ∧ (vp_in x3 n7 ∧ (∀ h9 : Hp, h9 = wI h (h.2.1 x0 44) x3.toNatClampNeg (b8 (h.1 (h.2.1 x0 42) x3.toNatClampNeg)) → (∀ y11 : Int32, y11 = x3 + (1 : Int32) → (L116 x0 x1 x2 y11 h9)))))))))
set_option maxRecDepth 20000 in
set_option maxHeartbeats 4000000 in
theorem W_X12_make_116 {w : Wd} {E : GE} {sh : List Sh} {x0 : Nat} {x1 : Int32} {x2 : Int32} {x3 : Int32} {h : Hp} {L116 : Nat → Int32 → Int32 → Int32 → Hp → Prop} {L197 : Nat → Int32 → Int32 → Int32 → Hp → Prop} {L276 : Nat → Int32 → Hp → Prop} {RET : Int32 → Hp → Prop} (X : Cx w E cX12_make 4 RX12) (Tt : Rt w E (some .int) sh.length 0 0 (fun q sh9 h9 => ∃ v : Int32, q = some (Value.int v) ∧ sh9 = sh ∧ RET v h9)) (hR : gR E = { frames := 4, cells := 0, slots := 0, locals := 111 }) (hL116 : ∀ (x0 : Nat) (x1 : Int32) (x2 : Int32) (x3 : Int32) (h : Hp), L116 x0 x1 x2 x3 h → G w E 4 116 [(0, rv w.2.2.2 x0), (1, Value.int x1), (2, Value.int x2), (3, Value.int x3)] [] sh h 0 0) (hL197 : ∀ (x0 : Nat) (x1 : Int32) (x2 : Int32) (x3 : Int32) (h : Hp), L197 x0 x1 x2 x3 h → G w E 4 197 [(0, rv w.2.2.2 x0), (1, Value.int x1), (2, Value.int x2), (3, Value.int x3)] [] sh h 0 0) (hL276 : ∀ (x0 : Nat) (x3 : Int32) (h : Hp), L276 x0 x3 h → G w E 4 276 [(0, rv w.2.2.2 x0), (3, Value.int x3)] [] sh h 0 0) (hV : V_X12_make_116 w sh x0 x1 x2 x3 h L116 L197 L276 RET) : G w E 4 116 [(0, rv w.2.2.2 x0), (1, Value.int x1), (2, Value.int x2), (3, Value.int x3)] [] sh h 0 0 := by
  unfold V_X12_make_116 at hV
  refine g_iload_n (pc := 116) X 3 rfl rfl dX12_make_116 ?_
  refine g_aload_n (pc := 117) X 0 rfl rfl dX12_make_117 ?_
  obtain ⟨q1, hV⟩ := hV
  refine g_getI (pc := 118) X fl_X12_280 q1 dX12_make_118 ?_
  refine g_icmp_ge (pc := 121) X 142 dX12_make_121 (by decide) (fun c2 => ?_) (fun c2 => ?_)
  · have hV := hV.1 c2
    refine g_lv [0, 1, 2] rfl ?_
    exact W_X12_make_142 X Tt hR hL116 hL197 hL276 hV
  · have hV := hV.2 c2
    refine g_aload_n (pc := 124) X 0 rfl rfl dX12_make_124 ?_
    refine g_getR (pc := 125) X fl_X12_80 q1 dX12_make_125 ?_
    refine g_iload_n (pc := 128) X 3 rfl rfl dX12_make_128 ?_
    refine g_aload_n (pc := 129) X 0 rfl rfl dX12_make_129 ?_
    refine g_getR (pc := 130) X fl_X12_77 q1 dX12_make_130 ?_
    refine g_iload_n (pc := 133) X 3 rfl rfl dX12_make_133 ?_
    obtain ⟨n4, q3, hV⟩ := hV
    obtain ⟨q5, hV⟩ := hV
    refine g_bald (pc := 134) X q3 q5 dX12_make_134 ?_
    obtain ⟨n7, q6, hV⟩ := hV
    obtain ⟨q8, hV⟩ := hV
    refine g_bast (pc := 135) X q6 q8 dX12_make_135 (fun h9 e10 => ?_)
    have hV := hV h9 e10
    refine g_iinc (pc := 136) X 3 (v := (1 : Int32)) (rest := [(0, rv w.2.2.2 x0), (1, Value.int x1), (2, Value.int x2)]) rfl (by decide) rfl (by decide) dX12_make_136 (fun y11 e12 => ?_)
    have hV := hV y11 e12
    refine g_goto (pc := 139) X 116 dX12_make_139 (by decide) ?_
    refine g_lv [1, 2, 3, 0] rfl ?_
    exact hL116 x0 x1 x2 y11 h9 hV
def V_X12_make_40 (w : Wd) (sh : List Sh) (x0 : Nat) (x1 : Int32) (x2 : Int32) (h : Hp) (L116 : Nat → Int32 → Int32 → Int32 → Hp → Prop) (L197 : Nat → Int32 → Int32 → Int32 → Hp → Prop) (L276 : Nat → Int32 → Hp → Prop) (RET : Int32 → Hp → Prop) : Prop :=
  shAt sh x0 = some (.inr 12) ∧ ((((h.1 x0 1) ≤ (6000 : Int32)) → (∀ h3 : Hp, h3 = wI h x0 60 (0 : Int32) → (∀ h5 : Hp, h5 = wI h3 x0 45 (0 : Int32) → (((x2 = 0) → (V_X12_make_142 w sh x0 x1 x2 h5 L116 L197 L276 RET)) ∧ ((¬ x2 = 0) → (∃ P8 : Hp → Prop, C_X12_asBytes w sh x0 (2 : Int32) (h.2.1 x0 46) h5 P8 ∧ (∀ h11 : Hp, P8 h11 → (∀ h12 : Hp, h12 = wI h11 x0 43 (0 : Int32) → (∃ P14 : Hp → Prop, C_X12_sayHead w sh x0 (0 : Int32) h12 P14 ∧ (∀ h17 : Hp, P14 h17 → (∃ P18 : Hp → Prop, C_X12_windows w sh x0 (h17.2.1 x0 46) (1536 : Int32) (h17.2.1 x0 12) (1536 : Int32) (0 : Int32) (0 : Int32) h17 P18 ∧ (∀ h21 : Hp, P18 h21 → (∀ h22 : Hp, h22 = wI h21 x0 45 (h21.1 x0 43) → (∀ y24 : Int32, y24 = (0 : Int32) → (L116 x0 x1 x2 y24 h22))))))))))))))) ∧ ((¬ (h.1 x0 1) ≤ (6000 : Int32)) → (RET (-4 : Int32) h)))
set_option maxRecDepth 20000 in
set_option maxHeartbeats 4000000 in
theorem W_X12_make_40 {w : Wd} {E : GE} {sh : List Sh} {x0 : Nat} {x1 : Int32} {x2 : Int32} {h : Hp} {L116 : Nat → Int32 → Int32 → Int32 → Hp → Prop} {L197 : Nat → Int32 → Int32 → Int32 → Hp → Prop} {L276 : Nat → Int32 → Hp → Prop} {RET : Int32 → Hp → Prop} (X : Cx w E cX12_make 4 RX12) (Tt : Rt w E (some .int) sh.length 0 0 (fun q sh9 h9 => ∃ v : Int32, q = some (Value.int v) ∧ sh9 = sh ∧ RET v h9)) (hR : gR E = { frames := 4, cells := 0, slots := 0, locals := 111 }) (hL116 : ∀ (x0 : Nat) (x1 : Int32) (x2 : Int32) (x3 : Int32) (h : Hp), L116 x0 x1 x2 x3 h → G w E 4 116 [(0, rv w.2.2.2 x0), (1, Value.int x1), (2, Value.int x2), (3, Value.int x3)] [] sh h 0 0) (hL197 : ∀ (x0 : Nat) (x1 : Int32) (x2 : Int32) (x3 : Int32) (h : Hp), L197 x0 x1 x2 x3 h → G w E 4 197 [(0, rv w.2.2.2 x0), (1, Value.int x1), (2, Value.int x2), (3, Value.int x3)] [] sh h 0 0) (hL276 : ∀ (x0 : Nat) (x3 : Int32) (h : Hp), L276 x0 x3 h → G w E 4 276 [(0, rv w.2.2.2 x0), (3, Value.int x3)] [] sh h 0 0) (hV : V_X12_make_40 w sh x0 x1 x2 h L116 L197 L276 RET) : G w E 4 40 [(0, rv w.2.2.2 x0), (1, Value.int x1), (2, Value.int x2)] [] sh h 0 0 := by
  unfold V_X12_make_40 at hV
  refine g_aload_n (pc := 40) X 0 rfl rfl dX12_make_40 ?_
  obtain ⟨q1, hV⟩ := hV
  refine g_getI (pc := 41) X fl_X12_130 q1 dX12_make_41 ?_
  refine g_sipush (pc := 44) (v := (6000 : Int32)) X dX12_make_44 (by decide) ?_
  refine g_icmp_le (pc := 47) X 53 dX12_make_47 (by decide) (fun c2 => ?_) (fun c2 => ?_)
  · have hV := hV.1 c2
    refine g_aload_n (pc := 53) X 0 rfl rfl dX12_make_53 ?_
    refine g_iconst (pc := 54) (v := (0 : Int32)) X dX12_make_54 (by decide) ?_
    refine g_putI (pc := 55) X fl_X12_277 q1 rfl rfl dX12_make_55 (fun h3 e4 => ?_)
    have hV := hV h3 e4
    refine g_aload_n (pc := 58) X 0 rfl rfl dX12_make_58 ?_
    refine g_iconst (pc := 59) (v := (0 : Int32)) X dX12_make_59 (by decide) ?_
    refine g_putI (pc := 60) X fl_X12_280 q1 rfl rfl dX12_make_60 (fun h5 e6 => ?_)
    have hV := hV h5 e6
    refine g_iload_n (pc := 63) X 2 rfl rfl dX12_make_63 ?_
    refine g_if_eq (pc := 64) X 142 dX12_make_64 (by decide) (fun c7 => ?_) (fun c7 => ?_)
    · have hV := hV.1 c7
      exact W_X12_make_142 X Tt hR hL116 hL197 hL276 hV
    · have hV := hV.2 c7
      refine g_aload_n (pc := 67) X 0 rfl rfl dX12_make_67 ?_
      refine g_iconst (pc := 68) (v := (2 : Int32)) X dX12_make_68 (by decide) ?_
      refine g_aload_n (pc := 69) X 0 rfl rfl dX12_make_69 ?_
      refine g_getRe (pc := 70) X fl_X12_83 q1 (congrFun (congrFun ((rfI e6).trans (rfI e4)) _) _) dX12_make_70 ?_
      obtain ⟨P8, t9, hV⟩ := hV
      refine g_cVV (pc := 73) X (As := [Value.int (2 : Int32), rv w.2.2.2 (h.2.1 x0 46)]) ml_X12_118 rfl q1 t9 (by rw [hR]; exact ⟨by decide, by decide, by decide, by decide⟩) rfl rfl (Nat.zero_le _) dX12_make_73 (fun h11 p10 => ?_)
      have hV := hV h11 p10
      refine g_aload_n (pc := 76) X 0 rfl rfl dX12_make_76 ?_
      refine g_iconst (pc := 77) (v := (0 : Int32)) X dX12_make_77 (by decide) ?_
      refine g_putI (pc := 78) X fl_X12_264 q1 rfl rfl dX12_make_78 (fun h12 e13 => ?_)
      have hV := hV h12 e13
      refine g_aload_n (pc := 81) X 0 rfl rfl dX12_make_81 ?_
      refine g_iconst (pc := 82) (v := (0 : Int32)) X dX12_make_82 (by decide) ?_
      obtain ⟨P14, t15, hV⟩ := hV
      refine g_cVV (pc := 83) X (As := [Value.int (0 : Int32)]) ml_X12_283 rfl q1 t15 (by rw [hR]; exact ⟨by decide, by decide, by decide, by decide⟩) rfl rfl (Nat.zero_le _) dX12_make_83 (fun h17 p16 => ?_)
      have hV := hV h17 p16
      refine g_aload_n (pc := 86) X 0 rfl rfl dX12_make_86 ?_
      refine g_aload_n (pc := 87) X 0 rfl rfl dX12_make_87 ?_
      refine g_getR (pc := 88) X fl_X12_83 q1 dX12_make_88 ?_
      refine g_sipush (pc := 91) (v := (1536 : Int32)) X dX12_make_91 (by decide) ?_
      refine g_aload_n (pc := 94) X 0 rfl rfl dX12_make_94 ?_
      refine g_getR (pc := 95) X fl_X12_33 q1 dX12_make_95 ?_
      refine g_sipush (pc := 98) (v := (1536 : Int32)) X dX12_make_98 (by decide) ?_
      refine g_iconst (pc := 101) (v := (0 : Int32)) X dX12_make_101 (by decide) ?_
      refine g_iconst (pc := 102) (v := (0 : Int32)) X dX12_make_102 (by decide) ?_
      obtain ⟨P18, t19, hV⟩ := hV
      refine g_cVV (pc := 103) X (As := [rv w.2.2.2 (h17.2.1 x0 46), Value.int (1536 : Int32), rv w.2.2.2 (h17.2.1 x0 12), Value.int (1536 : Int32), Value.int (0 : Int32), Value.int (0 : Int32)]) ml_X12_286 rfl q1 t19 (by rw [hR]; exact ⟨by decide, by decide, by decide, by decide⟩) rfl rfl (Nat.zero_le _) dX12_make_103 (fun h21 p20 => ?_)
      have hV := hV h21 p20
      refine g_aload_n (pc := 106) X 0 rfl rfl dX12_make_106 ?_
      refine g_aload_n (pc := 107) X 0 rfl rfl dX12_make_107 ?_
      refine g_getI (pc := 108) X fl_X12_264 q1 dX12_make_108 ?_
      refine g_putI (pc := 111) X fl_X12_280 q1 rfl rfl dX12_make_111 (fun h22 e23 => ?_)
      have hV := hV h22 e23
      refine g_iconst (pc := 114) (v := (0 : Int32)) X dX12_make_114 (by decide) ?_
      refine g_istore_n (pc := 115) X (i := 3) (rest := [(0, rv w.2.2.2 x0), (1, Value.int x1), (2, Value.int x2)]) rfl (by decide) rfl dX12_make_115 (fun y24 e25 => ?_)
      have hV := hV y24 e25
      refine g_lv [1, 2, 3, 0] rfl ?_
      exact hL116 x0 x1 x2 y24 h22 hV
  · have hV := hV.2 c2
    refine g_bipush (pc := 50) (v := (-4 : Int32)) X dX12_make_50 (by decide) ?_
    exact g_iret (pc := 52) X Tt ⟨_, rfl, rfl, hV⟩ dX12_make_52
def V_X12_make_24 (w : Wd) (sh : List Sh) (x0 : Nat) (x1 : Int32) (s0 : Int32) (h : Hp) (L116 : Nat → Int32 → Int32 → Int32 → Hp → Prop) (L197 : Nat → Int32 → Int32 → Int32 → Hp → Prop) (L276 : Nat → Int32 → Hp → Prop) (RET : Int32 → Hp → Prop) : Prop :=
  ∀ y1 : Int32, y1 = s0 → (((y1 = 0) → (V_X12_make_40 w sh x0 x1 y1 h L116 L197 L276 RET)) ∧ ((¬ y1 = 0) → (shAt sh x0 = some (.inr 12) ∧ (∃ P5 : Int32 → Hp → Prop, C_X12_isGood w sh x0 (2 : Int32) h P5 ∧ (∀ (v9 : Int32) (h8 : Hp), P5 v9 h8 → (((¬ v9 = 0) → (V_X12_make_40 w sh x0 x1 y1 h8 L116 L197 L276 RET)) ∧ ((v9 = 0) → (RET (-3 : Int32) h8))))))))
set_option maxRecDepth 20000 in
set_option maxHeartbeats 4000000 in
theorem W_X12_make_24 {w : Wd} {E : GE} {sh : List Sh} {x0 : Nat} {x1 : Int32} {s0 : Int32} {h : Hp} {L116 : Nat → Int32 → Int32 → Int32 → Hp → Prop} {L197 : Nat → Int32 → Int32 → Int32 → Hp → Prop} {L276 : Nat → Int32 → Hp → Prop} {RET : Int32 → Hp → Prop} (X : Cx w E cX12_make 4 RX12) (Tt : Rt w E (some .int) sh.length 0 0 (fun q sh9 h9 => ∃ v : Int32, q = some (Value.int v) ∧ sh9 = sh ∧ RET v h9)) (hR : gR E = { frames := 4, cells := 0, slots := 0, locals := 111 }) (hL116 : ∀ (x0 : Nat) (x1 : Int32) (x2 : Int32) (x3 : Int32) (h : Hp), L116 x0 x1 x2 x3 h → G w E 4 116 [(0, rv w.2.2.2 x0), (1, Value.int x1), (2, Value.int x2), (3, Value.int x3)] [] sh h 0 0) (hL197 : ∀ (x0 : Nat) (x1 : Int32) (x2 : Int32) (x3 : Int32) (h : Hp), L197 x0 x1 x2 x3 h → G w E 4 197 [(0, rv w.2.2.2 x0), (1, Value.int x1), (2, Value.int x2), (3, Value.int x3)] [] sh h 0 0) (hL276 : ∀ (x0 : Nat) (x3 : Int32) (h : Hp), L276 x0 x3 h → G w E 4 276 [(0, rv w.2.2.2 x0), (3, Value.int x3)] [] sh h 0 0) (hV : V_X12_make_24 w sh x0 x1 s0 h L116 L197 L276 RET) : G w E 4 24 [(0, rv w.2.2.2 x0), (1, Value.int x1)] [Value.int s0] sh h 0 0 := by
  unfold V_X12_make_24 at hV
  refine g_istore_n (pc := 24) X (i := 2) (rest := [(0, rv w.2.2.2 x0), (1, Value.int x1)]) rfl (by decide) rfl dX12_make_24 (fun y1 e2 => ?_)
  have hV := hV y1 e2
  refine g_iload_n (pc := 25) X 0 rfl rfl dX12_make_25 ?_
  refine g_if_eq (pc := 26) X 40 dX12_make_26 (by decide) (fun c3 => ?_) (fun c3 => ?_)
  · have hV := hV.1 c3
    refine g_lv [1, 2, 0] rfl ?_
    exact W_X12_make_40 X Tt hR hL116 hL197 hL276 hV
  · have hV := hV.2 c3
    refine g_aload_n (pc := 29) X 1 rfl rfl dX12_make_29 ?_
    refine g_iconst (pc := 30) (v := (2 : Int32)) X dX12_make_30 (by decide) ?_
    obtain ⟨q4, hV⟩ := hV
    obtain ⟨P5, t6, hV⟩ := hV
    refine g_cVI (pc := 31) X (As := [Value.int (2 : Int32)]) ml_X12_212 rfl q4 t6 (by rw [hR]; exact ⟨by decide, by decide, by decide, by decide⟩) rfl rfl (Nat.zero_le _) dX12_make_31 (fun v9 h8 p7 => ?_)
    have hV := hV v9 h8 p7
    refine g_if_ne (pc := 34) X 40 dX12_make_34 (by decide) (fun c10 => ?_) (fun c10 => ?_)
    · have hV := hV.1 c10
      refine g_lv [1, 2, 0] rfl ?_
      exact W_X12_make_40 X Tt hR hL116 hL197 hL276 hV
    · have hV := hV.2 c10
      refine g_bipush (pc := 37) (v := (-3 : Int32)) X dX12_make_37 (by decide) ?_
      exact g_iret (pc := 39) X Tt ⟨_, rfl, rfl, hV⟩ dX12_make_39
def V_X12_make_0 (w : Wd) (sh : List Sh) (x0 : Nat) (x1 : Int32) (h : Hp) (L116 : Nat → Int32 → Int32 → Int32 → Hp → Prop) (L197 : Nat → Int32 → Int32 → Int32 → Hp → Prop) (L276 : Nat → Int32 → Hp → Prop) (RET : Int32 → Hp → Prop) : Prop :=
  ((x1 < 0) → (RET (-2 : Int32) h)) ∧ ((¬ x1 < 0) → (((x1 ≤ (7 : Int32)) → ((((x1 &&& (2 : Int32)) ≤ 0) → (V_X12_make_24 w sh x0 x1 (0 : Int32) h L116 L197 L276 RET)) ∧ ((¬ (x1 &&& (2 : Int32)) ≤ 0) → (V_X12_make_24 w sh x0 x1 (1 : Int32) h L116 L197 L276 RET)))) ∧ ((¬ x1 ≤ (7 : Int32)) → (RET (-2 : Int32) h))))
set_option maxRecDepth 20000 in
set_option maxHeartbeats 4000000 in
theorem W_X12_make_0 {w : Wd} {E : GE} {sh : List Sh} {x0 : Nat} {x1 : Int32} {h : Hp} {L116 : Nat → Int32 → Int32 → Int32 → Hp → Prop} {L197 : Nat → Int32 → Int32 → Int32 → Hp → Prop} {L276 : Nat → Int32 → Hp → Prop} {RET : Int32 → Hp → Prop} (X : Cx w E cX12_make 4 RX12) (Tt : Rt w E (some .int) sh.length 0 0 (fun q sh9 h9 => ∃ v : Int32, q = some (Value.int v) ∧ sh9 = sh ∧ RET v h9)) (hR : gR E = { frames := 4, cells := 0, slots := 0, locals := 111 }) (hL116 : ∀ (x0 : Nat) (x1 : Int32) (x2 : Int32) (x3 : Int32) (h : Hp), L116 x0 x1 x2 x3 h → G w E 4 116 [(0, rv w.2.2.2 x0), (1, Value.int x1), (2, Value.int x2), (3, Value.int x3)] [] sh h 0 0) (hL197 : ∀ (x0 : Nat) (x1 : Int32) (x2 : Int32) (x3 : Int32) (h : Hp), L197 x0 x1 x2 x3 h → G w E 4 197 [(0, rv w.2.2.2 x0), (1, Value.int x1), (2, Value.int x2), (3, Value.int x3)] [] sh h 0 0) (hL276 : ∀ (x0 : Nat) (x3 : Int32) (h : Hp), L276 x0 x3 h → G w E 4 276 [(0, rv w.2.2.2 x0), (3, Value.int x3)] [] sh h 0 0) (hV : V_X12_make_0 w sh x0 x1 h L116 L197 L276 RET) : G w E 4 0 [(0, rv w.2.2.2 x0), (1, Value.int x1)] [] sh h 0 0 := by
  unfold V_X12_make_0 at hV
  refine g_iload_n (pc := 0) X 1 rfl rfl dX12_make_0 ?_
  refine g_if_lt (pc := 1) X 10 dX12_make_1 (by decide) (fun c1 => ?_) (fun c1 => ?_)
  · have hV := hV.1 c1
    refine g_bipush (pc := 10) (v := (-2 : Int32)) X dX12_make_10 (by decide) ?_
    exact g_iret (pc := 12) X Tt ⟨_, rfl, rfl, hV⟩ dX12_make_12
  · have hV := hV.2 c1
    refine g_iload_n (pc := 4) X 1 rfl rfl dX12_make_4 ?_
    refine g_bipush (pc := 5) (v := (7 : Int32)) X dX12_make_5 (by decide) ?_
    refine g_icmp_le (pc := 7) X 13 dX12_make_7 (by decide) (fun c2 => ?_) (fun c2 => ?_)
    · have hV := hV.1 c2
      refine g_iload_n (pc := 13) X 1 rfl rfl dX12_make_13 ?_
      refine g_iconst (pc := 14) (v := (2 : Int32)) X dX12_make_14 (by decide) ?_
      refine g_iand (pc := 15) X dX12_make_15 ?_
      refine g_if_le (pc := 16) X 23 dX12_make_16 (by decide) (fun c3 => ?_) (fun c3 => ?_)
      · have hV := hV.1 c3
        refine g_iconst (pc := 23) (v := (0 : Int32)) X dX12_make_23 (by decide) ?_
        exact W_X12_make_24 X Tt hR hL116 hL197 hL276 hV
      · have hV := hV.2 c3
        refine g_iconst (pc := 19) (v := (1 : Int32)) X dX12_make_19 (by decide) ?_
        refine g_goto (pc := 20) X 24 dX12_make_20 (by decide) ?_
        exact W_X12_make_24 X Tt hR hL116 hL197 hL276 hV
    · have hV := hV.2 c2
      refine g_bipush (pc := 10) (v := (-2 : Int32)) X dX12_make_10 (by decide) ?_
      exact g_iret (pc := 12) X Tt ⟨_, rfl, rfl, hV⟩ dX12_make_12
def C_X12_make (w : Wd) (sh : List Sh) (x0 : Nat) (x1 : Int32) (h : Hp) (RET : Int32 → Hp → Prop) : Prop := CI w yX12_make (.code yX12_make cX12_make 4 (some .int)) 4 111 [rv w.2.2.2 x0, Value.int x1] sh h RET
set_option maxRecDepth 20000 in
theorem K_X12_make {w : Wd} {sh : List Sh} {x0 : Nat} {x1 : Int32} {h : Hp} {RET : Int32 → Hp → Prop} {α : Type} {r : α → α → Prop} (wf : WellFounded r) (I116 : α → Nat → Int32 → Int32 → Int32 → Hp → Prop) (I197 : α → Nat → Int32 → Int32 → Int32 → Hp → Prop) (I276 : α → Nat → Int32 → Hp → Prop) (hE : V_X12_make_0 w sh x0 x1 h (fun x0 x1 x2 x3 h => ∃ a, I116 a x0 x1 x2 x3 h) (fun x0 x1 x2 x3 h => ∃ a, I197 a x0 x1 x2 x3 h) (fun x0 x3 h => ∃ a, I276 a x0 x3 h) RET) (h116 : ∀ (b : α) (x0 : Nat) (x1 : Int32) (x2 : Int32) (x3 : Int32) (h : Hp), I116 b x0 x1 x2 x3 h → V_X12_make_116 w sh x0 x1 x2 x3 h (fun x0 x1 x2 x3 h => ∃ a, r a b ∧ I116 a x0 x1 x2 x3 h) (fun x0 x1 x2 x3 h => ∃ a, r a b ∧ I197 a x0 x1 x2 x3 h) (fun x0 x3 h => ∃ a, r a b ∧ I276 a x0 x3 h) RET) (h197 : ∀ (b : α) (x0 : Nat) (x1 : Int32) (x2 : Int32) (x3 : Int32) (h : Hp), I197 b x0 x1 x2 x3 h → V_X12_make_197 w sh x0 x1 x2 x3 h (fun x0 x1 x2 x3 h => ∃ a, r a b ∧ I116 a x0 x1 x2 x3 h) (fun x0 x1 x2 x3 h => ∃ a, r a b ∧ I197 a x0 x1 x2 x3 h) (fun x0 x3 h => ∃ a, r a b ∧ I276 a x0 x3 h) RET) (h276 : ∀ (b : α) (x0 : Nat) (x3 : Int32) (h : Hp), I276 b x0 x3 h → V_X12_make_276 w sh x0 x3 h (fun x0 x1 x2 x3 h => ∃ a, r a b ∧ I116 a x0 x1 x2 x3 h) (fun x0 x1 x2 x3 h => ∃ a, r a b ∧ I197 a x0 x1 x2 x3 h) (fun x0 x3 h => ∃ a, r a b ∧ I276 a x0 x3 h) RET) : C_X12_make w sh x0 x1 h RET :=
  Ct_of (by decide +kernel) (by simp [lg_sl, rv_cat, cat_int, cat_long]) (fun E X Tt hR _ => by
    have key : ∀ a : α, (∀ (x0 : Nat) (x1 : Int32) (x2 : Int32) (x3 : Int32) (h : Hp), I116 a x0 x1 x2 x3 h → G w E 4 116 [(0, rv w.2.2.2 x0), (1, Value.int x1), (2, Value.int x2), (3, Value.int x3)] [] sh h 0 0) ∧ (∀ (x0 : Nat) (x1 : Int32) (x2 : Int32) (x3 : Int32) (h : Hp), I197 a x0 x1 x2 x3 h → G w E 4 197 [(0, rv w.2.2.2 x0), (1, Value.int x1), (2, Value.int x2), (3, Value.int x3)] [] sh h 0 0) ∧ (∀ (x0 : Nat) (x3 : Int32) (h : Hp), I276 a x0 x3 h → G w E 4 276 [(0, rv w.2.2.2 x0), (3, Value.int x3)] [] sh h 0 0) := by
      intro a
      induction a using wf.induction with
      | _ a ih =>
        exact ⟨(fun x0 x1 x2 x3 h hi => W_X12_make_116 X Tt hR (fun x0 x1 x2 x3 h hx => by obtain ⟨a2, ha, hi⟩ := hx; exact ((ih a2 ha)).1 x0 x1 x2 x3 h hi) (fun x0 x1 x2 x3 h hx => by obtain ⟨a2, ha, hi⟩ := hx; exact (((ih a2 ha)).2).1 x0 x1 x2 x3 h hi) (fun x0 x3 h hx => by obtain ⟨a2, ha, hi⟩ := hx; exact (((ih a2 ha)).2).2 x0 x3 h hi) (h116 a x0 x1 x2 x3 h hi)), (fun x0 x1 x2 x3 h hi => W_X12_make_197 X Tt hR (fun x0 x1 x2 x3 h hx => by obtain ⟨a2, ha, hi⟩ := hx; exact ((ih a2 ha)).1 x0 x1 x2 x3 h hi) (fun x0 x1 x2 x3 h hx => by obtain ⟨a2, ha, hi⟩ := hx; exact (((ih a2 ha)).2).1 x0 x1 x2 x3 h hi) (fun x0 x3 h hx => by obtain ⟨a2, ha, hi⟩ := hx; exact (((ih a2 ha)).2).2 x0 x3 h hi) (h197 a x0 x1 x2 x3 h hi)), (fun x0 x3 h hi => W_X12_make_276 X Tt hR (fun x0 x1 x2 x3 h hx => by obtain ⟨a2, ha, hi⟩ := hx; exact ((ih a2 ha)).1 x0 x1 x2 x3 h hi) (fun x0 x1 x2 x3 h hx => by obtain ⟨a2, ha, hi⟩ := hx; exact (((ih a2 ha)).2).1 x0 x1 x2 x3 h hi) (fun x0 x3 h hx => by obtain ⟨a2, ha, hi⟩ := hx; exact (((ih a2 ha)).2).2 x0 x3 h hi) (h276 a x0 x3 h hi))⟩
    rw [show lv_args 0 [rv w.2.2.2 x0, Value.int x1] = [(0, rv w.2.2.2 x0), (1, Value.int x1)] from by simp [lv_args, rv_cat, cat_int, cat_long]]
    refine g_lv [0, 1] rfl ?_
    exact W_X12_make_0 X Tt hR (fun x0 x1 x2 x3 h hx => by obtain ⟨a2, hi⟩ := hx; exact ((key a2)).1 x0 x1 x2 x3 h hi) (fun x0 x1 x2 x3 h hx => by obtain ⟨a2, hi⟩ := hx; exact (((key a2)).2).1 x0 x1 x2 x3 h hi) (fun x0 x3 h hx => by obtain ⟨a2, hi⟩ := hx; exact (((key a2)).2).2 x0 x3 h hi) hE)
