def V_X12_code_0 (w : Wd) (sh : List Sh) (x0 : Nat) (x1 : Int32) (x2 : Int32) (x3 : Int32) (x4 : Int32) (x5 : Int32) (x6 : Int32) (x7 : Int32) (h : Hp)  (RET : Int32 → Hp → Prop) : Prop :=
  shAt sh x0 = some (.inr 12) ∧ (∃ n3 : Nat, shAt sh (h.2.1 x0 9) = some (.inl (1, n3)) ∧ (vp_in x1 n3 ∧ (∀ h5 : Hp, h5 = wI h (h.2.1 x0 9) x1.toNatClampNeg x2 → (vp_in ((256 : Int32) + x1) n3 ∧ (∀ h8 : Hp, h8 = wI h5 (h.2.1 x0 9) ((256 : Int32) + x1).toNatClampNeg x3 → (vp_in ((512 : Int32) + x1) n3 ∧ (∀ h11 : Hp, h11 = wI h8 (h.2.1 x0 9) ((512 : Int32) + x1).toNatClampNeg x4 → (vp_in ((768 : Int32) + x1) n3 ∧ (∀ h14 : Hp, h14 = wI h11 (h.2.1 x0 9) ((768 : Int32) + x1).toNatClampNeg x5 → (vp_in ((1024 : Int32) + x1) n3 ∧ (∀ h17 : Hp, h17 = wI h14 (h.2.1 x0 9) ((1024 : Int32) + x1).toNatClampNeg x6 → (vp_in ((1280 : Int32) + x1) n3 ∧ (∀ h20 : Hp, h20 = wI h17 (h.2.1 x0 9) ((1280 : Int32) + x1).toNatClampNeg x7 → (RET (x1 + (1 : Int32)) h20))))))))))))))
set_option maxRecDepth 20000 in
set_option maxHeartbeats 4000000 in
theorem W_X12_code_0 {w : Wd} {E : GE} {sh : List Sh} {x0 : Nat} {x1 : Int32} {x2 : Int32} {x3 : Int32} {x4 : Int32} {x5 : Int32} {x6 : Int32} {x7 : Int32} {h : Hp}  {RET : Int32 → Hp → Prop} (X : Cx w E cX12_code 8 RX12) (Tt : Rt w E (some .int) sh.length 0 0 (fun q sh9 h9 => ∃ v : Int32, q = some (Value.int v) ∧ sh9 = sh ∧ RET v h9)) (hR : gR E = { frames := 0, cells := 0, slots := 0, locals := 0 }) (hV : V_X12_code_0 w sh x0 x1 x2 x3 x4 x5 x6 x7 h RET) : G w E 8 0 [(0, rv w.2.2.2 x0), (1, Value.int x1), (2, Value.int x2), (3, Value.int x3), (4, Value.int x4), (5, Value.int x5), (6, Value.int x6), (7, Value.int x7)] [] sh h 0 0 := by
  unfold V_X12_code_0 at hV
  refine g_aload_n (pc := 0) X 0 rfl rfl dX12_code_0 ?_
  obtain ⟨q1, hV⟩ := hV
  refine g_getR (pc := 1) X fl_X12_23 q1 dX12_code_1 ?_
  refine g_iload_n (pc := 4) X 1 rfl rfl dX12_code_4 ?_
  refine g_iload_n (pc := 5) X 2 rfl rfl dX12_code_5 ?_
  obtain ⟨n3, q2, hV⟩ := hV
  obtain ⟨q4, hV⟩ := hV
  refine g_iast (pc := 6) X q2 q4 dX12_code_6 (fun h5 e6 => ?_)
  have hV := hV h5 e6
  refine g_aload_n (pc := 7) X 0 rfl rfl dX12_code_7 ?_
  refine g_getRe (pc := 8) X fl_X12_23 q1 (congrFun (congrFun (rfI e6) _) _) dX12_code_8 ?_
  refine g_sipush (pc := 11) (v := (256 : Int32)) X dX12_code_11 (by decide) ?_
  refine g_iload_n (pc := 14) X 1 rfl rfl dX12_code_14 ?_
  refine g_iadd (pc := 15) X dX12_code_15 ?_
  refine g_iload_n (pc := 16) X 3 rfl rfl dX12_code_16 ?_
  obtain ⟨q7, hV⟩ := hV
  refine g_iast (pc := 17) X q2 q7 dX12_code_17 (fun h8 e9 => ?_)
  have hV := hV h8 e9
  refine g_aload_n (pc := 18) X 0 rfl rfl dX12_code_18 ?_
  refine g_getRe (pc := 19) X fl_X12_23 q1 (congrFun (congrFun ((rfI e9).trans (rfI e6)) _) _) dX12_code_19 ?_
  refine g_sipush (pc := 22) (v := (512 : Int32)) X dX12_code_22 (by decide) ?_
  refine g_iload_n (pc := 25) X 1 rfl rfl dX12_code_25 ?_
  refine g_iadd (pc := 26) X dX12_code_26 ?_
  refine g_iload (pc := 27) X 4 rfl dX12_code_27 ?_
  obtain ⟨q10, hV⟩ := hV
  refine g_iast (pc := 29) X q2 q10 dX12_code_29 (fun h11 e12 => ?_)
  have hV := hV h11 e12
  refine g_aload_n (pc := 30) X 0 rfl rfl dX12_code_30 ?_
  refine g_getRe (pc := 31) X fl_X12_23 q1 (congrFun (congrFun ((rfI e12).trans ((rfI e9).trans (rfI e6))) _) _) dX12_code_31 ?_
  refine g_sipush (pc := 34) (v := (768 : Int32)) X dX12_code_34 (by decide) ?_
  refine g_iload_n (pc := 37) X 1 rfl rfl dX12_code_37 ?_
  refine g_iadd (pc := 38) X dX12_code_38 ?_
  refine g_iload (pc := 39) X 5 rfl dX12_code_39 ?_
  obtain ⟨q13, hV⟩ := hV
  refine g_iast (pc := 41) X q2 q13 dX12_code_41 (fun h14 e15 => ?_)
  have hV := hV h14 e15
  refine g_aload_n (pc := 42) X 0 rfl rfl dX12_code_42 ?_
  refine g_getRe (pc := 43) X fl_X12_23 q1 (congrFun (congrFun ((rfI e15).trans ((rfI e12).trans ((rfI e9).trans (rfI e6)))) _) _) dX12_code_43 ?_
  refine g_sipush (pc := 46) (v := (1024 : Int32)) X dX12_code_46 (by decide) ?_
  refine g_iload_n (pc := 49) X 1 rfl rfl dX12_code_49 ?_
  refine g_iadd (pc := 50) X dX12_code_50 ?_
  refine g_iload (pc := 51) X 6 rfl dX12_code_51 ?_
  obtain ⟨q16, hV⟩ := hV
  refine g_iast (pc := 53) X q2 q16 dX12_code_53 (fun h17 e18 => ?_)
  have hV := hV h17 e18
  refine g_aload_n (pc := 54) X 0 rfl rfl dX12_code_54 ?_
  refine g_getRe (pc := 55) X fl_X12_23 q1 (congrFun (congrFun ((rfI e18).trans ((rfI e15).trans ((rfI e12).trans ((rfI e9).trans (rfI e6))))) _) _) dX12_code_55 ?_
  refine g_sipush (pc := 58) (v := (1280 : Int32)) X dX12_code_58 (by decide) ?_
  refine g_iload_n (pc := 61) X 1 rfl rfl dX12_code_61 ?_
  refine g_iadd (pc := 62) X dX12_code_62 ?_
  refine g_iload (pc := 63) X 7 rfl dX12_code_63 ?_
  obtain ⟨q19, hV⟩ := hV
  refine g_iast (pc := 65) X q2 q19 dX12_code_65 (fun h20 e21 => ?_)
  have hV := hV h20 e21
  refine g_iload_n (pc := 66) X 1 rfl rfl dX12_code_66 ?_
  refine g_iconst (pc := 67) (v := (1 : Int32)) X dX12_code_67 (by decide) ?_
  refine g_iadd (pc := 68) X dX12_code_68 ?_
  exact g_iret (pc := 69) X Tt ⟨_, rfl, rfl, hV⟩ dX12_code_69
def C_X12_code (w : Wd) (sh : List Sh) (x0 : Nat) (x1 : Int32) (x2 : Int32) (x3 : Int32) (x4 : Int32) (x5 : Int32) (x6 : Int32) (x7 : Int32) (h : Hp) (RET : Int32 → Hp → Prop) : Prop := CI w yX12_code (.code yX12_code cX12_code 8 (some .int)) 0 0 [rv w.2.2.2 x0, Value.int x1, Value.int x2, Value.int x3, Value.int x4, Value.int x5, Value.int x6, Value.int x7] sh h RET
theorem K_X12_code {w : Wd} {sh : List Sh} {x0 : Nat} {x1 : Int32} {x2 : Int32} {x3 : Int32} {x4 : Int32} {x5 : Int32} {x6 : Int32} {x7 : Int32} {h : Hp} {RET : Int32 → Hp → Prop} (hV : V_X12_code_0 w sh x0 x1 x2 x3 x4 x5 x6 x7 h RET) : C_X12_code w sh x0 x1 x2 x3 x4 x5 x6 x7 h RET :=
  Ct_of (by decide +kernel) (by simp [lg_sl, rv_cat, cat_int, cat_long]) (fun E X Tt hR _ => by
    rw [show lv_args 0 [rv w.2.2.2 x0, Value.int x1, Value.int x2, Value.int x3, Value.int x4, Value.int x5, Value.int x6, Value.int x7] = [(0, rv w.2.2.2 x0), (1, Value.int x1), (2, Value.int x2), (3, Value.int x3), (4, Value.int x4), (5, Value.int x5), (6, Value.int x6), (7, Value.int x7)] from by simp [lv_args, rv_cat, cat_int, cat_long]]
    refine g_lv [0, 1, 2, 3, 4, 5, 6, 7] rfl ?_
    exact W_X12_code_0 X Tt hR hV)
def V_X12_takeTable_26 (w : Wd) (sh : List Sh) (x0 : Nat) (x1 : Int32) (x2 : Int32) (x3 : Int32) (h : Hp) (L26 : Nat → Int32 → Int32 → Int32 → Hp → Prop) (RET : Hp → Prop) : Prop :=
  (((1536 : Int32) ≤ x3) → (RET h)) ∧ ((¬ (1536 : Int32) ≤ x3) → (shAt sh x0 = some (.inr 12) ∧ (∃ n4 : Nat, shAt sh (h.2.1 x0 9) = some (.inl (1, n4)) ∧ (vp_in (((1536 : Int32) * x1) + x3) n4 ∧ (vp_in (((1536 : Int32) * x2) + x3) n4 ∧ (∀ h7 : Hp, h7 = wI h (h.2.1 x0 9) (((1536 : Int32) * x2) + x3).toNatClampNeg (h.1 (h.2.1 x0 9) (((1536 : Int32) * x1) + x3).toNatClampNeg) → (∀ y9 : Int32, y9 = x3 + (1 : Int32) → (L26 x0 x1 x2 y9 h7))))))))
set_option maxRecDepth 20000 in
set_option maxHeartbeats 4000000 in
theorem W_X12_takeTable_26 {w : Wd} {E : GE} {sh : List Sh} {x0 : Nat} {x1 : Int32} {x2 : Int32} {x3 : Int32} {h : Hp} {L26 : Nat → Int32 → Int32 → Int32 → Hp → Prop} {RET : Hp → Prop} (X : Cx w E cX12_takeTable 4 RX12) (Tt : Rt w E none sh.length 0 0 (fun q sh9 h9 => q = none ∧ sh9 = sh ∧ RET h9)) (hR : gR E = { frames := 0, cells := 0, slots := 0, locals := 0 }) (hL26 : ∀ (x0 : Nat) (x1 : Int32) (x2 : Int32) (x3 : Int32) (h : Hp), L26 x0 x1 x2 x3 h → G w E 4 26 [(0, rv w.2.2.2 x0), (1, Value.int x1), (2, Value.int x2), (3, Value.int x3)] [] sh h 0 0) (hV : V_X12_takeTable_26 w sh x0 x1 x2 x3 h L26 RET) : G w E 4 26 [(0, rv w.2.2.2 x0), (1, Value.int x1), (2, Value.int x2), (3, Value.int x3)] [] sh h 0 0 := by
  unfold V_X12_takeTable_26 at hV
  refine g_iload_n (pc := 26) X 3 rfl rfl dX12_takeTable_26 ?_
  refine g_sipush (pc := 27) (v := (1536 : Int32)) X dX12_takeTable_27 (by decide) ?_
  refine g_icmp_ge (pc := 30) X 63 dX12_takeTable_30 (by decide) (fun c1 => ?_) (fun c1 => ?_)
  · have hV := hV.1 c1
    exact g_vret (pc := 63) X Tt ⟨rfl, rfl, hV⟩ dX12_takeTable_63
  · have hV := hV.2 c1
    refine g_aload_n (pc := 33) X 0 rfl rfl dX12_takeTable_33 ?_
    obtain ⟨q2, hV⟩ := hV
    refine g_getR (pc := 34) X fl_X12_23 q2 dX12_takeTable_34 ?_
    refine g_sipush (pc := 37) (v := (1536 : Int32)) X dX12_takeTable_37 (by decide) ?_
    refine g_iload_n (pc := 40) X 2 rfl rfl dX12_takeTable_40 ?_
    refine g_imul (pc := 41) X dX12_takeTable_41 ?_
    refine g_iload_n (pc := 42) X 3 rfl rfl dX12_takeTable_42 ?_
    refine g_iadd (pc := 43) X dX12_takeTable_43 ?_
    refine g_aload_n (pc := 44) X 0 rfl rfl dX12_takeTable_44 ?_
    refine g_getR (pc := 45) X fl_X12_23 q2 dX12_takeTable_45 ?_
    refine g_sipush (pc := 48) (v := (1536 : Int32)) X dX12_takeTable_48 (by decide) ?_
    refine g_iload_n (pc := 51) X 1 rfl rfl dX12_takeTable_51 ?_
    refine g_imul (pc := 52) X dX12_takeTable_52 ?_
    refine g_iload_n (pc := 53) X 3 rfl rfl dX12_takeTable_53 ?_
    refine g_iadd (pc := 54) X dX12_takeTable_54 ?_
    obtain ⟨n4, q3, hV⟩ := hV
    obtain ⟨q5, hV⟩ := hV
    refine g_iald (pc := 55) X q3 q5 dX12_takeTable_55 ?_
    obtain ⟨q6, hV⟩ := hV
    refine g_iast (pc := 56) X q3 q6 dX12_takeTable_56 (fun h7 e8 => ?_)
    have hV := hV h7 e8
    refine g_iinc (pc := 57) X 3 (v := (1 : Int32)) (rest := [(0, rv w.2.2.2 x0), (1, Value.int x1), (2, Value.int x2)]) rfl (by decide) rfl (by decide) dX12_takeTable_57 (fun y9 e10 => ?_)
    have hV := hV y9 e10
    refine g_goto (pc := 60) X 26 dX12_takeTable_60 (by decide) ?_
    refine g_lv [1, 2, 3, 0] rfl ?_
    exact hL26 x0 x1 x2 y9 h7 hV
def V_X12_takeTable_0 (w : Wd) (sh : List Sh) (x0 : Nat) (x1 : Int32) (x2 : Int32) (h : Hp) (L26 : Nat → Int32 → Int32 → Int32 → Hp → Prop) (RET : Hp → Prop) : Prop :=
  shAt sh x0 = some (.inr 12) ∧ (∃ n3 : Nat, shAt sh (h.2.1 x0 10) = some (.inl (1, n3)) ∧ (vp_in x1 n3 ∧ (vp_in x2 n3 ∧ (∀ h6 : Hp, h6 = wI h (h.2.1 x0 10) x2.toNatClampNeg (h.1 (h.2.1 x0 10) x1.toNatClampNeg) → (∃ n9 : Nat, shAt sh (h.2.1 x0 11) = some (.inl (1, n9)) ∧ (vp_in x1 n9 ∧ (vp_in x2 n9 ∧ (∀ h12 : Hp, h12 = wI h6 (h.2.1 x0 11) x2.toNatClampNeg (h6.1 (h.2.1 x0 11) x1.toNatClampNeg) → (∀ y14 : Int32, y14 = (0 : Int32) → (L26 x0 x1 x2 y14 h12))))))))))
set_option maxRecDepth 20000 in
set_option maxHeartbeats 4000000 in
theorem W_X12_takeTable_0 {w : Wd} {E : GE} {sh : List Sh} {x0 : Nat} {x1 : Int32} {x2 : Int32} {h : Hp} {L26 : Nat → Int32 → Int32 → Int32 → Hp → Prop} {RET : Hp → Prop} (X : Cx w E cX12_takeTable 4 RX12) (Tt : Rt w E none sh.length 0 0 (fun q sh9 h9 => q = none ∧ sh9 = sh ∧ RET h9)) (hR : gR E = { frames := 0, cells := 0, slots := 0, locals := 0 }) (hL26 : ∀ (x0 : Nat) (x1 : Int32) (x2 : Int32) (x3 : Int32) (h : Hp), L26 x0 x1 x2 x3 h → G w E 4 26 [(0, rv w.2.2.2 x0), (1, Value.int x1), (2, Value.int x2), (3, Value.int x3)] [] sh h 0 0) (hV : V_X12_takeTable_0 w sh x0 x1 x2 h L26 RET) : G w E 4 0 [(0, rv w.2.2.2 x0), (1, Value.int x1), (2, Value.int x2)] [] sh h 0 0 := by
  unfold V_X12_takeTable_0 at hV
  refine g_aload_n (pc := 0) X 0 rfl rfl dX12_takeTable_0 ?_
  obtain ⟨q1, hV⟩ := hV
  refine g_getR (pc := 1) X fl_X12_27 q1 dX12_takeTable_1 ?_
  refine g_iload_n (pc := 4) X 2 rfl rfl dX12_takeTable_4 ?_
  refine g_aload_n (pc := 5) X 0 rfl rfl dX12_takeTable_5 ?_
  refine g_getR (pc := 6) X fl_X12_27 q1 dX12_takeTable_6 ?_
  refine g_iload_n (pc := 9) X 1 rfl rfl dX12_takeTable_9 ?_
  obtain ⟨n3, q2, hV⟩ := hV
  obtain ⟨q4, hV⟩ := hV
  refine g_iald (pc := 10) X q2 q4 dX12_takeTable_10 ?_
  obtain ⟨q5, hV⟩ := hV
  refine g_iast (pc := 11) X q2 q5 dX12_takeTable_11 (fun h6 e7 => ?_)
  have hV := hV h6 e7
  refine g_aload_n (pc := 12) X 0 rfl rfl dX12_takeTable_12 ?_
  refine g_getRe (pc := 13) X fl_X12_30 q1 (congrFun (congrFun (rfI e7) _) _) dX12_takeTable_13 ?_
  refine g_iload_n (pc := 16) X 2 rfl rfl dX12_takeTable_16 ?_
  refine g_aload_n (pc := 17) X 0 rfl rfl dX12_takeTable_17 ?_
  refine g_getRe (pc := 18) X fl_X12_30 q1 (congrFun (congrFun (rfI e7) _) _) dX12_takeTable_18 ?_
  refine g_iload_n (pc := 21) X 1 rfl rfl dX12_takeTable_21 ?_
  obtain ⟨n9, q8, hV⟩ := hV
  obtain ⟨q10, hV⟩ := hV
  refine g_iald (pc := 22) X q8 q10 dX12_takeTable_22 ?_
  obtain ⟨q11, hV⟩ := hV
  refine g_iast (pc := 23) X q8 q11 dX12_takeTable_23 (fun h12 e13 => ?_)
  have hV := hV h12 e13
  refine g_iconst (pc := 24) (v := (0 : Int32)) X dX12_takeTable_24 (by decide) ?_
  refine g_istore_n (pc := 25) X (i := 3) (rest := [(0, rv w.2.2.2 x0), (1, Value.int x1), (2, Value.int x2)]) rfl (by decide) rfl dX12_takeTable_25 (fun y14 e15 => ?_)
  have hV := hV y14 e15
  refine g_lv [1, 2, 3, 0] rfl ?_
  exact hL26 x0 x1 x2 y14 h12 hV
def C_X12_takeTable (w : Wd) (sh : List Sh) (x0 : Nat) (x1 : Int32) (x2 : Int32) (h : Hp) (RET : Hp → Prop) : Prop := CV w yX12_takeTable (.code yX12_takeTable cX12_takeTable 4 none) 0 0 [rv w.2.2.2 x0, Value.int x1, Value.int x2] sh h RET
set_option maxRecDepth 20000 in
theorem K_X12_takeTable {w : Wd} {sh : List Sh} {x0 : Nat} {x1 : Int32} {x2 : Int32} {h : Hp} {RET : Hp → Prop} {α : Type} {r : α → α → Prop} (wf : WellFounded r) (I26 : α → Nat → Int32 → Int32 → Int32 → Hp → Prop) (hE : V_X12_takeTable_0 w sh x0 x1 x2 h (fun x0 x1 x2 x3 h => ∃ a, I26 a x0 x1 x2 x3 h) RET) (h26 : ∀ (b : α) (x0 : Nat) (x1 : Int32) (x2 : Int32) (x3 : Int32) (h : Hp), I26 b x0 x1 x2 x3 h → V_X12_takeTable_26 w sh x0 x1 x2 x3 h (fun x0 x1 x2 x3 h => ∃ a, r a b ∧ I26 a x0 x1 x2 x3 h) RET) : C_X12_takeTable w sh x0 x1 x2 h RET :=
  Ct_of (by decide +kernel) (by simp [lg_sl, rv_cat, cat_int, cat_long]) (fun E X Tt hR _ => by
    have key : ∀ a : α, (∀ (x0 : Nat) (x1 : Int32) (x2 : Int32) (x3 : Int32) (h : Hp), I26 a x0 x1 x2 x3 h → G w E 4 26 [(0, rv w.2.2.2 x0), (1, Value.int x1), (2, Value.int x2), (3, Value.int x3)] [] sh h 0 0) := by
      intro a
      induction a using wf.induction with
      | _ a ih =>
        exact (fun x0 x1 x2 x3 h hi => W_X12_takeTable_26 X Tt hR (fun x0 x1 x2 x3 h hx => by obtain ⟨a2, ha, hi⟩ := hx; exact (ih a2 ha) x0 x1 x2 x3 h hi) (h26 a x0 x1 x2 x3 h hi))
    rw [show lv_args 0 [rv w.2.2.2 x0, Value.int x1, Value.int x2] = [(0, rv w.2.2.2 x0), (1, Value.int x1), (2, Value.int x2)] from by simp [lv_args, rv_cat, cat_int, cat_long]]
    refine g_lv [0, 1, 2] rfl ?_
    exact W_X12_takeTable_0 X Tt hR (fun x0 x1 x2 x3 h hx => by obtain ⟨a2, hi⟩ := hx; exact (key a2) x0 x1 x2 x3 h hi) hE)
def V_X12_rowOf_0 (w : Wd) (sh : List Sh) (x0 : Int32) (h : Hp)  (RET : Int32 → Hp → Prop) : Prop :=
  ((¬ (x0 - x0 / (2 : Int32) * (2 : Int32)) = 0) → (RET ((3 : Int32) + (x0 / (2 : Int32))) h)) ∧ (((x0 - x0 / (2 : Int32) * (2 : Int32)) = 0) → (RET (x0 / (2 : Int32)) h))
set_option maxRecDepth 20000 in
set_option maxHeartbeats 4000000 in
theorem W_X12_rowOf_0 {w : Wd} {E : GE} {sh : List Sh} {x0 : Int32} {h : Hp}  {RET : Int32 → Hp → Prop} (X : Cx w E cX12_rowOf 1 RX12) (Tt : Rt w E (some .int) sh.length 0 0 (fun q sh9 h9 => ∃ v : Int32, q = some (Value.int v) ∧ sh9 = sh ∧ RET v h9)) (hR : gR E = { frames := 0, cells := 0, slots := 0, locals := 0 }) (hV : V_X12_rowOf_0 w sh x0 h RET) : G w E 1 0 [(0, Value.int x0)] [] sh h 0 0 := by
  unfold V_X12_rowOf_0 at hV
  refine g_iload_n (pc := 0) X 0 rfl rfl dX12_rowOf_0 ?_
  refine g_iconst (pc := 1) (v := (2 : Int32)) X dX12_rowOf_1 (by decide) ?_
  refine g_irem (pc := 2) X dX12_rowOf_2 (by decide) ?_
  refine g_if_ne (pc := 3) X 12 dX12_rowOf_3 (by decide) (fun c1 => ?_) (fun c1 => ?_)
  · have hV := hV.1 c1
    refine g_iconst (pc := 12) (v := (3 : Int32)) X dX12_rowOf_12 (by decide) ?_
    refine g_iload_n (pc := 13) X 0 rfl rfl dX12_rowOf_13 ?_
    refine g_iconst (pc := 14) (v := (2 : Int32)) X dX12_rowOf_14 (by decide) ?_
    refine g_idiv (pc := 15) X dX12_rowOf_15 (by decide) ?_
    refine g_iadd (pc := 16) X dX12_rowOf_16 ?_
    exact g_iret (pc := 17) X Tt ⟨_, rfl, rfl, hV⟩ dX12_rowOf_17
  · have hV := hV.2 c1
    refine g_iload_n (pc := 6) X 0 rfl rfl dX12_rowOf_6 ?_
    refine g_iconst (pc := 7) (v := (2 : Int32)) X dX12_rowOf_7 (by decide) ?_
    refine g_idiv (pc := 8) X dX12_rowOf_8 (by decide) ?_
    refine g_goto (pc := 9) X 17 dX12_rowOf_9 (by decide) ?_
    exact g_iret (pc := 17) X Tt ⟨_, rfl, rfl, hV⟩ dX12_rowOf_17
def C_X12_rowOf (w : Wd) (sh : List Sh) (x0 : Int32) (h : Hp) (RET : Int32 → Hp → Prop) : Prop := CI w yX12_rowOf (.code yX12_rowOf cX12_rowOf 1 (some .int)) 0 0 [Value.int x0] sh h RET
theorem K_X12_rowOf {w : Wd} {sh : List Sh} {x0 : Int32} {h : Hp} {RET : Int32 → Hp → Prop} (hV : V_X12_rowOf_0 w sh x0 h RET) : C_X12_rowOf w sh x0 h RET :=
  Ct_of (by decide +kernel) (by simp [lg_sl, rv_cat, cat_int, cat_long]) (fun E X Tt hR _ => by
    rw [show lv_args 0 [Value.int x0] = [(0, Value.int x0)] from by simp [lv_args, rv_cat, cat_int, cat_long]]
    refine g_lv [0] rfl ?_
    exact W_X12_rowOf_0 X Tt hR hV)
def V_X12_entryOf_0 (w : Wd) (sh : List Sh) (x0 : Nat) (x1 : Int32) (x2 : Int32) (x3 : Int32) (h : Hp)  (RET : Int32 → Hp → Prop) : Prop :=
  shAt sh x0 = some (.inr 12) ∧ (∃ n3 : Nat, shAt sh (h.2.1 x0 9) = some (.inl (1, n3)) ∧ (vp_in ((((1536 : Int32) * x1) + ((256 : Int32) * x3)) + x2) n3 ∧ (RET (h.1 (h.2.1 x0 9) ((((1536 : Int32) * x1) + ((256 : Int32) * x3)) + x2).toNatClampNeg) h)))
set_option maxRecDepth 20000 in
set_option maxHeartbeats 4000000 in
theorem W_X12_entryOf_0 {w : Wd} {E : GE} {sh : List Sh} {x0 : Nat} {x1 : Int32} {x2 : Int32} {x3 : Int32} {h : Hp}  {RET : Int32 → Hp → Prop} (X : Cx w E cX12_entryOf 4 RX12) (Tt : Rt w E (some .int) sh.length 0 0 (fun q sh9 h9 => ∃ v : Int32, q = some (Value.int v) ∧ sh9 = sh ∧ RET v h9)) (hR : gR E = { frames := 0, cells := 0, slots := 0, locals := 0 }) (hV : V_X12_entryOf_0 w sh x0 x1 x2 x3 h RET) : G w E 4 0 [(0, rv w.2.2.2 x0), (1, Value.int x1), (2, Value.int x2), (3, Value.int x3)] [] sh h 0 0 := by
  unfold V_X12_entryOf_0 at hV
  refine g_aload_n (pc := 0) X 0 rfl rfl dX12_entryOf_0 ?_
  obtain ⟨q1, hV⟩ := hV
  refine g_getR (pc := 1) X fl_X12_23 q1 dX12_entryOf_1 ?_
  refine g_sipush (pc := 4) (v := (1536 : Int32)) X dX12_entryOf_4 (by decide) ?_
  refine g_iload_n (pc := 7) X 1 rfl rfl dX12_entryOf_7 ?_
  refine g_imul (pc := 8) X dX12_entryOf_8 ?_
  refine g_sipush (pc := 9) (v := (256 : Int32)) X dX12_entryOf_9 (by decide) ?_
  refine g_iload_n (pc := 12) X 3 rfl rfl dX12_entryOf_12 ?_
  refine g_imul (pc := 13) X dX12_entryOf_13 ?_
  refine g_iadd (pc := 14) X dX12_entryOf_14 ?_
  refine g_iload_n (pc := 15) X 2 rfl rfl dX12_entryOf_15 ?_
  refine g_iadd (pc := 16) X dX12_entryOf_16 ?_
  obtain ⟨n3, q2, hV⟩ := hV
  obtain ⟨q4, hV⟩ := hV
  refine g_iald (pc := 17) X q2 q4 dX12_entryOf_17 ?_
  exact g_iret (pc := 18) X Tt ⟨_, rfl, rfl, hV⟩ dX12_entryOf_18
def C_X12_entryOf (w : Wd) (sh : List Sh) (x0 : Nat) (x1 : Int32) (x2 : Int32) (x3 : Int32) (h : Hp) (RET : Int32 → Hp → Prop) : Prop := CI w yX12_entryOf (.code yX12_entryOf cX12_entryOf 4 (some .int)) 0 0 [rv w.2.2.2 x0, Value.int x1, Value.int x2, Value.int x3] sh h RET
theorem K_X12_entryOf {w : Wd} {sh : List Sh} {x0 : Nat} {x1 : Int32} {x2 : Int32} {x3 : Int32} {h : Hp} {RET : Int32 → Hp → Prop} (hV : V_X12_entryOf_0 w sh x0 x1 x2 x3 h RET) : C_X12_entryOf w sh x0 x1 x2 x3 h RET :=
  Ct_of (by decide +kernel) (by simp [lg_sl, rv_cat, cat_int, cat_long]) (fun E X Tt hR _ => by
    rw [show lv_args 0 [rv w.2.2.2 x0, Value.int x1, Value.int x2, Value.int x3] = [(0, rv w.2.2.2 x0), (1, Value.int x1), (2, Value.int x2), (3, Value.int x3)] from by simp [lv_args, rv_cat, cat_int, cat_long]]
    refine g_lv [0, 1, 2, 3] rfl ?_
    exact W_X12_entryOf_0 X Tt hR hV)
def V_X12_asBytes_11 (w : Wd) (sh : List Sh) (x0 : Nat) (x1 : Int32) (x2 : Nat) (x3 : Int32) (x4 : Int32) (h : Hp) (L2 : Nat → Int32 → Nat → Int32 → Hp → Prop) (L11 : Nat → Int32 → Nat → Int32 → Int32 → Hp → Prop) (RET : Hp → Prop) : Prop :=
  (((256 : Int32) ≤ x4) → (∀ y2 : Int32, y2 = x3 + (1 : Int32) → (L2 x0 x1 x2 y2 h))) ∧ ((¬ (256 : Int32) ≤ x4) → (∃ P4 : Int32 → Hp → Prop, C_X12_rowOf w sh x3 h P4 ∧ (∀ (v8 : Int32) (h7 : Hp), P4 v8 h7 → (shAt sh x0 = some (.inr 12) ∧ (∃ P10 : Int32 → Hp → Prop, C_X12_entryOf w sh x0 x1 x4 v8 h7 P10 ∧ (∀ (v14 : Int32) (h13 : Hp), P10 v14 h13 → (∃ n16 : Nat, shAt sh x2 = some (.inl (0, n16)) ∧ (vp_in (((256 : Int32) * x3) + x4) n16 ∧ (∀ h18 : Hp, h18 = wI h13 x2 (((256 : Int32) * x3) + x4).toNatClampNeg (b8 v14) → (∀ y20 : Int32, y20 = x4 + (1 : Int32) → (L11 x0 x1 x2 x3 y20 h18)))))))))))
set_option maxRecDepth 20000 in
set_option maxHeartbeats 4000000 in
theorem W_X12_asBytes_11 {w : Wd} {E : GE} {sh : List Sh} {x0 : Nat} {x1 : Int32} {x2 : Nat} {x3 : Int32} {x4 : Int32} {h : Hp} {L2 : Nat → Int32 → Nat → Int32 → Hp → Prop} {L11 : Nat → Int32 → Nat → Int32 → Int32 → Hp → Prop} {RET : Hp → Prop} (X : Cx w E cX12_asBytes 5 RX12) (Tt : Rt w E none sh.length 0 0 (fun q sh9 h9 => q = none ∧ sh9 = sh ∧ RET h9)) (hR : gR E = { frames := 1, cells := 0, slots := 0, locals := 23 }) (hL2 : ∀ (x0 : Nat) (x1 : Int32) (x2 : Nat) (x3 : Int32) (h : Hp), L2 x0 x1 x2 x3 h → G w E 5 2 [(0, rv w.2.2.2 x0), (1, Value.int x1), (2, rv w.2.2.2 x2), (3, Value.int x3)] [] sh h 0 0) (hL11 : ∀ (x0 : Nat) (x1 : Int32) (x2 : Nat) (x3 : Int32) (x4 : Int32) (h : Hp), L11 x0 x1 x2 x3 x4 h → G w E 5 11 [(0, rv w.2.2.2 x0), (1, Value.int x1), (2, rv w.2.2.2 x2), (3, Value.int x3), (4, Value.int x4)] [] sh h 0 0) (hV : V_X12_asBytes_11 w sh x0 x1 x2 x3 x4 h L2 L11 RET) : G w E 5 11 [(0, rv w.2.2.2 x0), (1, Value.int x1), (2, rv w.2.2.2 x2), (3, Value.int x3), (4, Value.int x4)] [] sh h 0 0 := by
  unfold V_X12_asBytes_11 at hV
  refine g_iload (pc := 11) X 4 rfl dX12_asBytes_11 ?_
  refine g_sipush (pc := 13) (v := (256 : Int32)) X dX12_asBytes_13 (by decide) ?_
  refine g_icmp_ge (pc := 16) X 47 dX12_asBytes_16 (by decide) (fun c1 => ?_) (fun c1 => ?_)
  · have hV := hV.1 c1
    refine g_iinc (pc := 47) X 3 (v := (1 : Int32)) (rest := [(0, rv w.2.2.2 x0), (1, Value.int x1), (2, rv w.2.2.2 x2), (4, Value.int x4)]) rfl (by decide) (by simp [flt1, flt2, rv_cat, cat_int, cat_long]) (by decide) dX12_asBytes_47 (fun y2 e3 => ?_)
    have hV := hV y2 e3
    refine g_goto (pc := 50) X 2 dX12_asBytes_50 (by decide) ?_
    refine g_lv [1, 2, 3, 0] rfl ?_
    exact hL2 x0 x1 x2 y2 h hV
  · have hV := hV.2 c1
    refine g_aload_n (pc := 19) X 2 rfl rfl dX12_asBytes_19 ?_
    refine g_sipush (pc := 20) (v := (256 : Int32)) X dX12_asBytes_20 (by decide) ?_
    refine g_iload_n (pc := 23) X 3 rfl rfl dX12_asBytes_23 ?_
    refine g_imul (pc := 24) X dX12_asBytes_24 ?_
    refine g_iload (pc := 25) X 4 rfl dX12_asBytes_25 ?_
    refine g_iadd (pc := 27) X dX12_asBytes_27 ?_
    refine g_aload_n (pc := 28) X 0 rfl rfl dX12_asBytes_28 ?_
    refine g_iload_n (pc := 29) X 1 rfl rfl dX12_asBytes_29 ?_
    refine g_iload (pc := 30) X 4 rfl dX12_asBytes_30 ?_
    refine g_iload_n (pc := 32) X 3 rfl rfl dX12_asBytes_32 ?_
    obtain ⟨P4, t5, hV⟩ := hV
    refine g_cSI (pc := 33) X (As := [Value.int x3]) ml_X12_122 t5 (by rw [hR]; exact ⟨by decide, by decide, by decide, by decide⟩) rfl rfl (by simp [rv_cat, cat_int, cat_long]) dX12_asBytes_33 (fun v8 h7 p6 => ?_)
    have hV := hV v8 h7 p6
    obtain ⟨q9, hV⟩ := hV
    obtain ⟨P10, t11, hV⟩ := hV
    refine g_cVI (pc := 36) X (As := [Value.int x1, Value.int x4, Value.int v8]) ml_X12_126 rfl q9 t11 (by rw [hR]; exact ⟨by decide, by decide, by decide, by decide⟩) rfl rfl (by simp [rv_cat, cat_int, cat_long]) dX12_asBytes_36 (fun v14 h13 p12 => ?_)
    have hV := hV v14 h13 p12
    refine g_i2b (pc := 39) X dX12_asBytes_39 ?_
    obtain ⟨n16, q15, hV⟩ := hV
    obtain ⟨q17, hV⟩ := hV
    refine g_bast (pc := 40) X q15 q17 dX12_asBytes_40 (fun h18 e19 => ?_)
    have hV := hV h18 e19
    refine g_iinc (pc := 41) X 4 (v := (1 : Int32)) (rest := [(0, rv w.2.2.2 x0), (1, Value.int x1), (2, rv w.2.2.2 x2), (3, Value.int x3)]) rfl (by decide) rfl (by decide) dX12_asBytes_41 (fun y20 e21 => ?_)
    have hV := hV y20 e21
    refine g_goto (pc := 44) X 11 dX12_asBytes_44 (by decide) ?_
    refine g_lv [1, 2, 3, 4, 0] rfl ?_
    exact hL11 x0 x1 x2 x3 y20 h18 hV
def V_X12_asBytes_2 (w : Wd) (sh : List Sh) (x0 : Nat) (x1 : Int32) (x2 : Nat) (x3 : Int32) (h : Hp) (L2 : Nat → Int32 → Nat → Int32 → Hp → Prop) (L11 : Nat → Int32 → Nat → Int32 → Int32 → Hp → Prop) (RET : Hp → Prop) : Prop :=
  (((6 : Int32) ≤ x3) → (RET h)) ∧ ((¬ (6 : Int32) ≤ x3) → (∀ y2 : Int32, y2 = (0 : Int32) → (L11 x0 x1 x2 x3 y2 h)))
set_option maxRecDepth 20000 in
set_option maxHeartbeats 4000000 in
theorem W_X12_asBytes_2 {w : Wd} {E : GE} {sh : List Sh} {x0 : Nat} {x1 : Int32} {x2 : Nat} {x3 : Int32} {h : Hp} {L2 : Nat → Int32 → Nat → Int32 → Hp → Prop} {L11 : Nat → Int32 → Nat → Int32 → Int32 → Hp → Prop} {RET : Hp → Prop} (X : Cx w E cX12_asBytes 5 RX12) (Tt : Rt w E none sh.length 0 0 (fun q sh9 h9 => q = none ∧ sh9 = sh ∧ RET h9)) (hR : gR E = { frames := 1, cells := 0, slots := 0, locals := 23 }) (hL2 : ∀ (x0 : Nat) (x1 : Int32) (x2 : Nat) (x3 : Int32) (h : Hp), L2 x0 x1 x2 x3 h → G w E 5 2 [(0, rv w.2.2.2 x0), (1, Value.int x1), (2, rv w.2.2.2 x2), (3, Value.int x3)] [] sh h 0 0) (hL11 : ∀ (x0 : Nat) (x1 : Int32) (x2 : Nat) (x3 : Int32) (x4 : Int32) (h : Hp), L11 x0 x1 x2 x3 x4 h → G w E 5 11 [(0, rv w.2.2.2 x0), (1, Value.int x1), (2, rv w.2.2.2 x2), (3, Value.int x3), (4, Value.int x4)] [] sh h 0 0) (hV : V_X12_asBytes_2 w sh x0 x1 x2 x3 h L2 L11 RET) : G w E 5 2 [(0, rv w.2.2.2 x0), (1, Value.int x1), (2, rv w.2.2.2 x2), (3, Value.int x3)] [] sh h 0 0 := by
  unfold V_X12_asBytes_2 at hV
  refine g_iload_n (pc := 2) X 3 rfl rfl dX12_asBytes_2 ?_
  refine g_bipush (pc := 3) (v := (6 : Int32)) X dX12_asBytes_3 (by decide) ?_
  refine g_icmp_ge (pc := 5) X 53 dX12_asBytes_5 (by decide) (fun c1 => ?_) (fun c1 => ?_)
  · have hV := hV.1 c1
    exact g_vret (pc := 53) X Tt ⟨rfl, rfl, hV⟩ dX12_asBytes_53
  · have hV := hV.2 c1
    refine g_iconst (pc := 8) (v := (0 : Int32)) X dX12_asBytes_8 (by decide) ?_
    refine g_istore (pc := 9) X (i := 4) (rest := [(0, rv w.2.2.2 x0), (1, Value.int x1), (2, rv w.2.2.2 x2), (3, Value.int x3)]) (by decide) rfl dX12_asBytes_9 (fun y2 e3 => ?_)
    have hV := hV y2 e3
    refine g_lv [1, 2, 3, 4, 0] rfl ?_
    exact hL11 x0 x1 x2 x3 y2 h hV
def V_X12_asBytes_0 (w : Wd) (sh : List Sh) (x0 : Nat) (x1 : Int32) (x2 : Nat) (h : Hp) (L2 : Nat → Int32 → Nat → Int32 → Hp → Prop) (L11 : Nat → Int32 → Nat → Int32 → Int32 → Hp → Prop) (RET : Hp → Prop) : Prop :=
  ∀ y1 : Int32, y1 = (0 : Int32) → (L2 x0 x1 x2 y1 h)
set_option maxRecDepth 20000 in
set_option maxHeartbeats 4000000 in
theorem W_X12_asBytes_0 {w : Wd} {E : GE} {sh : List Sh} {x0 : Nat} {x1 : Int32} {x2 : Nat} {h : Hp} {L2 : Nat → Int32 → Nat → Int32 → Hp → Prop} {L11 : Nat → Int32 → Nat → Int32 → Int32 → Hp → Prop} {RET : Hp → Prop} (X : Cx w E cX12_asBytes 5 RX12) (Tt : Rt w E none sh.length 0 0 (fun q sh9 h9 => q = none ∧ sh9 = sh ∧ RET h9)) (hR : gR E = { frames := 1, cells := 0, slots := 0, locals := 23 }) (hL2 : ∀ (x0 : Nat) (x1 : Int32) (x2 : Nat) (x3 : Int32) (h : Hp), L2 x0 x1 x2 x3 h → G w E 5 2 [(0, rv w.2.2.2 x0), (1, Value.int x1), (2, rv w.2.2.2 x2), (3, Value.int x3)] [] sh h 0 0) (hL11 : ∀ (x0 : Nat) (x1 : Int32) (x2 : Nat) (x3 : Int32) (x4 : Int32) (h : Hp), L11 x0 x1 x2 x3 x4 h → G w E 5 11 [(0, rv w.2.2.2 x0), (1, Value.int x1), (2, rv w.2.2.2 x2), (3, Value.int x3), (4, Value.int x4)] [] sh h 0 0) (hV : V_X12_asBytes_0 w sh x0 x1 x2 h L2 L11 RET) : G w E 5 0 [(0, rv w.2.2.2 x0), (1, Value.int x1), (2, rv w.2.2.2 x2)] [] sh h 0 0 := by
  unfold V_X12_asBytes_0 at hV
  refine g_iconst (pc := 0) (v := (0 : Int32)) X dX12_asBytes_0 (by decide) ?_
  refine g_istore_n (pc := 1) X (i := 3) (rest := [(0, rv w.2.2.2 x0), (1, Value.int x1), (2, rv w.2.2.2 x2)]) rfl (by decide) (by simp [flt1, flt2, rv_cat, cat_int, cat_long]) dX12_asBytes_1 (fun y1 e2 => ?_)
  have hV := hV y1 e2
  refine g_lv [1, 2, 3, 0] rfl ?_
  exact hL2 x0 x1 x2 y1 h hV
def C_X12_asBytes (w : Wd) (sh : List Sh) (x0 : Nat) (x1 : Int32) (x2 : Nat) (h : Hp) (RET : Hp → Prop) : Prop := CV w yX12_asBytes (.code yX12_asBytes cX12_asBytes 5 none) 1 23 [rv w.2.2.2 x0, Value.int x1, rv w.2.2.2 x2] sh h RET
set_option maxRecDepth 20000 in
theorem K_X12_asBytes {w : Wd} {sh : List Sh} {x0 : Nat} {x1 : Int32} {x2 : Nat} {h : Hp} {RET : Hp → Prop} {α : Type} {r : α → α → Prop} (wf : WellFounded r) (I2 : α → Nat → Int32 → Nat → Int32 → Hp → Prop) (I11 : α → Nat → Int32 → Nat → Int32 → Int32 → Hp → Prop) (hE : V_X12_asBytes_0 w sh x0 x1 x2 h (fun x0 x1 x2 x3 h => ∃ a, I2 a x0 x1 x2 x3 h) (fun x0 x1 x2 x3 x4 h => ∃ a, I11 a x0 x1 x2 x3 x4 h) RET) (h2 : ∀ (b : α) (x0 : Nat) (x1 : Int32) (x2 : Nat) (x3 : Int32) (h : Hp), I2 b x0 x1 x2 x3 h → V_X12_asBytes_2 w sh x0 x1 x2 x3 h (fun x0 x1 x2 x3 h => ∃ a, r a b ∧ I2 a x0 x1 x2 x3 h) (fun x0 x1 x2 x3 x4 h => ∃ a, r a b ∧ I11 a x0 x1 x2 x3 x4 h) RET) (h11 : ∀ (b : α) (x0 : Nat) (x1 : Int32) (x2 : Nat) (x3 : Int32) (x4 : Int32) (h : Hp), I11 b x0 x1 x2 x3 x4 h → V_X12_asBytes_11 w sh x0 x1 x2 x3 x4 h (fun x0 x1 x2 x3 h => ∃ a, r a b ∧ I2 a x0 x1 x2 x3 h) (fun x0 x1 x2 x3 x4 h => ∃ a, r a b ∧ I11 a x0 x1 x2 x3 x4 h) RET) : C_X12_asBytes w sh x0 x1 x2 h RET :=
  Ct_of (by decide +kernel) (by simp [lg_sl, rv_cat, cat_int, cat_long]) (fun E X Tt hR _ => by
    have key : ∀ a : α, (∀ (x0 : Nat) (x1 : Int32) (x2 : Nat) (x3 : Int32) (h : Hp), I2 a x0 x1 x2 x3 h → G w E 5 2 [(0, rv w.2.2.2 x0), (1, Value.int x1), (2, rv w.2.2.2 x2), (3, Value.int x3)] [] sh h 0 0) ∧ (∀ (x0 : Nat) (x1 : Int32) (x2 : Nat) (x3 : Int32) (x4 : Int32) (h : Hp), I11 a x0 x1 x2 x3 x4 h → G w E 5 11 [(0, rv w.2.2.2 x0), (1, Value.int x1), (2, rv w.2.2.2 x2), (3, Value.int x3), (4, Value.int x4)] [] sh h 0 0) := by
      intro a
      induction a using wf.induction with
      | _ a ih =>
        exact ⟨(fun x0 x1 x2 x3 h hi => W_X12_asBytes_2 X Tt hR (fun x0 x1 x2 x3 h hx => by obtain ⟨a2, ha, hi⟩ := hx; exact ((ih a2 ha)).1 x0 x1 x2 x3 h hi) (fun x0 x1 x2 x3 x4 h hx => by obtain ⟨a2, ha, hi⟩ := hx; exact ((ih a2 ha)).2 x0 x1 x2 x3 x4 h hi) (h2 a x0 x1 x2 x3 h hi)), (fun x0 x1 x2 x3 x4 h hi => W_X12_asBytes_11 X Tt hR (fun x0 x1 x2 x3 h hx => by obtain ⟨a2, ha, hi⟩ := hx; exact ((ih a2 ha)).1 x0 x1 x2 x3 h hi) (fun x0 x1 x2 x3 x4 h hx => by obtain ⟨a2, ha, hi⟩ := hx; exact ((ih a2 ha)).2 x0 x1 x2 x3 x4 h hi) (h11 a x0 x1 x2 x3 x4 h hi))⟩
    rw [show lv_args 0 [rv w.2.2.2 x0, Value.int x1, rv w.2.2.2 x2] = [(0, rv w.2.2.2 x0), (1, Value.int x1), (2, rv w.2.2.2 x2)] from by simp [lv_args, rv_cat, cat_int, cat_long]]
    refine g_lv [0, 1, 2] rfl ?_
    exact W_X12_asBytes_0 X Tt hR (fun x0 x1 x2 x3 h hx => by obtain ⟨a2, hi⟩ := hx; exact ((key a2)).1 x0 x1 x2 x3 h hi) (fun x0 x1 x2 x3 x4 h hx => by obtain ⟨a2, hi⟩ := hx; exact ((key a2)).2 x0 x1 x2 x3 x4 h hi) hE)
def V_X12_isGood_121 (w : Wd) (sh : List Sh) (x0 : Nat) (x1 : Int32) (x2 : Int32) (x3 : Int32) (s0 : Int32) (h : Hp) (L2 : Nat → Int32 → Int32 → Hp → Prop) (L11 : Nat → Int32 → Int32 → Int32 → Hp → Prop) (RET : Int32 → Hp → Prop) : Prop :=
  ∀ y1 : Int32, y1 = s0 → (((¬ y1 = 0) → (∀ y4 : Int32, y4 = x3 + (3 : Int32) → (L11 x0 x1 x2 y4 h))) ∧ ((y1 = 0) → (RET (0 : Int32) h)))
set_option maxRecDepth 20000 in
set_option maxHeartbeats 4000000 in
theorem W_X12_isGood_121 {w : Wd} {E : GE} {sh : List Sh} {x0 : Nat} {x1 : Int32} {x2 : Int32} {x3 : Int32} {s0 : Int32} {h : Hp} {L2 : Nat → Int32 → Int32 → Hp → Prop} {L11 : Nat → Int32 → Int32 → Int32 → Hp → Prop} {RET : Int32 → Hp → Prop} (X : Cx w E cX12_isGood 8 RX12) (Tt : Rt w E (some .boolean) sh.length 0 0 (fun q sh9 h9 => ∃ v : Int32, q = some (Value.int v) ∧ sh9 = sh ∧ RET v h9)) (hR : gR E = { frames := 1, cells := 0, slots := 0, locals := 23 }) (hL2 : ∀ (x0 : Nat) (x1 : Int32) (x2 : Int32) (h : Hp), L2 x0 x1 x2 h → G w E 8 2 [(0, rv w.2.2.2 x0), (1, Value.int x1), (2, Value.int x2)] [] sh h 0 0) (hL11 : ∀ (x0 : Nat) (x1 : Int32) (x2 : Int32) (x3 : Int32) (h : Hp), L11 x0 x1 x2 x3 h → G w E 8 11 [(0, rv w.2.2.2 x0), (1, Value.int x1), (2, Value.int x2), (3, Value.int x3)] [] sh h 0 0) (hV : V_X12_isGood_121 w sh x0 x1 x2 x3 s0 h L2 L11 RET) : G w E 8 121 [(0, rv w.2.2.2 x0), (1, Value.int x1), (2, Value.int x2), (3, Value.int x3)] [Value.int s0] sh h 0 0 := by
  unfold V_X12_isGood_121 at hV
  refine g_istore (pc := 121) X (i := 7) (rest := [(0, rv w.2.2.2 x0), (1, Value.int x1), (2, Value.int x2), (3, Value.int x3)]) (by decide) rfl dX12_isGood_121 (fun y1 e2 => ?_)
  have hV := hV y1 e2
  refine g_iload (pc := 123) X 0 rfl dX12_isGood_123 ?_
  refine g_if_ne (pc := 125) X 130 dX12_isGood_125 (by decide) (fun c3 => ?_) (fun c3 => ?_)
  · have hV := hV.1 c3
    refine g_iinc (pc := 130) X 4 (v := (3 : Int32)) (rest := [(7, Value.int y1), (0, rv w.2.2.2 x0), (1, Value.int x1), (2, Value.int x2)]) rfl (by decide) rfl (by decide) dX12_isGood_130 (fun y4 e5 => ?_)
    have hV := hV y4 e5
    refine g_goto (pc := 133) X 11 dX12_isGood_133 (by decide) ?_
    refine g_lv [2, 3, 4, 0] rfl ?_
    exact hL11 x0 x1 x2 y4 h hV
  · have hV := hV.2 c3
    refine g_iconst (pc := 128) (v := (0 : Int32)) X dX12_isGood_128 (by decide) ?_
    exact g_zret (pc := 129) X Tt (by decide) ⟨_, rfl, rfl, hV⟩ dX12_isGood_129
def V_X12_isGood_120 (w : Wd) (sh : List Sh) (x0 : Nat) (x1 : Int32) (x2 : Int32) (x3 : Int32) (h : Hp) (L2 : Nat → Int32 → Int32 → Hp → Prop) (L11 : Nat → Int32 → Int32 → Int32 → Hp → Prop) (RET : Int32 → Hp → Prop) : Prop :=
  V_X12_isGood_121 w sh x0 x1 x2 x3 (0 : Int32) h L2 L11 RET
set_option maxRecDepth 20000 in
set_option maxHeartbeats 4000000 in
theorem W_X12_isGood_120 {w : Wd} {E : GE} {sh : List Sh} {x0 : Nat} {x1 : Int32} {x2 : Int32} {x3 : Int32} {h : Hp} {L2 : Nat → Int32 → Int32 → Hp → Prop} {L11 : Nat → Int32 → Int32 → Int32 → Hp → Prop} {RET : Int32 → Hp → Prop} (X : Cx w E cX12_isGood 8 RX12) (Tt : Rt w E (some .boolean) sh.length 0 0 (fun q sh9 h9 => ∃ v : Int32, q = some (Value.int v) ∧ sh9 = sh ∧ RET v h9)) (hR : gR E = { frames := 1, cells := 0, slots := 0, locals := 23 }) (hL2 : ∀ (x0 : Nat) (x1 : Int32) (x2 : Int32) (h : Hp), L2 x0 x1 x2 h → G w E 8 2 [(0, rv w.2.2.2 x0), (1, Value.int x1), (2, Value.int x2)] [] sh h 0 0) (hL11 : ∀ (x0 : Nat) (x1 : Int32) (x2 : Int32) (x3 : Int32) (h : Hp), L11 x0 x1 x2 x3 h → G w E 8 11 [(0, rv w.2.2.2 x0), (1, Value.int x1), (2, Value.int x2), (3, Value.int x3)] [] sh h 0 0) (hV : V_X12_isGood_120 w sh x0 x1 x2 x3 h L2 L11 RET) : G w E 8 120 [(0, rv w.2.2.2 x0), (1, Value.int x1), (2, Value.int x2), (3, Value.int x3)] [] sh h 0 0 := by
  unfold V_X12_isGood_120 at hV
  refine g_iconst (pc := 120) (v := (0 : Int32)) X dX12_isGood_120 (by decide) ?_
  exact W_X12_isGood_121 X Tt hR hL2 hL11 hV
def V_X12_isGood_67 (w : Wd) (sh : List Sh) (x0 : Nat) (x1 : Int32) (x2 : Int32) (x3 : Int32) (h : Hp) (L2 : Nat → Int32 → Int32 → Hp → Prop) (L11 : Nat → Int32 → Int32 → Int32 → Hp → Prop) (RET : Int32 → Hp → Prop) : Prop :=
  V_X12_isGood_121 w sh x0 x1 x2 x3 (0 : Int32) h L2 L11 RET
set_option maxRecDepth 20000 in
set_option maxHeartbeats 4000000 in
theorem W_X12_isGood_67 {w : Wd} {E : GE} {sh : List Sh} {x0 : Nat} {x1 : Int32} {x2 : Int32} {x3 : Int32} {h : Hp} {L2 : Nat → Int32 → Int32 → Hp → Prop} {L11 : Nat → Int32 → Int32 → Int32 → Hp → Prop} {RET : Int32 → Hp → Prop} (X : Cx w E cX12_isGood 8 RX12) (Tt : Rt w E (some .boolean) sh.length 0 0 (fun q sh9 h9 => ∃ v : Int32, q = some (Value.int v) ∧ sh9 = sh ∧ RET v h9)) (hR : gR E = { frames := 1, cells := 0, slots := 0, locals := 23 }) (hL2 : ∀ (x0 : Nat) (x1 : Int32) (x2 : Int32) (h : Hp), L2 x0 x1 x2 h → G w E 8 2 [(0, rv w.2.2.2 x0), (1, Value.int x1), (2, Value.int x2)] [] sh h 0 0) (hL11 : ∀ (x0 : Nat) (x1 : Int32) (x2 : Int32) (x3 : Int32) (h : Hp), L11 x0 x1 x2 x3 h → G w E 8 11 [(0, rv w.2.2.2 x0), (1, Value.int x1), (2, Value.int x2), (3, Value.int x3)] [] sh h 0 0) (hV : V_X12_isGood_67 w sh x0 x1 x2 x3 h L2 L11 RET) : G w E 8 67 [(0, rv w.2.2.2 x0), (1, Value.int x1), (2, Value.int x2), (3, Value.int x3)] [] sh h 0 0 := by
  unfold V_X12_isGood_67 at hV
  refine g_iconst (pc := 67) (v := (0 : Int32)) X dX12_isGood_67 (by decide) ?_
  refine g_goto (pc := 68) X 121 dX12_isGood_68 (by decide) ?_
  exact W_X12_isGood_121 X Tt hR hL2 hL11 hV
def V_X12_isGood_11 (w : Wd) (sh : List Sh) (x0 : Nat) (x1 : Int32) (x2 : Int32) (x3 : Int32) (h : Hp) (L2 : Nat → Int32 → Int32 → Hp → Prop) (L11 : Nat → Int32 → Int32 → Int32 → Hp → Prop) (RET : Int32 → Hp → Prop) : Prop :=
  (((6 : Int32) ≤ x3) → (∀ y2 : Int32, y2 = x2 + (1 : Int32) → (L2 x0 x1 y2 h))) ∧ ((¬ (6 : Int32) ≤ x3) → (shAt sh x0 = some (.inr 12) ∧ (∃ P5 : Int32 → Hp → Prop, C_X12_entryOf w sh x0 x1 x2 x3 h P5 ∧ (∀ (v9 : Int32) (h8 : Hp), P5 v9 h8 → (∀ y10 : Int32, y10 = v9 → (∃ P12 : Int32 → Hp → Prop, C_X12_entryOf w sh x0 x1 x2 (x3 + (1 : Int32)) h8 P12 ∧ (∀ (v16 : Int32) (h15 : Hp), P12 v16 h15 → (∀ y17 : Int32, y17 = v16 → (∃ P19 : Int32 → Hp → Prop, C_X12_entryOf w sh x0 x1 x2 (x3 + (2 : Int32)) h15 P19 ∧ (∀ (v23 : Int32) (h22 : Hp), P19 v23 h22 → (∀ y24 : Int32, y24 = v23 → (((¬ y10 = 0) → (((¬ y10 = (3 : Int32)) → ((((3 : Int32) ≤ y10) → (V_X12_isGood_120 w sh x0 x1 x2 x3 h22 L2 L11 RET)) ∧ ((¬ (3 : Int32) ≤ y10) → (((¬ y24 = 0) → (V_X12_isGood_120 w sh x0 x1 x2 x3 h22 L2 L11 RET)) ∧ ((y24 = 0) → (V_X12_isGood_121 w sh x0 x1 x2 x3 (1 : Int32) h22 L2 L11 RET)))))) ∧ ((y10 = (3 : Int32)) → (∃ n31 : Nat, shAt sh (h22.2.1 x0 10) = some (.inl (1, n31)) ∧ (vp_in x1 n31 ∧ (∃ n34 : Nat, shAt sh (h22.2.1 x0 11) = some (.inl (1, n34)) ∧ (vp_in x1 n34 ∧ ((((((2 : Int32) + (h22.1 (h22.2.1 x0 10) x1.toNatClampNeg)) + (h22.1 (h22.2.1 x0 11) x1.toNatClampNeg)) ≤ y24) → (V_X12_isGood_121 w sh x0 x1 x2 x3 (0 : Int32) h22 L2 L11 RET)) ∧ ((¬ (((2 : Int32) + (h22.1 (h22.2.1 x0 10) x1.toNatClampNeg)) + (h22.1 (h22.2.1 x0 11) x1.toNatClampNeg)) ≤ y24) → (V_X12_isGood_121 w sh x0 x1 x2 x3 (1 : Int32) h22 L2 L11 RET)))))))))) ∧ ((y10 = 0) → (((¬ y17 = 0) → (V_X12_isGood_67 w sh x0 x1 x2 x3 h22 L2 L11 RET)) ∧ ((y17 = 0) → (((¬ y24 = 0) → (V_X12_isGood_67 w sh x0 x1 x2 x3 h22 L2 L11 RET)) ∧ ((y24 = 0) → (V_X12_isGood_121 w sh x0 x1 x2 x3 (1 : Int32) h22 L2 L11 RET))))))))))))))))))
set_option maxRecDepth 20000 in
set_option maxHeartbeats 4000000 in
theorem W_X12_isGood_11 {w : Wd} {E : GE} {sh : List Sh} {x0 : Nat} {x1 : Int32} {x2 : Int32} {x3 : Int32} {h : Hp} {L2 : Nat → Int32 → Int32 → Hp → Prop} {L11 : Nat → Int32 → Int32 → Int32 → Hp → Prop} {RET : Int32 → Hp → Prop} (X : Cx w E cX12_isGood 8 RX12) (Tt : Rt w E (some .boolean) sh.length 0 0 (fun q sh9 h9 => ∃ v : Int32, q = some (Value.int v) ∧ sh9 = sh ∧ RET v h9)) (hR : gR E = { frames := 1, cells := 0, slots := 0, locals := 23 }) (hL2 : ∀ (x0 : Nat) (x1 : Int32) (x2 : Int32) (h : Hp), L2 x0 x1 x2 h → G w E 8 2 [(0, rv w.2.2.2 x0), (1, Value.int x1), (2, Value.int x2)] [] sh h 0 0) (hL11 : ∀ (x0 : Nat) (x1 : Int32) (x2 : Int32) (x3 : Int32) (h : Hp), L11 x0 x1 x2 x3 h → G w E 8 11 [(0, rv w.2.2.2 x0), (1, Value.int x1), (2, Value.int x2), (3, Value.int x3)] [] sh h 0 0) (hV : V_X12_isGood_11 w sh x0 x1 x2 x3 h L2 L11 RET) : G w E 8 11 [(0, rv w.2.2.2 x0), (1, Value.int x1), (2, Value.int x2), (3, Value.int x3)] [] sh h 0 0 := by
  unfold V_X12_isGood_11 at hV
  refine g_iload_n (pc := 11) X 3 rfl rfl dX12_isGood_11 ?_
  refine g_bipush (pc := 12) (v := (6 : Int32)) X dX12_isGood_12 (by decide) ?_
  refine g_icmp_ge (pc := 14) X 136 dX12_isGood_14 (by decide) (fun c1 => ?_) (fun c1 => ?_)
  · have hV := hV.1 c1
    refine g_iinc (pc := 136) X 2 (v := (1 : Int32)) (rest := [(0, rv w.2.2.2 x0), (1, Value.int x1), (3, Value.int x3)]) rfl (by decide) rfl (by decide) dX12_isGood_136 (fun y2 e3 => ?_)
    have hV := hV y2 e3
    refine g_goto (pc := 139) X 2 dX12_isGood_139 (by decide) ?_
    refine g_lv [1, 2, 0] rfl ?_
    exact hL2 x0 x1 y2 h hV
  · have hV := hV.2 c1
    refine g_aload_n (pc := 17) X 0 rfl rfl dX12_isGood_17 ?_
    refine g_iload_n (pc := 18) X 1 rfl rfl dX12_isGood_18 ?_
    refine g_iload_n (pc := 19) X 2 rfl rfl dX12_isGood_19 ?_
    refine g_iload_n (pc := 20) X 3 rfl rfl dX12_isGood_20 ?_
    obtain ⟨q4, hV⟩ := hV
    obtain ⟨P5, t6, hV⟩ := hV
    refine g_cVI (pc := 21) X (As := [Value.int x1, Value.int x2, Value.int x3]) ml_X12_126 rfl q4 t6 (by rw [hR]; exact ⟨by decide, by decide, by decide, by decide⟩) rfl rfl (Nat.zero_le _) dX12_isGood_21 (fun v9 h8 p7 => ?_)
    have hV := hV v9 h8 p7
    refine g_istore (pc := 24) X (i := 4) (rest := [(0, rv w.2.2.2 x0), (1, Value.int x1), (2, Value.int x2), (3, Value.int x3)]) (by decide) rfl dX12_isGood_24 (fun y10 e11 => ?_)
    have hV := hV y10 e11
    refine g_aload_n (pc := 26) X 1 rfl rfl dX12_isGood_26 ?_
    refine g_iload_n (pc := 27) X 2 rfl rfl dX12_isGood_27 ?_
    refine g_iload_n (pc := 28) X 3 rfl rfl dX12_isGood_28 ?_
    refine g_iload_n (pc := 29) X 4 rfl rfl dX12_isGood_29 ?_
    refine g_iconst (pc := 30) (v := (1 : Int32)) X dX12_isGood_30 (by decide) ?_
    refine g_iadd (pc := 31) X dX12_isGood_31 ?_
    obtain ⟨P12, t13, hV⟩ := hV
    refine g_cVI (pc := 32) X (As := [Value.int x1, Value.int x2, Value.int (x3 + (1 : Int32))]) ml_X12_126 rfl q4 t13 (by rw [hR]; exact ⟨by decide, by decide, by decide, by decide⟩) rfl rfl (Nat.zero_le _) dX12_isGood_32 (fun v16 h15 p14 => ?_)
    have hV := hV v16 h15 p14
    refine g_istore (pc := 35) X (i := 5) (rest := [(4, Value.int y10), (0, rv w.2.2.2 x0), (1, Value.int x1), (2, Value.int x2), (3, Value.int x3)]) (by decide) rfl dX12_isGood_35 (fun y17 e18 => ?_)
    have hV := hV y17 e18
    refine g_aload_n (pc := 37) X 2 rfl rfl dX12_isGood_37 ?_
    refine g_iload_n (pc := 38) X 3 rfl rfl dX12_isGood_38 ?_
    refine g_iload_n (pc := 39) X 4 rfl rfl dX12_isGood_39 ?_
    refine g_iload_n (pc := 40) X 5 rfl rfl dX12_isGood_40 ?_
    refine g_iconst (pc := 41) (v := (2 : Int32)) X dX12_isGood_41 (by decide) ?_
    refine g_iadd (pc := 42) X dX12_isGood_42 ?_
    obtain ⟨P19, t20, hV⟩ := hV
    refine g_cVI (pc := 43) X (As := [Value.int x1, Value.int x2, Value.int (x3 + (2 : Int32))]) ml_X12_126 rfl q4 t20 (by rw [hR]; exact ⟨by decide, by decide, by decide, by decide⟩) rfl rfl (Nat.zero_le _) dX12_isGood_43 (fun v23 h22 p21 => ?_)
    have hV := hV v23 h22 p21
    refine g_istore (pc := 46) X (i := 6) (rest := [(5, Value.int y17), (4, Value.int y10), (0, rv w.2.2.2 x0), (1, Value.int x1), (2, Value.int x2), (3, Value.int x3)]) (by decide) rfl dX12_isGood_46 (fun y24 e25 => ?_)
    have hV := hV y24 e25
    refine g_iload (pc := 48) X 2 rfl dX12_isGood_48 ?_
    refine g_if_ne (pc := 50) X 71 dX12_isGood_50 (by decide) (fun c26 => ?_) (fun c26 => ?_)
    · have hV := hV.1 c26
      refine g_iload (pc := 71) X 2 rfl dX12_isGood_71 ?_
      refine g_iconst (pc := 73) (v := (3 : Int32)) X dX12_isGood_73 (by decide) ?_
      refine g_icmp_ne (pc := 74) X 105 dX12_isGood_74 (by decide) (fun c27 => ?_) (fun c27 => ?_)
      · have hV := hV.1 c27
        refine g_iload (pc := 105) X 2 rfl dX12_isGood_105 ?_
        refine g_iconst (pc := 107) (v := (3 : Int32)) X dX12_isGood_107 (by decide) ?_
        refine g_icmp_ge (pc := 108) X 120 dX12_isGood_108 (by decide) (fun c28 => ?_) (fun c28 => ?_)
        · have hV := hV.1 c28
          refine g_lv [3, 4, 5, 6] rfl ?_
          exact W_X12_isGood_120 X Tt hR hL2 hL11 hV
        · have hV := hV.2 c28
          refine g_iload (pc := 111) X 0 rfl dX12_isGood_111 ?_
          refine g_if_ne (pc := 113) X 120 dX12_isGood_113 (by decide) (fun c29 => ?_) (fun c29 => ?_)
          · have hV := hV.1 c29
            refine g_lv [3, 4, 5, 6] rfl ?_
            exact W_X12_isGood_120 X Tt hR hL2 hL11 hV
          · have hV := hV.2 c29
            refine g_iconst (pc := 116) (v := (1 : Int32)) X dX12_isGood_116 (by decide) ?_
            refine g_goto (pc := 117) X 121 dX12_isGood_117 (by decide) ?_
            refine g_lv [3, 4, 5, 6] rfl ?_
            exact W_X12_isGood_121 X Tt hR hL2 hL11 hV
      · have hV := hV.2 c27
        refine g_iload (pc := 77) X 0 rfl dX12_isGood_77 ?_
        refine g_iconst (pc := 79) (v := (2 : Int32)) X dX12_isGood_79 (by decide) ?_
        refine g_aload_n (pc := 80) X 3 rfl rfl dX12_isGood_80 ?_
        refine g_getR (pc := 81) X fl_X12_27 q4 dX12_isGood_81 ?_
        refine g_iload_n (pc := 84) X 4 rfl rfl dX12_isGood_84 ?_
        obtain ⟨n31, q30, hV⟩ := hV
        obtain ⟨q32, hV⟩ := hV
        refine g_iald (pc := 85) X q30 q32 dX12_isGood_85 ?_
        refine g_iadd (pc := 86) X dX12_isGood_86 ?_
        refine g_aload_n (pc := 87) X 3 rfl rfl dX12_isGood_87 ?_
        refine g_getR (pc := 88) X fl_X12_30 q4 dX12_isGood_88 ?_
        refine g_iload_n (pc := 91) X 4 rfl rfl dX12_isGood_91 ?_
        obtain ⟨n34, q33, hV⟩ := hV
        obtain ⟨q35, hV⟩ := hV
        refine g_iald (pc := 92) X q33 q35 dX12_isGood_92 ?_
        refine g_iadd (pc := 93) X dX12_isGood_93 ?_
        refine g_icmp_ge (pc := 94) X 101 dX12_isGood_94 (by decide) (fun c36 => ?_) (fun c36 => ?_)
        · have hV := hV.1 c36
          refine g_iconst (pc := 101) (v := (0 : Int32)) X dX12_isGood_101 (by decide) ?_
          refine g_goto (pc := 102) X 121 dX12_isGood_102 (by decide) ?_
          refine g_lv [3, 4, 5, 6] rfl ?_
          exact W_X12_isGood_121 X Tt hR hL2 hL11 hV
        · have hV := hV.2 c36
          refine g_iconst (pc := 97) (v := (1 : Int32)) X dX12_isGood_97 (by decide) ?_
          refine g_goto (pc := 98) X 121 dX12_isGood_98 (by decide) ?_
          refine g_lv [3, 4, 5, 6] rfl ?_
          exact W_X12_isGood_121 X Tt hR hL2 hL11 hV
    · have hV := hV.2 c26
      refine g_iload (pc := 53) X 1 rfl dX12_isGood_53 ?_
      refine g_if_ne (pc := 55) X 67 dX12_isGood_55 (by decide) (fun c37 => ?_) (fun c37 => ?_)
      · have hV := hV.1 c37
        refine g_lv [3, 4, 5, 6] rfl ?_
        exact W_X12_isGood_67 X Tt hR hL2 hL11 hV
      · have hV := hV.2 c37
        refine g_iload (pc := 58) X 0 rfl dX12_isGood_58 ?_
        refine g_if_ne (pc := 60) X 67 dX12_isGood_60 (by decide) (fun c38 => ?_) (fun c38 => ?_)
        · have hV := hV.1 c38
          refine g_lv [3, 4, 5, 6] rfl ?_
          exact W_X12_isGood_67 X Tt hR hL2 hL11 hV
        · have hV := hV.2 c38
          refine g_iconst (pc := 63) (v := (1 : Int32)) X dX12_isGood_63 (by decide) ?_
          refine g_goto (pc := 64) X 121 dX12_isGood_64 (by decide) ?_
          refine g_lv [3, 4, 5, 6] rfl ?_
          exact W_X12_isGood_121 X Tt hR hL2 hL11 hV
def V_X12_isGood_2 (w : Wd) (sh : List Sh) (x0 : Nat) (x1 : Int32) (x2 : Int32) (h : Hp) (L2 : Nat → Int32 → Int32 → Hp → Prop) (L11 : Nat → Int32 → Int32 → Int32 → Hp → Prop) (RET : Int32 → Hp → Prop) : Prop :=
  (((256 : Int32) ≤ x2) → (RET (1 : Int32) h)) ∧ ((¬ (256 : Int32) ≤ x2) → (∀ y2 : Int32, y2 = (0 : Int32) → (L11 x0 x1 x2 y2 h)))
set_option maxRecDepth 20000 in
set_option maxHeartbeats 4000000 in
theorem W_X12_isGood_2 {w : Wd} {E : GE} {sh : List Sh} {x0 : Nat} {x1 : Int32} {x2 : Int32} {h : Hp} {L2 : Nat → Int32 → Int32 → Hp → Prop} {L11 : Nat → Int32 → Int32 → Int32 → Hp → Prop} {RET : Int32 → Hp → Prop} (X : Cx w E cX12_isGood 8 RX12) (Tt : Rt w E (some .boolean) sh.length 0 0 (fun q sh9 h9 => ∃ v : Int32, q = some (Value.int v) ∧ sh9 = sh ∧ RET v h9)) (hR : gR E = { frames := 1, cells := 0, slots := 0, locals := 23 }) (hL2 : ∀ (x0 : Nat) (x1 : Int32) (x2 : Int32) (h : Hp), L2 x0 x1 x2 h → G w E 8 2 [(0, rv w.2.2.2 x0), (1, Value.int x1), (2, Value.int x2)] [] sh h 0 0) (hL11 : ∀ (x0 : Nat) (x1 : Int32) (x2 : Int32) (x3 : Int32) (h : Hp), L11 x0 x1 x2 x3 h → G w E 8 11 [(0, rv w.2.2.2 x0), (1, Value.int x1), (2, Value.int x2), (3, Value.int x3)] [] sh h 0 0) (hV : V_X12_isGood_2 w sh x0 x1 x2 h L2 L11 RET) : G w E 8 2 [(0, rv w.2.2.2 x0), (1, Value.int x1), (2, Value.int x2)] [] sh h 0 0 := by
  unfold V_X12_isGood_2 at hV
  refine g_iload_n (pc := 2) X 2 rfl rfl dX12_isGood_2 ?_
  refine g_sipush (pc := 3) (v := (256 : Int32)) X dX12_isGood_3 (by decide) ?_
  refine g_icmp_ge (pc := 6) X 142 dX12_isGood_6 (by decide) (fun c1 => ?_) (fun c1 => ?_)
  · have hV := hV.1 c1
    refine g_iconst (pc := 142) (v := (1 : Int32)) X dX12_isGood_142 (by decide) ?_
    exact g_zret (pc := 143) X Tt (by decide) ⟨_, rfl, rfl, hV⟩ dX12_isGood_143
  · have hV := hV.2 c1
    refine g_iconst (pc := 9) (v := (0 : Int32)) X dX12_isGood_9 (by decide) ?_
    refine g_istore_n (pc := 10) X (i := 3) (rest := [(0, rv w.2.2.2 x0), (1, Value.int x1), (2, Value.int x2)]) rfl (by decide) rfl dX12_isGood_10 (fun y2 e3 => ?_)
    have hV := hV y2 e3
    refine g_lv [1, 2, 3, 0] rfl ?_
    exact hL11 x0 x1 x2 y2 h hV
def V_X12_isGood_0 (w : Wd) (sh : List Sh) (x0 : Nat) (x1 : Int32) (h : Hp) (L2 : Nat → Int32 → Int32 → Hp → Prop) (L11 : Nat → Int32 → Int32 → Int32 → Hp → Prop) (RET : Int32 → Hp → Prop) : Prop :=
  ∀ y1 : Int32, y1 = (0 : Int32) → (L2 x0 x1 y1 h)
set_option maxRecDepth 20000 in
set_option maxHeartbeats 4000000 in
theorem W_X12_isGood_0 {w : Wd} {E : GE} {sh : List Sh} {x0 : Nat} {x1 : Int32} {h : Hp} {L2 : Nat → Int32 → Int32 → Hp → Prop} {L11 : Nat → Int32 → Int32 → Int32 → Hp → Prop} {RET : Int32 → Hp → Prop} (X : Cx w E cX12_isGood 8 RX12) (Tt : Rt w E (some .boolean) sh.length 0 0 (fun q sh9 h9 => ∃ v : Int32, q = some (Value.int v) ∧ sh9 = sh ∧ RET v h9)) (hR : gR E = { frames := 1, cells := 0, slots := 0, locals := 23 }) (hL2 : ∀ (x0 : Nat) (x1 : Int32) (x2 : Int32) (h : Hp), L2 x0 x1 x2 h → G w E 8 2 [(0, rv w.2.2.2 x0), (1, Value.int x1), (2, Value.int x2)] [] sh h 0 0) (hL11 : ∀ (x0 : Nat) (x1 : Int32) (x2 : Int32) (x3 : Int32) (h : Hp), L11 x0 x1 x2 x3 h → G w E 8 11 [(0, rv w.2.2.2 x0), (1, Value.int x1), (2, Value.int x2), (3, Value.int x3)] [] sh h 0 0) (hV : V_X12_isGood_0 w sh x0 x1 h L2 L11 RET) : G w E 8 0 [(0, rv w.2.2.2 x0), (1, Value.int x1)] [] sh h 0 0 := by
  unfold V_X12_isGood_0 at hV
  refine g_iconst (pc := 0) (v := (0 : Int32)) X dX12_isGood_0 (by decide) ?_
  refine g_istore_n (pc := 1) X (i := 2) (rest := [(0, rv w.2.2.2 x0), (1, Value.int x1)]) rfl (by decide) rfl dX12_isGood_1 (fun y1 e2 => ?_)
  have hV := hV y1 e2
  refine g_lv [1, 2, 0] rfl ?_
  exact hL2 x0 x1 y1 h hV
def C_X12_isGood (w : Wd) (sh : List Sh) (x0 : Nat) (x1 : Int32) (h : Hp) (RET : Int32 → Hp → Prop) : Prop := CI w yX12_isGood (.code yX12_isGood cX12_isGood 8 (some .boolean)) 1 23 [rv w.2.2.2 x0, Value.int x1] sh h RET
set_option maxRecDepth 20000 in
theorem K_X12_isGood {w : Wd} {sh : List Sh} {x0 : Nat} {x1 : Int32} {h : Hp} {RET : Int32 → Hp → Prop} {α : Type} {r : α → α → Prop} (wf : WellFounded r) (I2 : α → Nat → Int32 → Int32 → Hp → Prop) (I11 : α → Nat → Int32 → Int32 → Int32 → Hp → Prop) (hE : V_X12_isGood_0 w sh x0 x1 h (fun x0 x1 x2 h => ∃ a, I2 a x0 x1 x2 h) (fun x0 x1 x2 x3 h => ∃ a, I11 a x0 x1 x2 x3 h) RET) (h2 : ∀ (b : α) (x0 : Nat) (x1 : Int32) (x2 : Int32) (h : Hp), I2 b x0 x1 x2 h → V_X12_isGood_2 w sh x0 x1 x2 h (fun x0 x1 x2 h => ∃ a, r a b ∧ I2 a x0 x1 x2 h) (fun x0 x1 x2 x3 h => ∃ a, r a b ∧ I11 a x0 x1 x2 x3 h) RET) (h11 : ∀ (b : α) (x0 : Nat) (x1 : Int32) (x2 : Int32) (x3 : Int32) (h : Hp), I11 b x0 x1 x2 x3 h → V_X12_isGood_11 w sh x0 x1 x2 x3 h (fun x0 x1 x2 h => ∃ a, r a b ∧ I2 a x0 x1 x2 h) (fun x0 x1 x2 x3 h => ∃ a, r a b ∧ I11 a x0 x1 x2 x3 h) RET) : C_X12_isGood w sh x0 x1 h RET :=
  Ct_of (by decide +kernel) (by simp [lg_sl, rv_cat, cat_int, cat_long]) (fun E X Tt hR _ => by
    have key : ∀ a : α, (∀ (x0 : Nat) (x1 : Int32) (x2 : Int32) (h : Hp), I2 a x0 x1 x2 h → G w E 8 2 [(0, rv w.2.2.2 x0), (1, Value.int x1), (2, Value.int x2)] [] sh h 0 0) ∧ (∀ (x0 : Nat) (x1 : Int32) (x2 : Int32) (x3 : Int32) (h : Hp), I11 a x0 x1 x2 x3 h → G w E 8 11 [(0, rv w.2.2.2 x0), (1, Value.int x1), (2, Value.int x2), (3, Value.int x3)] [] sh h 0 0) := by
      intro a
      induction a using wf.induction with
      | _ a ih =>
        exact ⟨(fun x0 x1 x2 h hi => W_X12_isGood_2 X Tt hR (fun x0 x1 x2 h hx => by obtain ⟨a2, ha, hi⟩ := hx; exact ((ih a2 ha)).1 x0 x1 x2 h hi) (fun x0 x1 x2 x3 h hx => by obtain ⟨a2, ha, hi⟩ := hx; exact ((ih a2 ha)).2 x0 x1 x2 x3 h hi) (h2 a x0 x1 x2 h hi)), (fun x0 x1 x2 x3 h hi => W_X12_isGood_11 X Tt hR (fun x0 x1 x2 h hx => by obtain ⟨a2, ha, hi⟩ := hx; exact ((ih a2 ha)).1 x0 x1 x2 h hi) (fun x0 x1 x2 x3 h hx => by obtain ⟨a2, ha, hi⟩ := hx; exact ((ih a2 ha)).2 x0 x1 x2 x3 h hi) (h11 a x0 x1 x2 x3 h hi))⟩
    rw [show lv_args 0 [rv w.2.2.2 x0, Value.int x1] = [(0, rv w.2.2.2 x0), (1, Value.int x1)] from by simp [lv_args, rv_cat, cat_int, cat_long]]
    refine g_lv [0, 1] rfl ?_
    exact W_X12_isGood_0 X Tt hR (fun x0 x1 x2 h hx => by obtain ⟨a2, hi⟩ := hx; exact ((key a2)).1 x0 x1 x2 h hi) (fun x0 x1 x2 x3 h hx => by obtain ⟨a2, hi⟩ := hx; exact ((key a2)).2 x0 x1 x2 x3 h hi) hE)
def V_X12_feed_44 (w : Wd) (sh : List Sh) (x0 : Nat) (x1 : Int64) (x4 : Int32) (h : Hp) (L44 : Nat → Int64 → Int32 → Hp → Prop) (RET : Int32 → Hp → Prop) : Prop :=
  ((x4 < 0) → (shAt sh x0 = some (.inr 12) ∧ (RET (h.1 x0 1) h))) ∧ ((¬ x4 < 0) → (shAt sh x0 = some (.inr 12) ∧ (∃ n5 : Nat, shAt sh (h.2.1 x0 0) = some (.inl (0, n5)) ∧ (vp_in (h.1 x0 1) n5 ∧ (∀ h7 : Hp, h7 = wI h (h.2.1 x0 0) (h.1 x0 1).toNatClampNeg (b8 ((x1 >>> (((8 : Int32) * x4).toInt64 &&& 63)).toInt32)) → (∀ h9 : Hp, h9 = wI h7 x0 1 ((h7.1 x0 1) + (1 : Int32)) → (∀ y11 : Int32, y11 = x4 + (-1 : Int32) → (L44 x0 x1 y11 h9))))))))
set_option maxRecDepth 20000 in
set_option maxHeartbeats 4000000 in
theorem W_X12_feed_44 {w : Wd} {E : GE} {sh : List Sh} {x0 : Nat} {x1 : Int64} {x4 : Int32} {h : Hp} {L44 : Nat → Int64 → Int32 → Hp → Prop} {RET : Int32 → Hp → Prop} (X : Cx w E cX12_feed 5 RX12) (Tt : Rt w E (some .int) sh.length 0 0 (fun q sh9 h9 => ∃ v : Int32, q = some (Value.int v) ∧ sh9 = sh ∧ RET v h9)) (hR : gR E = { frames := 0, cells := 0, slots := 0, locals := 0 }) (hL44 : ∀ (x0 : Nat) (x1 : Int64) (x4 : Int32) (h : Hp), L44 x0 x1 x4 h → G w E 5 44 [(0, rv w.2.2.2 x0), (1, Value.long x1), (4, Value.int x4)] [] sh h 0 0) (hV : V_X12_feed_44 w sh x0 x1 x4 h L44 RET) : G w E 5 44 [(0, rv w.2.2.2 x0), (1, Value.long x1), (4, Value.int x4)] [] sh h 0 0 := by
  unfold V_X12_feed_44 at hV
  refine g_iload (pc := 44) X 2 rfl dX12_feed_44 ?_
  refine g_if_lt (pc := 46) X 83 dX12_feed_46 (by decide) (fun c1 => ?_) (fun c1 => ?_)
  · have hV := hV.1 c1
    refine g_aload_n (pc := 83) X 0 rfl rfl dX12_feed_83 ?_
    obtain ⟨q2, hV⟩ := hV
    refine g_getI (pc := 84) X fl_X12_130 q2 dX12_feed_84 ?_
    exact g_iret (pc := 87) X Tt ⟨_, rfl, rfl, hV⟩ dX12_feed_87
  · have hV := hV.2 c1
    refine g_aload_n (pc := 49) X 0 rfl rfl dX12_feed_49 ?_
    obtain ⟨q3, hV⟩ := hV
    refine g_getR (pc := 50) X fl_X12_7 q3 dX12_feed_50 ?_
    refine g_aload_n (pc := 53) X 0 rfl rfl dX12_feed_53 ?_
    refine g_getI (pc := 54) X fl_X12_130 q3 dX12_feed_54 ?_
    refine g_lload_n (pc := 57) X 1 rfl rfl dX12_feed_57 ?_
    refine g_bipush (pc := 58) (v := (8 : Int32)) X dX12_feed_58 (by decide) ?_
    refine g_iload (pc := 60) X 2 rfl dX12_feed_60 ?_
    refine g_imul (pc := 62) X dX12_feed_62 ?_
    refine g_lshr (pc := 63) X dX12_feed_63 ?_
    refine g_l2i (pc := 64) X dX12_feed_64 ?_
    refine g_i2b (pc := 65) X dX12_feed_65 ?_
    obtain ⟨n5, q4, hV⟩ := hV
    obtain ⟨q6, hV⟩ := hV
    refine g_bast (pc := 66) X q4 q6 dX12_feed_66 (fun h7 e8 => ?_)
    have hV := hV h7 e8
    refine g_aload_n (pc := 67) X 0 rfl rfl dX12_feed_67 ?_
    refine g_dup (pc := 68) X dX12_feed_68 (rv_cat _ _) ?_
    refine g_getI (pc := 69) X fl_X12_130 q3 dX12_feed_69 ?_
    refine g_iconst (pc := 72) (v := (1 : Int32)) X dX12_feed_72 (by decide) ?_
    refine g_iadd (pc := 73) X dX12_feed_73 ?_
    refine g_putI (pc := 74) X fl_X12_130 q3 rfl rfl dX12_feed_74 (fun h9 e10 => ?_)
    have hV := hV h9 e10
    refine g_iinc (pc := 77) X 2 (v := (-1 : Int32)) (rest := [(0, rv w.2.2.2 x0), (1, Value.long x1)]) rfl (by decide) rfl (by decide) dX12_feed_77 (fun y11 e12 => ?_)
    have hV := hV y11 e12
    refine g_goto (pc := 80) X 44 dX12_feed_80 (by decide) ?_
    refine g_lv [1, 2, 0] rfl ?_
    exact hL44 x0 x1 y11 h9 hV
def V_X12_feed_0 (w : Wd) (sh : List Sh) (x0 : Nat) (x1 : Int64) (x3 : Int32) (h : Hp) (L44 : Nat → Int64 → Int32 → Hp → Prop) (RET : Int32 → Hp → Prop) : Prop :=
  ((x3 < 0) → (RET (-2 : Int32) h)) ∧ ((¬ x3 < 0) → (((x3 ≤ (8 : Int32)) → (((¬ x3 = 0) → (shAt sh x0 = some (.inr 12) ∧ (((((h.1 x0 1) + x3) ≤ (8000 : Int32)) → (∀ y6 : Int32, y6 = (x3 - (1 : Int32)) → (L44 x0 x1 y6 h))) ∧ ((¬ ((h.1 x0 1) + x3) ≤ (8000 : Int32)) → (RET (-4 : Int32) h))))) ∧ ((x3 = 0) → (shAt sh x0 = some (.inr 12) ∧ (∀ h9 : Hp, h9 = wI h x0 1 (0 : Int32) → (RET (0 : Int32) h9)))))) ∧ ((¬ x3 ≤ (8 : Int32)) → (RET (-2 : Int32) h))))
set_option maxRecDepth 20000 in
set_option maxHeartbeats 4000000 in
theorem W_X12_feed_0 {w : Wd} {E : GE} {sh : List Sh} {x0 : Nat} {x1 : Int64} {x3 : Int32} {h : Hp} {L44 : Nat → Int64 → Int32 → Hp → Prop} {RET : Int32 → Hp → Prop} (X : Cx w E cX12_feed 5 RX12) (Tt : Rt w E (some .int) sh.length 0 0 (fun q sh9 h9 => ∃ v : Int32, q = some (Value.int v) ∧ sh9 = sh ∧ RET v h9)) (hR : gR E = { frames := 0, cells := 0, slots := 0, locals := 0 }) (hL44 : ∀ (x0 : Nat) (x1 : Int64) (x4 : Int32) (h : Hp), L44 x0 x1 x4 h → G w E 5 44 [(0, rv w.2.2.2 x0), (1, Value.long x1), (4, Value.int x4)] [] sh h 0 0) (hV : V_X12_feed_0 w sh x0 x1 x3 h L44 RET) : G w E 5 0 [(0, rv w.2.2.2 x0), (1, Value.long x1), (3, Value.int x3)] [] sh h 0 0 := by
  unfold V_X12_feed_0 at hV
  refine g_iload_n (pc := 0) X 2 rfl rfl dX12_feed_0 ?_
  refine g_if_lt (pc := 1) X 10 dX12_feed_1 (by decide) (fun c1 => ?_) (fun c1 => ?_)
  · have hV := hV.1 c1
    refine g_bipush (pc := 10) (v := (-2 : Int32)) X dX12_feed_10 (by decide) ?_
    exact g_iret (pc := 12) X Tt ⟨_, rfl, rfl, hV⟩ dX12_feed_12
  · have hV := hV.2 c1
    refine g_iload_n (pc := 4) X 2 rfl rfl dX12_feed_4 ?_
    refine g_bipush (pc := 5) (v := (8 : Int32)) X dX12_feed_5 (by decide) ?_
    refine g_icmp_le (pc := 7) X 13 dX12_feed_7 (by decide) (fun c2 => ?_) (fun c2 => ?_)
    · have hV := hV.1 c2
      refine g_iload_n (pc := 13) X 2 rfl rfl dX12_feed_13 ?_
      refine g_if_ne (pc := 14) X 24 dX12_feed_14 (by decide) (fun c3 => ?_) (fun c3 => ?_)
      · have hV := hV.1 c3
        refine g_aload_n (pc := 24) X 0 rfl rfl dX12_feed_24 ?_
        obtain ⟨q4, hV⟩ := hV
        refine g_getI (pc := 25) X fl_X12_130 q4 dX12_feed_25 ?_
        refine g_iload_n (pc := 28) X 2 rfl rfl dX12_feed_28 ?_
        refine g_iadd (pc := 29) X dX12_feed_29 ?_
        refine g_sipush (pc := 30) (v := (8000 : Int32)) X dX12_feed_30 (by decide) ?_
        refine g_icmp_le (pc := 33) X 39 dX12_feed_33 (by decide) (fun c5 => ?_) (fun c5 => ?_)
        · have hV := hV.1 c5
          refine g_iload_n (pc := 39) X 2 rfl rfl dX12_feed_39 ?_
          refine g_iconst (pc := 40) (v := (1 : Int32)) X dX12_feed_40 (by decide) ?_
          refine g_isub (pc := 41) X dX12_feed_41 ?_
          refine g_istore (pc := 42) X (i := 4) (rest := [(0, rv w.2.2.2 x0), (1, Value.long x1), (3, Value.int x3)]) (by decide) rfl dX12_feed_42 (fun y6 e7 => ?_)
          have hV := hV y6 e7
          refine g_lv [1, 2, 0] rfl ?_
          exact hL44 x0 x1 y6 h hV
        · have hV := hV.2 c5
          refine g_bipush (pc := 36) (v := (-4 : Int32)) X dX12_feed_36 (by decide) ?_
          exact g_iret (pc := 38) X Tt ⟨_, rfl, rfl, hV⟩ dX12_feed_38
      · have hV := hV.2 c3
        refine g_aload_n (pc := 17) X 0 rfl rfl dX12_feed_17 ?_
        refine g_iconst (pc := 18) (v := (0 : Int32)) X dX12_feed_18 (by decide) ?_
        obtain ⟨q8, hV⟩ := hV
        refine g_putI (pc := 19) X fl_X12_130 q8 rfl rfl dX12_feed_19 (fun h9 e10 => ?_)
        have hV := hV h9 e10
        refine g_iconst (pc := 22) (v := (0 : Int32)) X dX12_feed_22 (by decide) ?_
        exact g_iret (pc := 23) X Tt ⟨_, rfl, rfl, hV⟩ dX12_feed_23
    · have hV := hV.2 c2
      refine g_bipush (pc := 10) (v := (-2 : Int32)) X dX12_feed_10 (by decide) ?_
      exact g_iret (pc := 12) X Tt ⟨_, rfl, rfl, hV⟩ dX12_feed_12
def C_X12_feed (w : Wd) (sh : List Sh) (x0 : Nat) (x1 : Int64) (x3 : Int32) (h : Hp) (RET : Int32 → Hp → Prop) : Prop := CI w yX12_feed (.code yX12_feed cX12_feed 5 (some .int)) 0 0 [rv w.2.2.2 x0, Value.long x1, Value.int x3] sh h RET
set_option maxRecDepth 20000 in
theorem K_X12_feed {w : Wd} {sh : List Sh} {x0 : Nat} {x1 : Int64} {x3 : Int32} {h : Hp} {RET : Int32 → Hp → Prop} {α : Type} {r : α → α → Prop} (wf : WellFounded r) (I44 : α → Nat → Int64 → Int32 → Hp → Prop) (hE : V_X12_feed_0 w sh x0 x1 x3 h (fun x0 x1 x4 h => ∃ a, I44 a x0 x1 x4 h) RET) (h44 : ∀ (b : α) (x0 : Nat) (x1 : Int64) (x4 : Int32) (h : Hp), I44 b x0 x1 x4 h → V_X12_feed_44 w sh x0 x1 x4 h (fun x0 x1 x4 h => ∃ a, r a b ∧ I44 a x0 x1 x4 h) RET) : C_X12_feed w sh x0 x1 x3 h RET :=
  Ct_of (by decide +kernel) (by simp [lg_sl, rv_cat, cat_int, cat_long]) (fun E X Tt hR _ => by
    have key : ∀ a : α, (∀ (x0 : Nat) (x1 : Int64) (x4 : Int32) (h : Hp), I44 a x0 x1 x4 h → G w E 5 44 [(0, rv w.2.2.2 x0), (1, Value.long x1), (4, Value.int x4)] [] sh h 0 0) := by
      intro a
      induction a using wf.induction with
      | _ a ih =>
        exact (fun x0 x1 x4 h hi => W_X12_feed_44 X Tt hR (fun x0 x1 x4 h hx => by obtain ⟨a2, ha, hi⟩ := hx; exact (ih a2 ha) x0 x1 x4 h hi) (h44 a x0 x1 x4 h hi))
    rw [show lv_args 0 [rv w.2.2.2 x0, Value.long x1, Value.int x3] = [(0, rv w.2.2.2 x0), (1, Value.long x1), (3, Value.int x3)] from by simp [lv_args, rv_cat, cat_int, cat_long]]
    refine g_lv [0, 1, 2] rfl ?_
    exact W_X12_feed_0 X Tt hR (fun x0 x1 x4 h hx => by obtain ⟨a2, hi⟩ := hx; exact (key a2) x0 x1 x4 h hi) hE)
def V_X12_fill_38 (w : Wd) (sh : List Sh) (x0 : Nat) (x1 : Int32) (x3 : Int32) (x4 : Int32) (x5 : Int32) (h : Hp) (L38 : Nat → Int32 → Int32 → Int32 → Int32 → Hp → Prop) (RET : Int32 → Hp → Prop) : Prop :=
  ((x1 ≤ x5) → (shAt sh x0 = some (.inr 12) ∧ (RET (h.1 x0 1) h))) ∧ ((¬ x1 ≤ x5) → (∀ y3 : Int32, y3 = ((x4 * (1664525 : Int32)) + (1013904223 : Int32)) → (shAt sh x0 = some (.inr 12) ∧ (∃ n7 : Nat, shAt sh (h.2.1 x0 0) = some (.inl (0, n7)) ∧ (vp_in (h.1 x0 1) n7 ∧ (∀ h9 : Hp, h9 = wI h (h.2.1 x0 0) (h.1 x0 1).toNatClampNeg (b8 ((((y3.toUInt32 >>> ((24 : Int32).toUInt32 &&& Int32.toUInt32 31)).toInt32).toUInt32 >>> (x3.toUInt32 &&& Int32.toUInt32 31)).toInt32)) → (∀ h11 : Hp, h11 = wI h9 x0 1 ((h9.1 x0 1) + (1 : Int32)) → (∀ y13 : Int32, y13 = x5 + (1 : Int32) → (L38 x0 x1 x3 y3 y13 h11)))))))))
set_option maxRecDepth 20000 in
set_option maxHeartbeats 4000000 in
theorem W_X12_fill_38 {w : Wd} {E : GE} {sh : List Sh} {x0 : Nat} {x1 : Int32} {x3 : Int32} {x4 : Int32} {x5 : Int32} {h : Hp} {L38 : Nat → Int32 → Int32 → Int32 → Int32 → Hp → Prop} {RET : Int32 → Hp → Prop} (X : Cx w E cX12_fill 6 RX12) (Tt : Rt w E (some .int) sh.length 0 0 (fun q sh9 h9 => ∃ v : Int32, q = some (Value.int v) ∧ sh9 = sh ∧ RET v h9)) (hR : gR E = { frames := 0, cells := 0, slots := 0, locals := 0 }) (hL38 : ∀ (x0 : Nat) (x1 : Int32) (x3 : Int32) (x4 : Int32) (x5 : Int32) (h : Hp), L38 x0 x1 x3 x4 x5 h → G w E 6 38 [(0, rv w.2.2.2 x0), (1, Value.int x1), (3, Value.int x3), (4, Value.int x4), (5, Value.int x5)] [] sh h 0 0) (hV : V_X12_fill_38 w sh x0 x1 x3 x4 x5 h L38 RET) : G w E 6 38 [(0, rv w.2.2.2 x0), (1, Value.int x1), (3, Value.int x3), (4, Value.int x4), (5, Value.int x5)] [] sh h 0 0 := by
  unfold V_X12_fill_38 at hV
  refine g_iload (pc := 38) X 4 rfl dX12_fill_38 ?_
  refine g_iload_n (pc := 40) X 1 rfl rfl dX12_fill_40 ?_
  refine g_icmp_ge (pc := 41) X 87 dX12_fill_41 (by decide) (fun c1 => ?_) (fun c1 => ?_)
  · have hV := hV.1 c1
    refine g_aload_n (pc := 87) X 0 rfl rfl dX12_fill_87 ?_
    obtain ⟨q2, hV⟩ := hV
    refine g_getI (pc := 88) X fl_X12_130 q2 dX12_fill_88 ?_
    exact g_iret (pc := 91) X Tt ⟨_, rfl, rfl, hV⟩ dX12_fill_91
  · have hV := hV.2 c1
    refine g_iload (pc := 44) X 3 rfl dX12_fill_44 ?_
    refine g_ldc (pc := 46) X kc_X12_133 dX12_fill_46 ?_
    refine g_imul (pc := 48) X dX12_fill_48 ?_
    refine g_ldc (pc := 49) X kc_X12_134 dX12_fill_49 ?_
    refine g_iadd (pc := 51) X dX12_fill_51 ?_
    refine g_istore (pc := 52) X (i := 4) (rest := [(0, rv w.2.2.2 x0), (1, Value.int x1), (3, Value.int x3), (5, Value.int x5)]) (by decide) rfl dX12_fill_52 (fun y3 e4 => ?_)
    have hV := hV y3 e4
    refine g_aload_n (pc := 54) X 1 rfl rfl dX12_fill_54 ?_
    obtain ⟨q5, hV⟩ := hV
    refine g_getR (pc := 55) X fl_X12_7 q5 dX12_fill_55 ?_
    refine g_aload_n (pc := 58) X 1 rfl rfl dX12_fill_58 ?_
    refine g_getI (pc := 59) X fl_X12_130 q5 dX12_fill_59 ?_
    refine g_iload (pc := 62) X 0 rfl dX12_fill_62 ?_
    refine g_bipush (pc := 64) (v := (24 : Int32)) X dX12_fill_64 (by decide) ?_
    refine g_iushr (pc := 66) X dX12_fill_66 ?_
    refine g_iload_n (pc := 67) X 3 rfl rfl dX12_fill_67 ?_
    refine g_iushr (pc := 68) X dX12_fill_68 ?_
    refine g_i2b (pc := 69) X dX12_fill_69 ?_
    obtain ⟨n7, q6, hV⟩ := hV
    obtain ⟨q8, hV⟩ := hV
    refine g_bast (pc := 70) X q6 q8 dX12_fill_70 (fun h9 e10 => ?_)
    have hV := hV h9 e10
    refine g_aload_n (pc := 71) X 1 rfl rfl dX12_fill_71 ?_
    refine g_dup (pc := 72) X dX12_fill_72 (rv_cat _ _) ?_
    refine g_getI (pc := 73) X fl_X12_130 q5 dX12_fill_73 ?_
    refine g_iconst (pc := 76) (v := (1 : Int32)) X dX12_fill_76 (by decide) ?_
    refine g_iadd (pc := 77) X dX12_fill_77 ?_
    refine g_putI (pc := 78) X fl_X12_130 q5 rfl rfl dX12_fill_78 (fun h11 e12 => ?_)
    have hV := hV h11 e12
    refine g_iinc (pc := 81) X 4 (v := (1 : Int32)) (rest := [(4, Value.int y3), (0, rv w.2.2.2 x0), (1, Value.int x1), (3, Value.int x3)]) rfl (by decide) rfl (by decide) dX12_fill_81 (fun y13 e14 => ?_)
    have hV := hV y13 e14
    refine g_goto (pc := 84) X 38 dX12_fill_84 (by decide) ?_
    refine g_lv [2, 3, 4, 1, 0] rfl ?_
    exact hL38 x0 x1 x3 y3 y13 h11 hV
def V_X12_fill_0 (w : Wd) (sh : List Sh) (x0 : Nat) (x1 : Int32) (x2 : Int32) (x3 : Int32) (h : Hp) (L38 : Nat → Int32 → Int32 → Int32 → Int32 → Hp → Prop) (RET : Int32 → Hp → Prop) : Prop :=
  ((x1 < 0) → (RET (-2 : Int32) h)) ∧ ((¬ x1 < 0) → (((x3 < 0) → (RET (-2 : Int32) h)) ∧ ((¬ x3 < 0) → (((x3 ≤ (7 : Int32)) → (shAt sh x0 = some (.inr 12) ∧ (((x1 ≤ ((8000 : Int32) - (h.1 x0 1))) → (∀ y6 : Int32, y6 = x2 → (∀ y8 : Int32, y8 = (0 : Int32) → (L38 x0 x1 x3 y6 y8 h)))) ∧ ((¬ x1 ≤ ((8000 : Int32) - (h.1 x0 1))) → (RET (-4 : Int32) h))))) ∧ ((¬ x3 ≤ (7 : Int32)) → (RET (-2 : Int32) h))))))
set_option maxRecDepth 20000 in
set_option maxHeartbeats 4000000 in
theorem W_X12_fill_0 {w : Wd} {E : GE} {sh : List Sh} {x0 : Nat} {x1 : Int32} {x2 : Int32} {x3 : Int32} {h : Hp} {L38 : Nat → Int32 → Int32 → Int32 → Int32 → Hp → Prop} {RET : Int32 → Hp → Prop} (X : Cx w E cX12_fill 6 RX12) (Tt : Rt w E (some .int) sh.length 0 0 (fun q sh9 h9 => ∃ v : Int32, q = some (Value.int v) ∧ sh9 = sh ∧ RET v h9)) (hR : gR E = { frames := 0, cells := 0, slots := 0, locals := 0 }) (hL38 : ∀ (x0 : Nat) (x1 : Int32) (x3 : Int32) (x4 : Int32) (x5 : Int32) (h : Hp), L38 x0 x1 x3 x4 x5 h → G w E 6 38 [(0, rv w.2.2.2 x0), (1, Value.int x1), (3, Value.int x3), (4, Value.int x4), (5, Value.int x5)] [] sh h 0 0) (hV : V_X12_fill_0 w sh x0 x1 x2 x3 h L38 RET) : G w E 6 0 [(0, rv w.2.2.2 x0), (1, Value.int x1), (2, Value.int x2), (3, Value.int x3)] [] sh h 0 0 := by
  unfold V_X12_fill_0 at hV
  refine g_iload_n (pc := 0) X 1 rfl rfl dX12_fill_0 ?_
  refine g_if_lt (pc := 1) X 14 dX12_fill_1 (by decide) (fun c1 => ?_) (fun c1 => ?_)
  · have hV := hV.1 c1
    refine g_bipush (pc := 14) (v := (-2 : Int32)) X dX12_fill_14 (by decide) ?_
    exact g_iret (pc := 16) X Tt ⟨_, rfl, rfl, hV⟩ dX12_fill_16
  · have hV := hV.2 c1
    refine g_iload_n (pc := 4) X 3 rfl rfl dX12_fill_4 ?_
    refine g_if_lt (pc := 5) X 14 dX12_fill_5 (by decide) (fun c2 => ?_) (fun c2 => ?_)
    · have hV := hV.1 c2
      refine g_bipush (pc := 14) (v := (-2 : Int32)) X dX12_fill_14 (by decide) ?_
      exact g_iret (pc := 16) X Tt ⟨_, rfl, rfl, hV⟩ dX12_fill_16
    · have hV := hV.2 c2
      refine g_iload_n (pc := 8) X 3 rfl rfl dX12_fill_8 ?_
      refine g_bipush (pc := 9) (v := (7 : Int32)) X dX12_fill_9 (by decide) ?_
      refine g_icmp_le (pc := 11) X 17 dX12_fill_11 (by decide) (fun c3 => ?_) (fun c3 => ?_)
      · have hV := hV.1 c3
        refine g_iload_n (pc := 17) X 1 rfl rfl dX12_fill_17 ?_
        refine g_sipush (pc := 18) (v := (8000 : Int32)) X dX12_fill_18 (by decide) ?_
        refine g_aload_n (pc := 21) X 0 rfl rfl dX12_fill_21 ?_
        obtain ⟨q4, hV⟩ := hV
        refine g_getI (pc := 22) X fl_X12_130 q4 dX12_fill_22 ?_
        refine g_isub (pc := 25) X dX12_fill_25 ?_
        refine g_icmp_le (pc := 26) X 32 dX12_fill_26 (by decide) (fun c5 => ?_) (fun c5 => ?_)
        · have hV := hV.1 c5
          refine g_iload_n (pc := 32) X 2 rfl rfl dX12_fill_32 ?_
          refine g_istore (pc := 33) X (i := 4) (rest := [(0, rv w.2.2.2 x0), (1, Value.int x1), (2, Value.int x2), (3, Value.int x3)]) (by decide) rfl dX12_fill_33 (fun y6 e7 => ?_)
          have hV := hV y6 e7
          refine g_iconst (pc := 35) (v := (0 : Int32)) X dX12_fill_35 (by decide) ?_
          refine g_istore (pc := 36) X (i := 5) (rest := [(4, Value.int y6), (0, rv w.2.2.2 x0), (1, Value.int x1), (2, Value.int x2), (3, Value.int x3)]) (by decide) rfl dX12_fill_36 (fun y8 e9 => ?_)
          have hV := hV y8 e9
          refine g_lv [2, 3, 5, 1, 0] rfl ?_
          exact hL38 x0 x1 x3 y6 y8 h hV
        · have hV := hV.2 c5
          refine g_bipush (pc := 29) (v := (-4 : Int32)) X dX12_fill_29 (by decide) ?_
          exact g_iret (pc := 31) X Tt ⟨_, rfl, rfl, hV⟩ dX12_fill_31
      · have hV := hV.2 c3
        refine g_bipush (pc := 14) (v := (-2 : Int32)) X dX12_fill_14 (by decide) ?_
        exact g_iret (pc := 16) X Tt ⟨_, rfl, rfl, hV⟩ dX12_fill_16
def C_X12_fill (w : Wd) (sh : List Sh) (x0 : Nat) (x1 : Int32) (x2 : Int32) (x3 : Int32) (h : Hp) (RET : Int32 → Hp → Prop) : Prop := CI w yX12_fill (.code yX12_fill cX12_fill 6 (some .int)) 0 0 [rv w.2.2.2 x0, Value.int x1, Value.int x2, Value.int x3] sh h RET
set_option maxRecDepth 20000 in
theorem K_X12_fill {w : Wd} {sh : List Sh} {x0 : Nat} {x1 : Int32} {x2 : Int32} {x3 : Int32} {h : Hp} {RET : Int32 → Hp → Prop} {α : Type} {r : α → α → Prop} (wf : WellFounded r) (I38 : α → Nat → Int32 → Int32 → Int32 → Int32 → Hp → Prop) (hE : V_X12_fill_0 w sh x0 x1 x2 x3 h (fun x0 x1 x3 x4 x5 h => ∃ a, I38 a x0 x1 x3 x4 x5 h) RET) (h38 : ∀ (b : α) (x0 : Nat) (x1 : Int32) (x3 : Int32) (x4 : Int32) (x5 : Int32) (h : Hp), I38 b x0 x1 x3 x4 x5 h → V_X12_fill_38 w sh x0 x1 x3 x4 x5 h (fun x0 x1 x3 x4 x5 h => ∃ a, r a b ∧ I38 a x0 x1 x3 x4 x5 h) RET) : C_X12_fill w sh x0 x1 x2 x3 h RET :=
  Ct_of (by decide +kernel) (by simp [lg_sl, rv_cat, cat_int, cat_long]) (fun E X Tt hR _ => by
    have key : ∀ a : α, (∀ (x0 : Nat) (x1 : Int32) (x3 : Int32) (x4 : Int32) (x5 : Int32) (h : Hp), I38 a x0 x1 x3 x4 x5 h → G w E 6 38 [(0, rv w.2.2.2 x0), (1, Value.int x1), (3, Value.int x3), (4, Value.int x4), (5, Value.int x5)] [] sh h 0 0) := by
      intro a
      induction a using wf.induction with
      | _ a ih =>
        exact (fun x0 x1 x3 x4 x5 h hi => W_X12_fill_38 X Tt hR (fun x0 x1 x3 x4 x5 h hx => by obtain ⟨a2, ha, hi⟩ := hx; exact (ih a2 ha) x0 x1 x3 x4 x5 h hi) (h38 a x0 x1 x3 x4 x5 h hi))
    rw [show lv_args 0 [rv w.2.2.2 x0, Value.int x1, Value.int x2, Value.int x3] = [(0, rv w.2.2.2 x0), (1, Value.int x1), (2, Value.int x2), (3, Value.int x3)] from by simp [lv_args, rv_cat, cat_int, cat_long]]
    refine g_lv [0, 1, 2, 3] rfl ?_
    exact W_X12_fill_0 X Tt hR (fun x0 x1 x3 x4 x5 h hx => by obtain ⟨a2, hi⟩ := hx; exact (key a2) x0 x1 x3 x4 x5 h hi) hE)
def V_X12_again_46 (w : Wd) (sh : List Sh) (x0 : Nat) (x1 : Int32) (x2 : Int32) (x3 : Int32) (h : Hp) (L46 : Nat → Int32 → Int32 → Int32 → Hp → Prop) (RET : Int32 → Hp → Prop) : Prop :=
  ((x2 ≤ x3) → (shAt sh x0 = some (.inr 12) ∧ (RET (h.1 x0 1) h))) ∧ ((¬ x2 ≤ x3) → (shAt sh x0 = some (.inr 12) ∧ (∃ n5 : Nat, shAt sh (h.2.1 x0 0) = some (.inl (0, n5)) ∧ (vp_in (x1 + x3) n5 ∧ (vp_in (h.1 x0 1) n5 ∧ (∀ h8 : Hp, h8 = wI h (h.2.1 x0 0) (h.1 x0 1).toNatClampNeg (b8 (h.1 (h.2.1 x0 0) (x1 + x3).toNatClampNeg)) → (∀ h10 : Hp, h10 = wI h8 x0 1 ((h8.1 x0 1) + (1 : Int32)) → (∀ y12 : Int32, y12 = x3 + (1 : Int32) → (L46 x0 x1 x2 y12 h10)))))))))
set_option maxRecDepth 20000 in
set_option maxHeartbeats 4000000 in
theorem W_X12_again_46 {w : Wd} {E : GE} {sh : List Sh} {x0 : Nat} {x1 : Int32} {x2 : Int32} {x3 : Int32} {h : Hp} {L46 : Nat → Int32 → Int32 → Int32 → Hp → Prop} {RET : Int32 → Hp → Prop} (X : Cx w E cX12_again 4 RX12) (Tt : Rt w E (some .int) sh.length 0 0 (fun q sh9 h9 => ∃ v : Int32, q = some (Value.int v) ∧ sh9 = sh ∧ RET v h9)) (hR : gR E = { frames := 0, cells := 0, slots := 0, locals := 0 }) (hL46 : ∀ (x0 : Nat) (x1 : Int32) (x2 : Int32) (x3 : Int32) (h : Hp), L46 x0 x1 x2 x3 h → G w E 4 46 [(0, rv w.2.2.2 x0), (1, Value.int x1), (2, Value.int x2), (3, Value.int x3)] [] sh h 0 0) (hV : V_X12_again_46 w sh x0 x1 x2 x3 h L46 RET) : G w E 4 46 [(0, rv w.2.2.2 x0), (1, Value.int x1), (2, Value.int x2), (3, Value.int x3)] [] sh h 0 0 := by
  unfold V_X12_again_46 at hV
  refine g_iload_n (pc := 46) X 3 rfl rfl dX12_again_46 ?_
  refine g_iload_n (pc := 47) X 2 rfl rfl dX12_again_47 ?_
  refine g_icmp_ge (pc := 48) X 84 dX12_again_48 (by decide) (fun c1 => ?_) (fun c1 => ?_)
  · have hV := hV.1 c1
    refine g_aload_n (pc := 84) X 0 rfl rfl dX12_again_84 ?_
    obtain ⟨q2, hV⟩ := hV
    refine g_getI (pc := 85) X fl_X12_130 q2 dX12_again_85 ?_
    exact g_iret (pc := 88) X Tt ⟨_, rfl, rfl, hV⟩ dX12_again_88
  · have hV := hV.2 c1
    refine g_aload_n (pc := 51) X 0 rfl rfl dX12_again_51 ?_
    obtain ⟨q3, hV⟩ := hV
    refine g_getR (pc := 52) X fl_X12_7 q3 dX12_again_52 ?_
    refine g_aload_n (pc := 55) X 0 rfl rfl dX12_again_55 ?_
    refine g_getI (pc := 56) X fl_X12_130 q3 dX12_again_56 ?_
    refine g_aload_n (pc := 59) X 0 rfl rfl dX12_again_59 ?_
    refine g_getR (pc := 60) X fl_X12_7 q3 dX12_again_60 ?_
    refine g_iload_n (pc := 63) X 1 rfl rfl dX12_again_63 ?_
    refine g_iload_n (pc := 64) X 3 rfl rfl dX12_again_64 ?_
    refine g_iadd (pc := 65) X dX12_again_65 ?_
    obtain ⟨n5, q4, hV⟩ := hV
    obtain ⟨q6, hV⟩ := hV
    refine g_bald (pc := 66) X q4 q6 dX12_again_66 ?_
    obtain ⟨q7, hV⟩ := hV
    refine g_bast (pc := 67) X q4 q7 dX12_again_67 (fun h8 e9 => ?_)
    have hV := hV h8 e9
    refine g_aload_n (pc := 68) X 0 rfl rfl dX12_again_68 ?_
    refine g_dup (pc := 69) X dX12_again_69 (rv_cat _ _) ?_
    refine g_getI (pc := 70) X fl_X12_130 q3 dX12_again_70 ?_
    refine g_iconst (pc := 73) (v := (1 : Int32)) X dX12_again_73 (by decide) ?_
    refine g_iadd (pc := 74) X dX12_again_74 ?_
    refine g_putI (pc := 75) X fl_X12_130 q3 rfl rfl dX12_again_75 (fun h10 e11 => ?_)
    have hV := hV h10 e11
    refine g_iinc (pc := 78) X 3 (v := (1 : Int32)) (rest := [(0, rv w.2.2.2 x0), (1, Value.int x1), (2, Value.int x2)]) rfl (by decide) rfl (by decide) dX12_again_78 (fun y12 e13 => ?_)
    have hV := hV y12 e13
    refine g_goto (pc := 81) X 46 dX12_again_81 (by decide) ?_
    refine g_lv [1, 2, 3, 0] rfl ?_
    exact hL46 x0 x1 x2 y12 h10 hV
def V_X12_again_0 (w : Wd) (sh : List Sh) (x0 : Nat) (x1 : Int32) (x2 : Int32) (h : Hp) (L46 : Nat → Int32 → Int32 → Int32 → Hp → Prop) (RET : Int32 → Hp → Prop) : Prop :=
  ((x1 < 0) → (RET (-2 : Int32) h)) ∧ ((¬ x1 < 0) → (((x2 < 0) → (RET (-2 : Int32) h)) ∧ ((¬ x2 < 0) → (shAt sh x0 = some (.inr 12) ∧ ((((h.1 x0 1) < x1) → (RET (-2 : Int32) h)) ∧ ((¬ (h.1 x0 1) < x1) → (((x2 ≤ ((h.1 x0 1) - x1)) → (((x2 ≤ ((8000 : Int32) - (h.1 x0 1))) → (∀ y7 : Int32, y7 = (0 : Int32) → (L46 x0 x1 x2 y7 h))) ∧ ((¬ x2 ≤ ((8000 : Int32) - (h.1 x0 1))) → (RET (-4 : Int32) h)))) ∧ ((¬ x2 ≤ ((h.1 x0 1) - x1)) → (RET (-2 : Int32) h)))))))))
set_option maxRecDepth 20000 in
set_option maxHeartbeats 4000000 in
theorem W_X12_again_0 {w : Wd} {E : GE} {sh : List Sh} {x0 : Nat} {x1 : Int32} {x2 : Int32} {h : Hp} {L46 : Nat → Int32 → Int32 → Int32 → Hp → Prop} {RET : Int32 → Hp → Prop} (X : Cx w E cX12_again 4 RX12) (Tt : Rt w E (some .int) sh.length 0 0 (fun q sh9 h9 => ∃ v : Int32, q = some (Value.int v) ∧ sh9 = sh ∧ RET v h9)) (hR : gR E = { frames := 0, cells := 0, slots := 0, locals := 0 }) (hL46 : ∀ (x0 : Nat) (x1 : Int32) (x2 : Int32) (x3 : Int32) (h : Hp), L46 x0 x1 x2 x3 h → G w E 4 46 [(0, rv w.2.2.2 x0), (1, Value.int x1), (2, Value.int x2), (3, Value.int x3)] [] sh h 0 0) (hV : V_X12_again_0 w sh x0 x1 x2 h L46 RET) : G w E 4 0 [(0, rv w.2.2.2 x0), (1, Value.int x1), (2, Value.int x2)] [] sh h 0 0 := by
  unfold V_X12_again_0 at hV
  refine g_iload_n (pc := 0) X 1 rfl rfl dX12_again_0 ?_
  refine g_if_lt (pc := 1) X 26 dX12_again_1 (by decide) (fun c1 => ?_) (fun c1 => ?_)
  · have hV := hV.1 c1
    refine g_bipush (pc := 26) (v := (-2 : Int32)) X dX12_again_26 (by decide) ?_
    exact g_iret (pc := 28) X Tt ⟨_, rfl, rfl, hV⟩ dX12_again_28
  · have hV := hV.2 c1
    refine g_iload_n (pc := 4) X 2 rfl rfl dX12_again_4 ?_
    refine g_if_lt (pc := 5) X 26 dX12_again_5 (by decide) (fun c2 => ?_) (fun c2 => ?_)
    · have hV := hV.1 c2
      refine g_bipush (pc := 26) (v := (-2 : Int32)) X dX12_again_26 (by decide) ?_
      exact g_iret (pc := 28) X Tt ⟨_, rfl, rfl, hV⟩ dX12_again_28
    · have hV := hV.2 c2
      refine g_iload_n (pc := 8) X 1 rfl rfl dX12_again_8 ?_
      refine g_aload_n (pc := 9) X 0 rfl rfl dX12_again_9 ?_
      obtain ⟨q3, hV⟩ := hV
      refine g_getI (pc := 10) X fl_X12_130 q3 dX12_again_10 ?_
      refine g_icmp_gt (pc := 13) X 26 dX12_again_13 (by decide) (fun c4 => ?_) (fun c4 => ?_)
      · have hV := hV.1 c4
        refine g_bipush (pc := 26) (v := (-2 : Int32)) X dX12_again_26 (by decide) ?_
        exact g_iret (pc := 28) X Tt ⟨_, rfl, rfl, hV⟩ dX12_again_28
      · have hV := hV.2 c4
        refine g_iload_n (pc := 16) X 2 rfl rfl dX12_again_16 ?_
        refine g_aload_n (pc := 17) X 0 rfl rfl dX12_again_17 ?_
        refine g_getI (pc := 18) X fl_X12_130 q3 dX12_again_18 ?_
        refine g_iload_n (pc := 21) X 1 rfl rfl dX12_again_21 ?_
        refine g_isub (pc := 22) X dX12_again_22 ?_
        refine g_icmp_le (pc := 23) X 29 dX12_again_23 (by decide) (fun c5 => ?_) (fun c5 => ?_)
        · have hV := hV.1 c5
          refine g_iload_n (pc := 29) X 2 rfl rfl dX12_again_29 ?_
          refine g_sipush (pc := 30) (v := (8000 : Int32)) X dX12_again_30 (by decide) ?_
          refine g_aload_n (pc := 33) X 0 rfl rfl dX12_again_33 ?_
          refine g_getI (pc := 34) X fl_X12_130 q3 dX12_again_34 ?_
          refine g_isub (pc := 37) X dX12_again_37 ?_
          refine g_icmp_le (pc := 38) X 44 dX12_again_38 (by decide) (fun c6 => ?_) (fun c6 => ?_)
          · have hV := hV.1 c6
            refine g_iconst (pc := 44) (v := (0 : Int32)) X dX12_again_44 (by decide) ?_
            refine g_istore_n (pc := 45) X (i := 3) (rest := [(0, rv w.2.2.2 x0), (1, Value.int x1), (2, Value.int x2)]) rfl (by decide) rfl dX12_again_45 (fun y7 e8 => ?_)
            have hV := hV y7 e8
            refine g_lv [1, 2, 3, 0] rfl ?_
            exact hL46 x0 x1 x2 y7 h hV
          · have hV := hV.2 c6
            refine g_bipush (pc := 41) (v := (-4 : Int32)) X dX12_again_41 (by decide) ?_
            exact g_iret (pc := 43) X Tt ⟨_, rfl, rfl, hV⟩ dX12_again_43
        · have hV := hV.2 c5
          refine g_bipush (pc := 26) (v := (-2 : Int32)) X dX12_again_26 (by decide) ?_
          exact g_iret (pc := 28) X Tt ⟨_, rfl, rfl, hV⟩ dX12_again_28
def C_X12_again (w : Wd) (sh : List Sh) (x0 : Nat) (x1 : Int32) (x2 : Int32) (h : Hp) (RET : Int32 → Hp → Prop) : Prop := CI w yX12_again (.code yX12_again cX12_again 4 (some .int)) 0 0 [rv w.2.2.2 x0, Value.int x1, Value.int x2] sh h RET
set_option maxRecDepth 20000 in
theorem K_X12_again {w : Wd} {sh : List Sh} {x0 : Nat} {x1 : Int32} {x2 : Int32} {h : Hp} {RET : Int32 → Hp → Prop} {α : Type} {r : α → α → Prop} (wf : WellFounded r) (I46 : α → Nat → Int32 → Int32 → Int32 → Hp → Prop) (hE : V_X12_again_0 w sh x0 x1 x2 h (fun x0 x1 x2 x3 h => ∃ a, I46 a x0 x1 x2 x3 h) RET) (h46 : ∀ (b : α) (x0 : Nat) (x1 : Int32) (x2 : Int32) (x3 : Int32) (h : Hp), I46 b x0 x1 x2 x3 h → V_X12_again_46 w sh x0 x1 x2 x3 h (fun x0 x1 x2 x3 h => ∃ a, r a b ∧ I46 a x0 x1 x2 x3 h) RET) : C_X12_again w sh x0 x1 x2 h RET :=
  Ct_of (by decide +kernel) (by simp [lg_sl, rv_cat, cat_int, cat_long]) (fun E X Tt hR _ => by
    have key : ∀ a : α, (∀ (x0 : Nat) (x1 : Int32) (x2 : Int32) (x3 : Int32) (h : Hp), I46 a x0 x1 x2 x3 h → G w E 4 46 [(0, rv w.2.2.2 x0), (1, Value.int x1), (2, Value.int x2), (3, Value.int x3)] [] sh h 0 0) := by
      intro a
      induction a using wf.induction with
      | _ a ih =>
        exact (fun x0 x1 x2 x3 h hi => W_X12_again_46 X Tt hR (fun x0 x1 x2 x3 h hx => by obtain ⟨a2, ha, hi⟩ := hx; exact (ih a2 ha) x0 x1 x2 x3 h hi) (h46 a x0 x1 x2 x3 h hi))
    rw [show lv_args 0 [rv w.2.2.2 x0, Value.int x1, Value.int x2] = [(0, rv w.2.2.2 x0), (1, Value.int x1), (2, Value.int x2)] from by simp [lv_args, rv_cat, cat_int, cat_long]]
    refine g_lv [0, 1, 2] rfl ?_
    exact W_X12_again_0 X Tt hR (fun x0 x1 x2 x3 h hx => by obtain ⟨a2, hi⟩ := hx; exact (key a2) x0 x1 x2 x3 h hi) hE)
def V_X12_size_0 (w : Wd) (sh : List Sh) (x0 : Nat) (h : Hp)  (RET : Int32 → Hp → Prop) : Prop :=
  shAt sh x0 = some (.inr 12) ∧ (RET (h.1 x0 1) h)
set_option maxRecDepth 20000 in
set_option maxHeartbeats 4000000 in
theorem W_X12_size_0 {w : Wd} {E : GE} {sh : List Sh} {x0 : Nat} {h : Hp}  {RET : Int32 → Hp → Prop} (X : Cx w E cX12_size 1 RX12) (Tt : Rt w E (some .int) sh.length 0 0 (fun q sh9 h9 => ∃ v : Int32, q = some (Value.int v) ∧ sh9 = sh ∧ RET v h9)) (hR : gR E = { frames := 0, cells := 0, slots := 0, locals := 0 }) (hV : V_X12_size_0 w sh x0 h RET) : G w E 1 0 [(0, rv w.2.2.2 x0)] [] sh h 0 0 := by
  unfold V_X12_size_0 at hV
  refine g_aload_n (pc := 0) X 0 rfl rfl dX12_size_0 ?_
  obtain ⟨q1, hV⟩ := hV
  refine g_getI (pc := 1) X fl_X12_130 q1 dX12_size_1 ?_
  exact g_iret (pc := 4) X Tt ⟨_, rfl, rfl, hV⟩ dX12_size_4
def C_X12_size (w : Wd) (sh : List Sh) (x0 : Nat) (h : Hp) (RET : Int32 → Hp → Prop) : Prop := CI w yX12_size (.code yX12_size cX12_size 1 (some .int)) 0 0 [rv w.2.2.2 x0] sh h RET
theorem K_X12_size {w : Wd} {sh : List Sh} {x0 : Nat} {h : Hp} {RET : Int32 → Hp → Prop} (hV : V_X12_size_0 w sh x0 h RET) : C_X12_size w sh x0 h RET :=
  Ct_of (by decide +kernel) (by simp [lg_sl, rv_cat, cat_int, cat_long]) (fun E X Tt hR _ => by
    rw [show lv_args 0 [rv w.2.2.2 x0] = [(0, rv w.2.2.2 x0)] from by simp [lv_args, rv_cat, cat_int, cat_long]]
    refine g_lv [0] rfl ?_
    exact W_X12_size_0 X Tt hR hV)
def V_X12_set_0 (w : Wd) (sh : List Sh) (x0 : Nat) (x1 : Int32) (x2 : Int32) (h : Hp)  (RET : Int32 → Hp → Prop) : Prop :=
  ((x1 < 0) → (RET (-2 : Int32) h)) ∧ ((¬ x1 < 0) → (shAt sh x0 = some (.inr 12) ∧ ((((h.1 x0 1) ≤ x1) → (RET (-2 : Int32) h)) ∧ ((¬ (h.1 x0 1) ≤ x1) → (((x2 < 0) → (RET (-2 : Int32) h)) ∧ ((¬ x2 < 0) → (((x2 ≤ (255 : Int32)) → (∃ n7 : Nat, shAt sh (h.2.1 x0 0) = some (.inl (0, n7)) ∧ (vp_in x1 n7 ∧ (∀ y9 : Int32, y9 = ((b8 (h.1 (h.2.1 x0 0) x1.toNatClampNeg)) &&& (255 : Int32)) → (vp_in x1 n7 ∧ (∀ h12 : Hp, h12 = wI h (h.2.1 x0 0) x1.toNatClampNeg (b8 x2) → (RET y9 h12))))))) ∧ ((¬ x2 ≤ (255 : Int32)) → (RET (-2 : Int32) h)))))))))
set_option maxRecDepth 20000 in
set_option maxHeartbeats 4000000 in
theorem W_X12_set_0 {w : Wd} {E : GE} {sh : List Sh} {x0 : Nat} {x1 : Int32} {x2 : Int32} {h : Hp}  {RET : Int32 → Hp → Prop} (X : Cx w E cX12_set 4 RX12) (Tt : Rt w E (some .int) sh.length 0 0 (fun q sh9 h9 => ∃ v : Int32, q = some (Value.int v) ∧ sh9 = sh ∧ RET v h9)) (hR : gR E = { frames := 0, cells := 0, slots := 0, locals := 0 }) (hV : V_X12_set_0 w sh x0 x1 x2 h RET) : G w E 4 0 [(0, rv w.2.2.2 x0), (1, Value.int x1), (2, Value.int x2)] [] sh h 0 0 := by
  unfold V_X12_set_0 at hV
  refine g_iload_n (pc := 0) X 1 rfl rfl dX12_set_0 ?_
  refine g_if_lt (pc := 1) X 23 dX12_set_1 (by decide) (fun c1 => ?_) (fun c1 => ?_)
  · have hV := hV.1 c1
    refine g_bipush (pc := 23) (v := (-2 : Int32)) X dX12_set_23 (by decide) ?_
    exact g_iret (pc := 25) X Tt ⟨_, rfl, rfl, hV⟩ dX12_set_25
  · have hV := hV.2 c1
    refine g_iload_n (pc := 4) X 1 rfl rfl dX12_set_4 ?_
    refine g_aload_n (pc := 5) X 0 rfl rfl dX12_set_5 ?_
    obtain ⟨q2, hV⟩ := hV
    refine g_getI (pc := 6) X fl_X12_130 q2 dX12_set_6 ?_
    refine g_icmp_ge (pc := 9) X 23 dX12_set_9 (by decide) (fun c3 => ?_) (fun c3 => ?_)
    · have hV := hV.1 c3
      refine g_bipush (pc := 23) (v := (-2 : Int32)) X dX12_set_23 (by decide) ?_
      exact g_iret (pc := 25) X Tt ⟨_, rfl, rfl, hV⟩ dX12_set_25
    · have hV := hV.2 c3
      refine g_iload_n (pc := 12) X 2 rfl rfl dX12_set_12 ?_
      refine g_if_lt (pc := 13) X 23 dX12_set_13 (by decide) (fun c4 => ?_) (fun c4 => ?_)
      · have hV := hV.1 c4
        refine g_bipush (pc := 23) (v := (-2 : Int32)) X dX12_set_23 (by decide) ?_
        exact g_iret (pc := 25) X Tt ⟨_, rfl, rfl, hV⟩ dX12_set_25
      · have hV := hV.2 c4
        refine g_iload_n (pc := 16) X 2 rfl rfl dX12_set_16 ?_
        refine g_sipush (pc := 17) (v := (255 : Int32)) X dX12_set_17 (by decide) ?_
        refine g_icmp_le (pc := 20) X 26 dX12_set_20 (by decide) (fun c5 => ?_) (fun c5 => ?_)
        · have hV := hV.1 c5
          refine g_aload_n (pc := 26) X 0 rfl rfl dX12_set_26 ?_
          refine g_getR (pc := 27) X fl_X12_7 q2 dX12_set_27 ?_
          refine g_iload_n (pc := 30) X 1 rfl rfl dX12_set_30 ?_
          obtain ⟨n7, q6, hV⟩ := hV
          obtain ⟨q8, hV⟩ := hV
          refine g_bald (pc := 31) X q6 q8 dX12_set_31 ?_
          refine g_sipush (pc := 32) (v := (255 : Int32)) X dX12_set_32 (by decide) ?_
          refine g_iand (pc := 35) X dX12_set_35 ?_
          refine g_istore_n (pc := 36) X (i := 3) (rest := [(0, rv w.2.2.2 x0), (1, Value.int x1), (2, Value.int x2)]) rfl (by decide) rfl dX12_set_36 (fun y9 e10 => ?_)
          have hV := hV y9 e10
          refine g_aload_n (pc := 37) X 1 rfl rfl dX12_set_37 ?_
          refine g_getR (pc := 38) X fl_X12_7 q2 dX12_set_38 ?_
          refine g_iload_n (pc := 41) X 2 rfl rfl dX12_set_41 ?_
          refine g_iload_n (pc := 42) X 3 rfl rfl dX12_set_42 ?_
          refine g_i2b (pc := 43) X dX12_set_43 ?_
          obtain ⟨q11, hV⟩ := hV
          refine g_bast (pc := 44) X q6 q11 dX12_set_44 (fun h12 e13 => ?_)
          have hV := hV h12 e13
          refine g_iload_n (pc := 45) X 0 rfl rfl dX12_set_45 ?_
          exact g_iret (pc := 46) X Tt ⟨_, rfl, rfl, hV⟩ dX12_set_46
        · have hV := hV.2 c5
          refine g_bipush (pc := 23) (v := (-2 : Int32)) X dX12_set_23 (by decide) ?_
          exact g_iret (pc := 25) X Tt ⟨_, rfl, rfl, hV⟩ dX12_set_25
def C_X12_set (w : Wd) (sh : List Sh) (x0 : Nat) (x1 : Int32) (x2 : Int32) (h : Hp) (RET : Int32 → Hp → Prop) : Prop := CI w yX12_set (.code yX12_set cX12_set 4 (some .int)) 0 0 [rv w.2.2.2 x0, Value.int x1, Value.int x2] sh h RET
theorem K_X12_set {w : Wd} {sh : List Sh} {x0 : Nat} {x1 : Int32} {x2 : Int32} {h : Hp} {RET : Int32 → Hp → Prop} (hV : V_X12_set_0 w sh x0 x1 x2 h RET) : C_X12_set w sh x0 x1 x2 h RET :=
  Ct_of (by decide +kernel) (by simp [lg_sl, rv_cat, cat_int, cat_long]) (fun E X Tt hR _ => by
    rw [show lv_args 0 [rv w.2.2.2 x0, Value.int x1, Value.int x2] = [(0, rv w.2.2.2 x0), (1, Value.int x1), (2, Value.int x2)] from by simp [lv_args, rv_cat, cat_int, cat_long]]
    refine g_lv [0, 1, 2] rfl ?_
    exact W_X12_set_0 X Tt hR hV)
def V_X12_cut_0 (w : Wd) (sh : List Sh) (x0 : Nat) (x1 : Int32) (h : Hp)  (RET : Int32 → Hp → Prop) : Prop :=
  ((x1 < 0) → (RET (-2 : Int32) h)) ∧ ((¬ x1 < 0) → (shAt sh x0 = some (.inr 12) ∧ (((x1 ≤ (h.1 x0 1)) → (∀ y4 : Int32, y4 = (h.1 x0 1) → (∀ h6 : Hp, h6 = wI h x0 1 x1 → (RET y4 h6)))) ∧ ((¬ x1 ≤ (h.1 x0 1)) → (RET (-2 : Int32) h)))))
set_option maxRecDepth 20000 in
set_option maxHeartbeats 4000000 in
theorem W_X12_cut_0 {w : Wd} {E : GE} {sh : List Sh} {x0 : Nat} {x1 : Int32} {h : Hp}  {RET : Int32 → Hp → Prop} (X : Cx w E cX12_cut 3 RX12) (Tt : Rt w E (some .int) sh.length 0 0 (fun q sh9 h9 => ∃ v : Int32, q = some (Value.int v) ∧ sh9 = sh ∧ RET v h9)) (hR : gR E = { frames := 0, cells := 0, slots := 0, locals := 0 }) (hV : V_X12_cut_0 w sh x0 x1 h RET) : G w E 3 0 [(0, rv w.2.2.2 x0), (1, Value.int x1)] [] sh h 0 0 := by
  unfold V_X12_cut_0 at hV
  refine g_iload_n (pc := 0) X 1 rfl rfl dX12_cut_0 ?_
  refine g_if_lt (pc := 1) X 12 dX12_cut_1 (by decide) (fun c1 => ?_) (fun c1 => ?_)
  · have hV := hV.1 c1
    refine g_bipush (pc := 12) (v := (-2 : Int32)) X dX12_cut_12 (by decide) ?_
    exact g_iret (pc := 14) X Tt ⟨_, rfl, rfl, hV⟩ dX12_cut_14
  · have hV := hV.2 c1
    refine g_iload_n (pc := 4) X 1 rfl rfl dX12_cut_4 ?_
    refine g_aload_n (pc := 5) X 0 rfl rfl dX12_cut_5 ?_
    obtain ⟨q2, hV⟩ := hV
    refine g_getI (pc := 6) X fl_X12_130 q2 dX12_cut_6 ?_
    refine g_icmp_le (pc := 9) X 15 dX12_cut_9 (by decide) (fun c3 => ?_) (fun c3 => ?_)
    · have hV := hV.1 c3
      refine g_aload_n (pc := 15) X 0 rfl rfl dX12_cut_15 ?_
      refine g_getI (pc := 16) X fl_X12_130 q2 dX12_cut_16 ?_
      refine g_istore_n (pc := 19) X (i := 2) (rest := [(0, rv w.2.2.2 x0), (1, Value.int x1)]) rfl (by decide) rfl dX12_cut_19 (fun y4 e5 => ?_)
      have hV := hV y4 e5
      refine g_aload_n (pc := 20) X 1 rfl rfl dX12_cut_20 ?_
      refine g_iload_n (pc := 21) X 2 rfl rfl dX12_cut_21 ?_
      refine g_putI (pc := 22) X fl_X12_130 q2 rfl rfl dX12_cut_22 (fun h6 e7 => ?_)
      have hV := hV h6 e7
      refine g_iload_n (pc := 25) X 0 rfl rfl dX12_cut_25 ?_
      exact g_iret (pc := 26) X Tt ⟨_, rfl, rfl, hV⟩ dX12_cut_26
    · have hV := hV.2 c3
      refine g_bipush (pc := 12) (v := (-2 : Int32)) X dX12_cut_12 (by decide) ?_
      exact g_iret (pc := 14) X Tt ⟨_, rfl, rfl, hV⟩ dX12_cut_14
def C_X12_cut (w : Wd) (sh : List Sh) (x0 : Nat) (x1 : Int32) (h : Hp) (RET : Int32 → Hp → Prop) : Prop := CI w yX12_cut (.code yX12_cut cX12_cut 3 (some .int)) 0 0 [rv w.2.2.2 x0, Value.int x1] sh h RET
theorem K_X12_cut {w : Wd} {sh : List Sh} {x0 : Nat} {x1 : Int32} {h : Hp} {RET : Int32 → Hp → Prop} (hV : V_X12_cut_0 w sh x0 x1 h RET) : C_X12_cut w sh x0 x1 h RET :=
  Ct_of (by decide +kernel) (by simp [lg_sl, rv_cat, cat_int, cat_long]) (fun E X Tt hR _ => by
    rw [show lv_args 0 [rv w.2.2.2 x0, Value.int x1] = [(0, rv w.2.2.2 x0), (1, Value.int x1)] from by simp [lv_args, rv_cat, cat_int, cat_long]]
    refine g_lv [0, 1] rfl ?_
    exact W_X12_cut_0 X Tt hR hV)
def V_X12_swap_25 (w : Wd) (sh : List Sh) (x0 : Nat) (x1 : Int32) (x2 : Int32) (h : Hp) (L25 : Nat → Int32 → Int32 → Hp → Prop) (RET : Int32 → Hp → Prop) : Prop :=
  ((x1 ≤ x2) → (shAt sh x0 = some (.inr 12) ∧ (∀ y3 : Int32, y3 = (h.1 x0 1) → (∀ h5 : Hp, h5 = wI h x0 1 (h.1 x0 3) → (∀ h7 : Hp, h7 = wI h5 x0 3 y3 → (RET (h7.1 x0 1) h7)))))) ∧ ((¬ x1 ≤ x2) → (shAt sh x0 = some (.inr 12) ∧ (∃ n11 : Nat, shAt sh (h.2.1 x0 0) = some (.inl (0, n11)) ∧ (vp_in x2 n11 ∧ (∀ y13 : Int32, y13 = (b8 (h.1 (h.2.1 x0 0) x2.toNatClampNeg)) → (∃ n16 : Nat, shAt sh (h.2.1 x0 2) = some (.inl (0, n16)) ∧ (vp_in x2 n16 ∧ (vp_in x2 n11 ∧ (∀ h19 : Hp, h19 = wI h (h.2.1 x0 0) x2.toNatClampNeg (b8 (h.1 (h.2.1 x0 2) x2.toNatClampNeg)) → (vp_in x2 n16 ∧ (∀ h22 : Hp, h22 = wI h19 (h.2.1 x0 2) x2.toNatClampNeg y13 → (∀ y24 : Int32, y24 = x2 + (1 : Int32) → (L25 x0 x1 y24 h22)))))))))))))
set_option maxRecDepth 20000 in
set_option maxHeartbeats 4000000 in
theorem W_X12_swap_25 {w : Wd} {E : GE} {sh : List Sh} {x0 : Nat} {x1 : Int32} {x2 : Int32} {h : Hp} {L25 : Nat → Int32 → Int32 → Hp → Prop} {RET : Int32 → Hp → Prop} (X : Cx w E cX12_swap 4 RX12) (Tt : Rt w E (some .int) sh.length 0 0 (fun q sh9 h9 => ∃ v : Int32, q = some (Value.int v) ∧ sh9 = sh ∧ RET v h9)) (hR : gR E = { frames := 0, cells := 0, slots := 0, locals := 0 }) (hL25 : ∀ (x0 : Nat) (x1 : Int32) (x2 : Int32) (h : Hp), L25 x0 x1 x2 h → G w E 4 25 [(0, rv w.2.2.2 x0), (1, Value.int x1), (2, Value.int x2)] [] sh h 0 0) (hV : V_X12_swap_25 w sh x0 x1 x2 h L25 RET) : G w E 4 25 [(0, rv w.2.2.2 x0), (1, Value.int x1), (2, Value.int x2)] [] sh h 0 0 := by
  unfold V_X12_swap_25 at hV
  refine g_iload_n (pc := 25) X 2 rfl rfl dX12_swap_25 ?_
  refine g_iload_n (pc := 26) X 1 rfl rfl dX12_swap_26 ?_
  refine g_icmp_ge (pc := 27) X 62 dX12_swap_27 (by decide) (fun c1 => ?_) (fun c1 => ?_)
  · have hV := hV.1 c1
    refine g_aload_n (pc := 62) X 0 rfl rfl dX12_swap_62 ?_
    obtain ⟨q2, hV⟩ := hV
    refine g_getI (pc := 63) X fl_X12_130 q2 dX12_swap_63 ?_
    refine g_istore_n (pc := 66) X (i := 2) (rest := [(0, rv w.2.2.2 x0), (1, Value.int x1)]) rfl (by decide) rfl dX12_swap_66 (fun y3 e4 => ?_)
    have hV := hV y3 e4
    refine g_aload_n (pc := 67) X 1 rfl rfl dX12_swap_67 ?_
    refine g_aload_n (pc := 68) X 1 rfl rfl dX12_swap_68 ?_
    refine g_getI (pc := 69) X fl_X12_135 q2 dX12_swap_69 ?_
    refine g_putI (pc := 72) X fl_X12_130 q2 rfl rfl dX12_swap_72 (fun h5 e6 => ?_)
    have hV := hV h5 e6
    refine g_aload_n (pc := 75) X 1 rfl rfl dX12_swap_75 ?_
    refine g_iload_n (pc := 76) X 0 rfl rfl dX12_swap_76 ?_
    refine g_putI (pc := 77) X fl_X12_135 q2 rfl rfl dX12_swap_77 (fun h7 e8 => ?_)
    have hV := hV h7 e8
    refine g_aload_n (pc := 80) X 1 rfl rfl dX12_swap_80 ?_
    refine g_getI (pc := 81) X fl_X12_130 q2 dX12_swap_81 ?_
    exact g_iret (pc := 84) X Tt ⟨_, rfl, rfl, hV⟩ dX12_swap_84
  · have hV := hV.2 c1
    refine g_aload_n (pc := 30) X 0 rfl rfl dX12_swap_30 ?_
    obtain ⟨q9, hV⟩ := hV
    refine g_getR (pc := 31) X fl_X12_7 q9 dX12_swap_31 ?_
    refine g_iload_n (pc := 34) X 2 rfl rfl dX12_swap_34 ?_
    obtain ⟨n11, q10, hV⟩ := hV
    obtain ⟨q12, hV⟩ := hV
    refine g_bald (pc := 35) X q10 q12 dX12_swap_35 ?_
    refine g_istore_n (pc := 36) X (i := 3) (rest := [(0, rv w.2.2.2 x0), (1, Value.int x1), (2, Value.int x2)]) rfl (by decide) rfl dX12_swap_36 (fun y13 e14 => ?_)
    have hV := hV y13 e14
    refine g_aload_n (pc := 37) X 1 rfl rfl dX12_swap_37 ?_
    refine g_getR (pc := 38) X fl_X12_7 q9 dX12_swap_38 ?_
    refine g_iload_n (pc := 41) X 3 rfl rfl dX12_swap_41 ?_
    refine g_aload_n (pc := 42) X 1 rfl rfl dX12_swap_42 ?_
    refine g_getR (pc := 43) X fl_X12_13 q9 dX12_swap_43 ?_
    refine g_iload_n (pc := 46) X 3 rfl rfl dX12_swap_46 ?_
    obtain ⟨n16, q15, hV⟩ := hV
    obtain ⟨q17, hV⟩ := hV
    refine g_bald (pc := 47) X q15 q17 dX12_swap_47 ?_
    obtain ⟨q18, hV⟩ := hV
    refine g_bast (pc := 48) X q10 q18 dX12_swap_48 (fun h19 e20 => ?_)
    have hV := hV h19 e20
    refine g_aload_n (pc := 49) X 1 rfl rfl dX12_swap_49 ?_
    refine g_getRe (pc := 50) X fl_X12_13 q9 (congrFun (congrFun (rfI e20) _) _) dX12_swap_50 ?_
    refine g_iload_n (pc := 53) X 3 rfl rfl dX12_swap_53 ?_
    refine g_iload_n (pc := 54) X 0 rfl rfl dX12_swap_54 ?_
    obtain ⟨q21, hV⟩ := hV
    refine g_bast (pc := 55) X q15 q21 dX12_swap_55 (fun h22 e23 => ?_)
    have hV := hV h22 e23
    refine g_iinc (pc := 56) X 3 (v := (1 : Int32)) (rest := [(3, Value.int y13), (0, rv w.2.2.2 x0), (1, Value.int x1)]) rfl (by decide) rfl (by decide) dX12_swap_56 (fun y24 e25 => ?_)
    have hV := hV y24 e25
    refine g_goto (pc := 59) X 25 dX12_swap_59 (by decide) ?_
    refine g_lv [2, 3, 0] rfl ?_
    exact hL25 x0 x1 y24 h22 hV
def V_X12_swap_22 (w : Wd) (sh : List Sh) (x0 : Nat) (s0 : Int32) (h : Hp) (L25 : Nat → Int32 → Int32 → Hp → Prop) (RET : Int32 → Hp → Prop) : Prop :=
  ∀ y1 : Int32, y1 = s0 → (∀ y3 : Int32, y3 = (0 : Int32) → (L25 x0 y1 y3 h))
set_option maxRecDepth 20000 in
set_option maxHeartbeats 4000000 in
theorem W_X12_swap_22 {w : Wd} {E : GE} {sh : List Sh} {x0 : Nat} {s0 : Int32} {h : Hp} {L25 : Nat → Int32 → Int32 → Hp → Prop} {RET : Int32 → Hp → Prop} (X : Cx w E cX12_swap 4 RX12) (Tt : Rt w E (some .int) sh.length 0 0 (fun q sh9 h9 => ∃ v : Int32, q = some (Value.int v) ∧ sh9 = sh ∧ RET v h9)) (hR : gR E = { frames := 0, cells := 0, slots := 0, locals := 0 }) (hL25 : ∀ (x0 : Nat) (x1 : Int32) (x2 : Int32) (h : Hp), L25 x0 x1 x2 h → G w E 4 25 [(0, rv w.2.2.2 x0), (1, Value.int x1), (2, Value.int x2)] [] sh h 0 0) (hV : V_X12_swap_22 w sh x0 s0 h L25 RET) : G w E 4 22 [(0, rv w.2.2.2 x0)] [Value.int s0] sh h 0 0 := by
  unfold V_X12_swap_22 at hV
  refine g_istore_n (pc := 22) X (i := 1) (rest := [(0, rv w.2.2.2 x0)]) rfl (by decide) (by simp [flt1, flt2, rv_cat, cat_int, cat_long]) dX12_swap_22 (fun y1 e2 => ?_)
  have hV := hV y1 e2
  refine g_iconst (pc := 23) (v := (0 : Int32)) X dX12_swap_23 (by decide) ?_
  refine g_istore_n (pc := 24) X (i := 2) (rest := [(1, Value.int y1), (0, rv w.2.2.2 x0)]) rfl (by decide) rfl dX12_swap_24 (fun y3 e4 => ?_)
  have hV := hV y3 e4
  refine g_lv [2, 1, 0] rfl ?_
  exact hL25 x0 y1 y3 h hV
def V_X12_swap_0 (w : Wd) (sh : List Sh) (x0 : Nat) (h : Hp) (L25 : Nat → Int32 → Int32 → Hp → Prop) (RET : Int32 → Hp → Prop) : Prop :=
  shAt sh x0 = some (.inr 12) ∧ ((((h.1 x0 1) ≤ (h.1 x0 3)) → (V_X12_swap_22 w sh x0 (h.1 x0 3) h L25 RET)) ∧ ((¬ (h.1 x0 1) ≤ (h.1 x0 3)) → (V_X12_swap_22 w sh x0 (h.1 x0 1) h L25 RET)))
set_option maxRecDepth 20000 in
set_option maxHeartbeats 4000000 in
theorem W_X12_swap_0 {w : Wd} {E : GE} {sh : List Sh} {x0 : Nat} {h : Hp} {L25 : Nat → Int32 → Int32 → Hp → Prop} {RET : Int32 → Hp → Prop} (X : Cx w E cX12_swap 4 RX12) (Tt : Rt w E (some .int) sh.length 0 0 (fun q sh9 h9 => ∃ v : Int32, q = some (Value.int v) ∧ sh9 = sh ∧ RET v h9)) (hR : gR E = { frames := 0, cells := 0, slots := 0, locals := 0 }) (hL25 : ∀ (x0 : Nat) (x1 : Int32) (x2 : Int32) (h : Hp), L25 x0 x1 x2 h → G w E 4 25 [(0, rv w.2.2.2 x0), (1, Value.int x1), (2, Value.int x2)] [] sh h 0 0) (hV : V_X12_swap_0 w sh x0 h L25 RET) : G w E 4 0 [(0, rv w.2.2.2 x0)] [] sh h 0 0 := by
  unfold V_X12_swap_0 at hV
  refine g_aload_n (pc := 0) X 0 rfl rfl dX12_swap_0 ?_
  obtain ⟨q1, hV⟩ := hV
  refine g_getI (pc := 1) X fl_X12_130 q1 dX12_swap_1 ?_
  refine g_aload_n (pc := 4) X 0 rfl rfl dX12_swap_4 ?_
  refine g_getI (pc := 5) X fl_X12_135 q1 dX12_swap_5 ?_
  refine g_icmp_le (pc := 8) X 18 dX12_swap_8 (by decide) (fun c2 => ?_) (fun c2 => ?_)
  · have hV := hV.1 c2
    refine g_aload_n (pc := 18) X 0 rfl rfl dX12_swap_18 ?_
    refine g_getI (pc := 19) X fl_X12_135 q1 dX12_swap_19 ?_
    exact W_X12_swap_22 X Tt hR hL25 hV
  · have hV := hV.2 c2
    refine g_aload_n (pc := 11) X 0 rfl rfl dX12_swap_11 ?_
    refine g_getI (pc := 12) X fl_X12_130 q1 dX12_swap_12 ?_
    refine g_goto (pc := 15) X 22 dX12_swap_15 (by decide) ?_
    exact W_X12_swap_22 X Tt hR hL25 hV
def C_X12_swap (w : Wd) (sh : List Sh) (x0 : Nat) (h : Hp) (RET : Int32 → Hp → Prop) : Prop := CI w yX12_swap (.code yX12_swap cX12_swap 4 (some .int)) 0 0 [rv w.2.2.2 x0] sh h RET
set_option maxRecDepth 20000 in
theorem K_X12_swap {w : Wd} {sh : List Sh} {x0 : Nat} {h : Hp} {RET : Int32 → Hp → Prop} {α : Type} {r : α → α → Prop} (wf : WellFounded r) (I25 : α → Nat → Int32 → Int32 → Hp → Prop) (hE : V_X12_swap_0 w sh x0 h (fun x0 x1 x2 h => ∃ a, I25 a x0 x1 x2 h) RET) (h25 : ∀ (b : α) (x0 : Nat) (x1 : Int32) (x2 : Int32) (h : Hp), I25 b x0 x1 x2 h → V_X12_swap_25 w sh x0 x1 x2 h (fun x0 x1 x2 h => ∃ a, r a b ∧ I25 a x0 x1 x2 h) RET) : C_X12_swap w sh x0 h RET :=
  Ct_of (by decide +kernel) (by simp [lg_sl, rv_cat, cat_int, cat_long]) (fun E X Tt hR _ => by
    have key : ∀ a : α, (∀ (x0 : Nat) (x1 : Int32) (x2 : Int32) (h : Hp), I25 a x0 x1 x2 h → G w E 4 25 [(0, rv w.2.2.2 x0), (1, Value.int x1), (2, Value.int x2)] [] sh h 0 0) := by
      intro a
      induction a using wf.induction with
      | _ a ih =>
        exact (fun x0 x1 x2 h hi => W_X12_swap_25 X Tt hR (fun x0 x1 x2 h hx => by obtain ⟨a2, ha, hi⟩ := hx; exact (ih a2 ha) x0 x1 x2 h hi) (h25 a x0 x1 x2 h hi))
    rw [show lv_args 0 [rv w.2.2.2 x0] = [(0, rv w.2.2.2 x0)] from by simp [lv_args, rv_cat, cat_int, cat_long]]
    refine g_lv [0] rfl ?_
    exact W_X12_swap_0 X Tt hR (fun x0 x1 x2 h hx => by obtain ⟨a2, hi⟩ := hx; exact (key a2) x0 x1 x2 h hi) hE)
def V_X12_differ_25 (w : Wd) (sh : List Sh) (x0 : Nat) (x1 : Int32) (x2 : Int32) (h : Hp) (L25 : Nat → Int32 → Int32 → Hp → Prop) (RET : Int32 → Hp → Prop) : Prop :=
  ((x1 ≤ x2) → (shAt sh x0 = some (.inr 12) ∧ (((¬ (h.1 x0 1) = (h.1 x0 3)) → (RET x1 h)) ∧ (((h.1 x0 1) = (h.1 x0 3)) → (RET (-3 : Int32) h))))) ∧ ((¬ x1 ≤ x2) → (shAt sh x0 = some (.inr 12) ∧ (∃ n6 : Nat, shAt sh (h.2.1 x0 0) = some (.inl (0, n6)) ∧ (vp_in x2 n6 ∧ (∃ n9 : Nat, shAt sh (h.2.1 x0 2) = some (.inl (0, n9)) ∧ (vp_in x2 n9 ∧ ((((b8 (h.1 (h.2.1 x0 0) x2.toNatClampNeg)) = (b8 (h.1 (h.2.1 x0 2) x2.toNatClampNeg))) → (∀ y12 : Int32, y12 = x2 + (1 : Int32) → (L25 x0 x1 y12 h))) ∧ ((¬ (b8 (h.1 (h.2.1 x0 0) x2.toNatClampNeg)) = (b8 (h.1 (h.2.1 x0 2) x2.toNatClampNeg))) → (RET x2 h)))))))))
set_option maxRecDepth 20000 in
set_option maxHeartbeats 4000000 in
theorem W_X12_differ_25 {w : Wd} {E : GE} {sh : List Sh} {x0 : Nat} {x1 : Int32} {x2 : Int32} {h : Hp} {L25 : Nat → Int32 → Int32 → Hp → Prop} {RET : Int32 → Hp → Prop} (X : Cx w E cX12_differ 3 RX12) (Tt : Rt w E (some .int) sh.length 0 0 (fun q sh9 h9 => ∃ v : Int32, q = some (Value.int v) ∧ sh9 = sh ∧ RET v h9)) (hR : gR E = { frames := 0, cells := 0, slots := 0, locals := 0 }) (hL25 : ∀ (x0 : Nat) (x1 : Int32) (x2 : Int32) (h : Hp), L25 x0 x1 x2 h → G w E 3 25 [(0, rv w.2.2.2 x0), (1, Value.int x1), (2, Value.int x2)] [] sh h 0 0) (hV : V_X12_differ_25 w sh x0 x1 x2 h L25 RET) : G w E 3 25 [(0, rv w.2.2.2 x0), (1, Value.int x1), (2, Value.int x2)] [] sh h 0 0 := by
  unfold V_X12_differ_25 at hV
  refine g_iload_n (pc := 25) X 2 rfl rfl dX12_differ_25 ?_
  refine g_iload_n (pc := 26) X 1 rfl rfl dX12_differ_26 ?_
  refine g_icmp_ge (pc := 27) X 53 dX12_differ_27 (by decide) (fun c1 => ?_) (fun c1 => ?_)
  · have hV := hV.1 c1
    refine g_aload_n (pc := 53) X 0 rfl rfl dX12_differ_53 ?_
    obtain ⟨q2, hV⟩ := hV
    refine g_getI (pc := 54) X fl_X12_130 q2 dX12_differ_54 ?_
    refine g_aload_n (pc := 57) X 0 rfl rfl dX12_differ_57 ?_
    refine g_getI (pc := 58) X fl_X12_135 q2 dX12_differ_58 ?_
    refine g_icmp_ne (pc := 61) X 69 dX12_differ_61 (by decide) (fun c3 => ?_) (fun c3 => ?_)
    · have hV := hV.1 c3
      refine g_iload_n (pc := 69) X 1 rfl rfl dX12_differ_69 ?_
      exact g_iret (pc := 70) X Tt ⟨_, rfl, rfl, hV⟩ dX12_differ_70
    · have hV := hV.2 c3
      refine g_bipush (pc := 64) (v := (-3 : Int32)) X dX12_differ_64 (by decide) ?_
      refine g_goto (pc := 66) X 70 dX12_differ_66 (by decide) ?_
      exact g_iret (pc := 70) X Tt ⟨_, rfl, rfl, hV⟩ dX12_differ_70
  · have hV := hV.2 c1
    refine g_aload_n (pc := 30) X 0 rfl rfl dX12_differ_30 ?_
    obtain ⟨q4, hV⟩ := hV
    refine g_getR (pc := 31) X fl_X12_7 q4 dX12_differ_31 ?_
    refine g_iload_n (pc := 34) X 2 rfl rfl dX12_differ_34 ?_
    obtain ⟨n6, q5, hV⟩ := hV
    obtain ⟨q7, hV⟩ := hV
    refine g_bald (pc := 35) X q5 q7 dX12_differ_35 ?_
    refine g_aload_n (pc := 36) X 0 rfl rfl dX12_differ_36 ?_
    refine g_getR (pc := 37) X fl_X12_13 q4 dX12_differ_37 ?_
    refine g_iload_n (pc := 40) X 2 rfl rfl dX12_differ_40 ?_
    obtain ⟨n9, q8, hV⟩ := hV
    obtain ⟨q10, hV⟩ := hV
    refine g_bald (pc := 41) X q8 q10 dX12_differ_41 ?_
    refine g_icmp_eq (pc := 42) X 47 dX12_differ_42 (by decide) (fun c11 => ?_) (fun c11 => ?_)
    · have hV := hV.1 c11
      refine g_iinc (pc := 47) X 2 (v := (1 : Int32)) (rest := [(0, rv w.2.2.2 x0), (1, Value.int x1)]) rfl (by decide) rfl (by decide) dX12_differ_47 (fun y12 e13 => ?_)
      have hV := hV y12 e13
      refine g_goto (pc := 50) X 25 dX12_differ_50 (by decide) ?_
      refine g_lv [1, 2, 0] rfl ?_
      exact hL25 x0 x1 y12 h hV
    · have hV := hV.2 c11
      refine g_iload_n (pc := 45) X 2 rfl rfl dX12_differ_45 ?_
      exact g_iret (pc := 46) X Tt ⟨_, rfl, rfl, hV⟩ dX12_differ_46
def V_X12_differ_22 (w : Wd) (sh : List Sh) (x0 : Nat) (s0 : Int32) (h : Hp) (L25 : Nat → Int32 → Int32 → Hp → Prop) (RET : Int32 → Hp → Prop) : Prop :=
  ∀ y1 : Int32, y1 = s0 → (∀ y3 : Int32, y3 = (0 : Int32) → (L25 x0 y1 y3 h))
set_option maxRecDepth 20000 in
set_option maxHeartbeats 4000000 in
theorem W_X12_differ_22 {w : Wd} {E : GE} {sh : List Sh} {x0 : Nat} {s0 : Int32} {h : Hp} {L25 : Nat → Int32 → Int32 → Hp → Prop} {RET : Int32 → Hp → Prop} (X : Cx w E cX12_differ 3 RX12) (Tt : Rt w E (some .int) sh.length 0 0 (fun q sh9 h9 => ∃ v : Int32, q = some (Value.int v) ∧ sh9 = sh ∧ RET v h9)) (hR : gR E = { frames := 0, cells := 0, slots := 0, locals := 0 }) (hL25 : ∀ (x0 : Nat) (x1 : Int32) (x2 : Int32) (h : Hp), L25 x0 x1 x2 h → G w E 3 25 [(0, rv w.2.2.2 x0), (1, Value.int x1), (2, Value.int x2)] [] sh h 0 0) (hV : V_X12_differ_22 w sh x0 s0 h L25 RET) : G w E 3 22 [(0, rv w.2.2.2 x0)] [Value.int s0] sh h 0 0 := by
  unfold V_X12_differ_22 at hV
  refine g_istore_n (pc := 22) X (i := 1) (rest := [(0, rv w.2.2.2 x0)]) rfl (by decide) (by simp [flt1, flt2, rv_cat, cat_int, cat_long]) dX12_differ_22 (fun y1 e2 => ?_)
  have hV := hV y1 e2
  refine g_iconst (pc := 23) (v := (0 : Int32)) X dX12_differ_23 (by decide) ?_
  refine g_istore_n (pc := 24) X (i := 2) (rest := [(1, Value.int y1), (0, rv w.2.2.2 x0)]) rfl (by decide) rfl dX12_differ_24 (fun y3 e4 => ?_)
  have hV := hV y3 e4
  refine g_lv [2, 1, 0] rfl ?_
  exact hL25 x0 y1 y3 h hV
def V_X12_differ_0 (w : Wd) (sh : List Sh) (x0 : Nat) (h : Hp) (L25 : Nat → Int32 → Int32 → Hp → Prop) (RET : Int32 → Hp → Prop) : Prop :=
  shAt sh x0 = some (.inr 12) ∧ ((((h.1 x0 3) ≤ (h.1 x0 1)) → (V_X12_differ_22 w sh x0 (h.1 x0 3) h L25 RET)) ∧ ((¬ (h.1 x0 3) ≤ (h.1 x0 1)) → (V_X12_differ_22 w sh x0 (h.1 x0 1) h L25 RET)))
set_option maxRecDepth 20000 in
set_option maxHeartbeats 4000000 in
theorem W_X12_differ_0 {w : Wd} {E : GE} {sh : List Sh} {x0 : Nat} {h : Hp} {L25 : Nat → Int32 → Int32 → Hp → Prop} {RET : Int32 → Hp → Prop} (X : Cx w E cX12_differ 3 RX12) (Tt : Rt w E (some .int) sh.length 0 0 (fun q sh9 h9 => ∃ v : Int32, q = some (Value.int v) ∧ sh9 = sh ∧ RET v h9)) (hR : gR E = { frames := 0, cells := 0, slots := 0, locals := 0 }) (hL25 : ∀ (x0 : Nat) (x1 : Int32) (x2 : Int32) (h : Hp), L25 x0 x1 x2 h → G w E 3 25 [(0, rv w.2.2.2 x0), (1, Value.int x1), (2, Value.int x2)] [] sh h 0 0) (hV : V_X12_differ_0 w sh x0 h L25 RET) : G w E 3 0 [(0, rv w.2.2.2 x0)] [] sh h 0 0 := by
  unfold V_X12_differ_0 at hV
  refine g_aload_n (pc := 0) X 0 rfl rfl dX12_differ_0 ?_
  obtain ⟨q1, hV⟩ := hV
  refine g_getI (pc := 1) X fl_X12_130 q1 dX12_differ_1 ?_
  refine g_aload_n (pc := 4) X 0 rfl rfl dX12_differ_4 ?_
  refine g_getI (pc := 5) X fl_X12_135 q1 dX12_differ_5 ?_
  refine g_icmp_ge (pc := 8) X 18 dX12_differ_8 (by decide) (fun c2 => ?_) (fun c2 => ?_)
  · have hV := hV.1 c2
    refine g_aload_n (pc := 18) X 0 rfl rfl dX12_differ_18 ?_
    refine g_getI (pc := 19) X fl_X12_135 q1 dX12_differ_19 ?_
    exact W_X12_differ_22 X Tt hR hL25 hV
  · have hV := hV.2 c2
    refine g_aload_n (pc := 11) X 0 rfl rfl dX12_differ_11 ?_
    refine g_getI (pc := 12) X fl_X12_130 q1 dX12_differ_12 ?_
    refine g_goto (pc := 15) X 22 dX12_differ_15 (by decide) ?_
    exact W_X12_differ_22 X Tt hR hL25 hV
def C_X12_differ (w : Wd) (sh : List Sh) (x0 : Nat) (h : Hp) (RET : Int32 → Hp → Prop) : Prop := CI w yX12_differ (.code yX12_differ cX12_differ 3 (some .int)) 0 0 [rv w.2.2.2 x0] sh h RET
set_option maxRecDepth 20000 in
theorem K_X12_differ {w : Wd} {sh : List Sh} {x0 : Nat} {h : Hp} {RET : Int32 → Hp → Prop} {α : Type} {r : α → α → Prop} (wf : WellFounded r) (I25 : α → Nat → Int32 → Int32 → Hp → Prop) (hE : V_X12_differ_0 w sh x0 h (fun x0 x1 x2 h => ∃ a, I25 a x0 x1 x2 h) RET) (h25 : ∀ (b : α) (x0 : Nat) (x1 : Int32) (x2 : Int32) (h : Hp), I25 b x0 x1 x2 h → V_X12_differ_25 w sh x0 x1 x2 h (fun x0 x1 x2 h => ∃ a, r a b ∧ I25 a x0 x1 x2 h) RET) : C_X12_differ w sh x0 h RET :=
  Ct_of (by decide +kernel) (by simp [lg_sl, rv_cat, cat_int, cat_long]) (fun E X Tt hR _ => by
    have key : ∀ a : α, (∀ (x0 : Nat) (x1 : Int32) (x2 : Int32) (h : Hp), I25 a x0 x1 x2 h → G w E 3 25 [(0, rv w.2.2.2 x0), (1, Value.int x1), (2, Value.int x2)] [] sh h 0 0) := by
      intro a
      induction a using wf.induction with
      | _ a ih =>
        exact (fun x0 x1 x2 h hi => W_X12_differ_25 X Tt hR (fun x0 x1 x2 h hx => by obtain ⟨a2, ha, hi⟩ := hx; exact (ih a2 ha) x0 x1 x2 h hi) (h25 a x0 x1 x2 h hi))
    rw [show lv_args 0 [rv w.2.2.2 x0] = [(0, rv w.2.2.2 x0)] from by simp [lv_args, rv_cat, cat_int, cat_long]]
    refine g_lv [0] rfl ?_
    exact W_X12_differ_0 X Tt hR (fun x0 x1 x2 h hx => by obtain ⟨a2, hi⟩ := hx; exact (key a2) x0 x1 x2 h hi) hE)
def V_X12_out_0 (w : Wd) (sh : List Sh) (x0 : Nat) (x1 : Int32) (h : Hp)  (RET : Int32 → Hp → Prop) : Prop :=
  ((x1 < 0) → (RET (-2 : Int32) h)) ∧ ((¬ x1 < 0) → (shAt sh x0 = some (.inr 12) ∧ (((x1 < (h.1 x0 3)) → (∃ n5 : Nat, shAt sh (h.2.1 x0 2) = some (.inl (0, n5)) ∧ (vp_in x1 n5 ∧ (RET ((b8 (h.1 (h.2.1 x0 2) x1.toNatClampNeg)) &&& (255 : Int32)) h)))) ∧ ((¬ x1 < (h.1 x0 3)) → (RET (-2 : Int32) h)))))
set_option maxRecDepth 20000 in
set_option maxHeartbeats 4000000 in
theorem W_X12_out_0 {w : Wd} {E : GE} {sh : List Sh} {x0 : Nat} {x1 : Int32} {h : Hp}  {RET : Int32 → Hp → Prop} (X : Cx w E cX12_out 2 RX12) (Tt : Rt w E (some .int) sh.length 0 0 (fun q sh9 h9 => ∃ v : Int32, q = some (Value.int v) ∧ sh9 = sh ∧ RET v h9)) (hR : gR E = { frames := 0, cells := 0, slots := 0, locals := 0 }) (hV : V_X12_out_0 w sh x0 x1 h RET) : G w E 2 0 [(0, rv w.2.2.2 x0), (1, Value.int x1)] [] sh h 0 0 := by
  unfold V_X12_out_0 at hV
  refine g_iload_n (pc := 0) X 1 rfl rfl dX12_out_0 ?_
  refine g_if_lt (pc := 1) X 12 dX12_out_1 (by decide) (fun c1 => ?_) (fun c1 => ?_)
  · have hV := hV.1 c1
    refine g_bipush (pc := 12) (v := (-2 : Int32)) X dX12_out_12 (by decide) ?_
    refine g_goto (pc := 14) X 27 dX12_out_14 (by decide) ?_
    exact g_iret (pc := 27) X Tt ⟨_, rfl, rfl, hV⟩ dX12_out_27
  · have hV := hV.2 c1
    refine g_iload_n (pc := 4) X 1 rfl rfl dX12_out_4 ?_
    refine g_aload_n (pc := 5) X 0 rfl rfl dX12_out_5 ?_
    obtain ⟨q2, hV⟩ := hV
    refine g_getI (pc := 6) X fl_X12_135 q2 dX12_out_6 ?_
    refine g_icmp_lt (pc := 9) X 17 dX12_out_9 (by decide) (fun c3 => ?_) (fun c3 => ?_)
    · have hV := hV.1 c3
      refine g_aload_n (pc := 17) X 0 rfl rfl dX12_out_17 ?_
      refine g_getR (pc := 18) X fl_X12_13 q2 dX12_out_18 ?_
      refine g_iload_n (pc := 21) X 1 rfl rfl dX12_out_21 ?_
      obtain ⟨n5, q4, hV⟩ := hV
      obtain ⟨q6, hV⟩ := hV
      refine g_bald (pc := 22) X q4 q6 dX12_out_22 ?_
      refine g_sipush (pc := 23) (v := (255 : Int32)) X dX12_out_23 (by decide) ?_
      refine g_iand (pc := 26) X dX12_out_26 ?_
      exact g_iret (pc := 27) X Tt ⟨_, rfl, rfl, hV⟩ dX12_out_27
    · have hV := hV.2 c3
      refine g_bipush (pc := 12) (v := (-2 : Int32)) X dX12_out_12 (by decide) ?_
      refine g_goto (pc := 14) X 27 dX12_out_14 (by decide) ?_
      exact g_iret (pc := 27) X Tt ⟨_, rfl, rfl, hV⟩ dX12_out_27
def C_X12_out (w : Wd) (sh : List Sh) (x0 : Nat) (x1 : Int32) (h : Hp) (RET : Int32 → Hp → Prop) : Prop := CI w yX12_out (.code yX12_out cX12_out 2 (some .int)) 0 0 [rv w.2.2.2 x0, Value.int x1] sh h RET
theorem K_X12_out {w : Wd} {sh : List Sh} {x0 : Nat} {x1 : Int32} {h : Hp} {RET : Int32 → Hp → Prop} (hV : V_X12_out_0 w sh x0 x1 h RET) : C_X12_out w sh x0 x1 h RET :=
  Ct_of (by decide +kernel) (by simp [lg_sl, rv_cat, cat_int, cat_long]) (fun E X Tt hR _ => by
    rw [show lv_args 0 [rv w.2.2.2 x0, Value.int x1] = [(0, rv w.2.2.2 x0), (1, Value.int x1)] from by simp [lv_args, rv_cat, cat_int, cat_long]]
    refine g_lv [0, 1] rfl ?_
    exact W_X12_out_0 X Tt hR hV)
def V_X12_old_15 (w : Wd) (sh : List Sh) (x0 : Nat) (x1 : Int32) (h : Hp) (L15 : Nat → Int32 → Hp → Prop) (RET : Int32 → Hp → Prop) : Prop :=
  shAt sh x0 = some (.inr 12) ∧ ((((h.1 x0 1) ≤ x1) → (∀ h3 : Hp, h3 = wI h x0 5 (h.1 x0 1) → (RET (h3.1 x0 1) h3))) ∧ ((¬ (h.1 x0 1) ≤ x1) → (∃ n6 : Nat, shAt sh (h.2.1 x0 0) = some (.inl (0, n6)) ∧ (vp_in x1 n6 ∧ (∃ n9 : Nat, shAt sh (h.2.1 x0 4) = some (.inl (0, n9)) ∧ (vp_in x1 n9 ∧ (∀ h11 : Hp, h11 = wI h (h.2.1 x0 4) x1.toNatClampNeg (b8 (h.1 (h.2.1 x0 0) x1.toNatClampNeg)) → (∀ y13 : Int32, y13 = x1 + (1 : Int32) → (L15 x0 y13 h11)))))))))
set_option maxRecDepth 20000 in
set_option maxHeartbeats 4000000 in
theorem W_X12_old_15 {w : Wd} {E : GE} {sh : List Sh} {x0 : Nat} {x1 : Int32} {h : Hp} {L15 : Nat → Int32 → Hp → Prop} {RET : Int32 → Hp → Prop} (X : Cx w E cX12_old 2 RX12) (Tt : Rt w E (some .int) sh.length 0 0 (fun q sh9 h9 => ∃ v : Int32, q = some (Value.int v) ∧ sh9 = sh ∧ RET v h9)) (hR : gR E = { frames := 0, cells := 0, slots := 0, locals := 0 }) (hL15 : ∀ (x0 : Nat) (x1 : Int32) (h : Hp), L15 x0 x1 h → G w E 2 15 [(0, rv w.2.2.2 x0), (1, Value.int x1)] [] sh h 0 0) (hV : V_X12_old_15 w sh x0 x1 h L15 RET) : G w E 2 15 [(0, rv w.2.2.2 x0), (1, Value.int x1)] [] sh h 0 0 := by
  unfold V_X12_old_15 at hV
  refine g_iload_n (pc := 15) X 1 rfl rfl dX12_old_15 ?_
  refine g_aload_n (pc := 16) X 0 rfl rfl dX12_old_16 ?_
  obtain ⟨q1, hV⟩ := hV
  refine g_getI (pc := 17) X fl_X12_130 q1 dX12_old_17 ?_
  refine g_icmp_ge (pc := 20) X 41 dX12_old_20 (by decide) (fun c2 => ?_) (fun c2 => ?_)
  · have hV := hV.1 c2
    refine g_aload_n (pc := 41) X 0 rfl rfl dX12_old_41 ?_
    refine g_aload_n (pc := 42) X 0 rfl rfl dX12_old_42 ?_
    refine g_getI (pc := 43) X fl_X12_130 q1 dX12_old_43 ?_
    refine g_putI (pc := 46) X fl_X12_138 q1 rfl rfl dX12_old_46 (fun h3 e4 => ?_)
    have hV := hV h3 e4
    refine g_aload_n (pc := 49) X 0 rfl rfl dX12_old_49 ?_
    refine g_getI (pc := 50) X fl_X12_130 q1 dX12_old_50 ?_
    exact g_iret (pc := 53) X Tt ⟨_, rfl, rfl, hV⟩ dX12_old_53
  · have hV := hV.2 c2
    refine g_aload_n (pc := 23) X 0 rfl rfl dX12_old_23 ?_
    refine g_getR (pc := 24) X fl_X12_16 q1 dX12_old_24 ?_
    refine g_iload_n (pc := 27) X 1 rfl rfl dX12_old_27 ?_
    refine g_aload_n (pc := 28) X 0 rfl rfl dX12_old_28 ?_
    refine g_getR (pc := 29) X fl_X12_7 q1 dX12_old_29 ?_
    refine g_iload_n (pc := 32) X 1 rfl rfl dX12_old_32 ?_
    obtain ⟨n6, q5, hV⟩ := hV
    obtain ⟨q7, hV⟩ := hV
    refine g_bald (pc := 33) X q5 q7 dX12_old_33 ?_
    obtain ⟨n9, q8, hV⟩ := hV
    obtain ⟨q10, hV⟩ := hV
    refine g_bast (pc := 34) X q8 q10 dX12_old_34 (fun h11 e12 => ?_)
    have hV := hV h11 e12
    refine g_iinc (pc := 35) X 1 (v := (1 : Int32)) (rest := [(0, rv w.2.2.2 x0)]) rfl (by decide) (by simp [flt1, flt2, rv_cat, cat_int, cat_long]) (by decide) dX12_old_35 (fun y13 e14 => ?_)
    have hV := hV y13 e14
    refine g_goto (pc := 38) X 15 dX12_old_38 (by decide) ?_
    refine g_lv [1, 0] rfl ?_
    exact hL15 x0 y13 h11 hV
def V_X12_old_0 (w : Wd) (sh : List Sh) (x0 : Nat) (h : Hp) (L15 : Nat → Int32 → Hp → Prop) (RET : Int32 → Hp → Prop) : Prop :=
  shAt sh x0 = some (.inr 12) ∧ ((((h.1 x0 1) ≤ (4000 : Int32)) → (∀ y3 : Int32, y3 = (0 : Int32) → (L15 x0 y3 h))) ∧ ((¬ (h.1 x0 1) ≤ (4000 : Int32)) → (RET (-4 : Int32) h)))
set_option maxRecDepth 20000 in
set_option maxHeartbeats 4000000 in
theorem W_X12_old_0 {w : Wd} {E : GE} {sh : List Sh} {x0 : Nat} {h : Hp} {L15 : Nat → Int32 → Hp → Prop} {RET : Int32 → Hp → Prop} (X : Cx w E cX12_old 2 RX12) (Tt : Rt w E (some .int) sh.length 0 0 (fun q sh9 h9 => ∃ v : Int32, q = some (Value.int v) ∧ sh9 = sh ∧ RET v h9)) (hR : gR E = { frames := 0, cells := 0, slots := 0, locals := 0 }) (hL15 : ∀ (x0 : Nat) (x1 : Int32) (h : Hp), L15 x0 x1 h → G w E 2 15 [(0, rv w.2.2.2 x0), (1, Value.int x1)] [] sh h 0 0) (hV : V_X12_old_0 w sh x0 h L15 RET) : G w E 2 0 [(0, rv w.2.2.2 x0)] [] sh h 0 0 := by
  unfold V_X12_old_0 at hV
  refine g_aload_n (pc := 0) X 0 rfl rfl dX12_old_0 ?_
  obtain ⟨q1, hV⟩ := hV
  refine g_getI (pc := 1) X fl_X12_130 q1 dX12_old_1 ?_
  refine g_sipush (pc := 4) (v := (4000 : Int32)) X dX12_old_4 (by decide) ?_
  refine g_icmp_le (pc := 7) X 13 dX12_old_7 (by decide) (fun c2 => ?_) (fun c2 => ?_)
  · have hV := hV.1 c2
    refine g_iconst (pc := 13) (v := (0 : Int32)) X dX12_old_13 (by decide) ?_
    refine g_istore_n (pc := 14) X (i := 1) (rest := [(0, rv w.2.2.2 x0)]) rfl (by decide) (by simp [flt1, flt2, rv_cat, cat_int, cat_long]) dX12_old_14 (fun y3 e4 => ?_)
    have hV := hV y3 e4
    refine g_lv [1, 0] rfl ?_
    exact hL15 x0 y3 h hV
  · have hV := hV.2 c2
    refine g_bipush (pc := 10) (v := (-4 : Int32)) X dX12_old_10 (by decide) ?_
    exact g_iret (pc := 12) X Tt ⟨_, rfl, rfl, hV⟩ dX12_old_12
def C_X12_old (w : Wd) (sh : List Sh) (x0 : Nat) (h : Hp) (RET : Int32 → Hp → Prop) : Prop := CI w yX12_old (.code yX12_old cX12_old 2 (some .int)) 0 0 [rv w.2.2.2 x0] sh h RET
set_option maxRecDepth 20000 in
theorem K_X12_old {w : Wd} {sh : List Sh} {x0 : Nat} {h : Hp} {RET : Int32 → Hp → Prop} {α : Type} {r : α → α → Prop} (wf : WellFounded r) (I15 : α → Nat → Int32 → Hp → Prop) (hE : V_X12_old_0 w sh x0 h (fun x0 x1 h => ∃ a, I15 a x0 x1 h) RET) (h15 : ∀ (b : α) (x0 : Nat) (x1 : Int32) (h : Hp), I15 b x0 x1 h → V_X12_old_15 w sh x0 x1 h (fun x0 x1 h => ∃ a, r a b ∧ I15 a x0 x1 h) RET) : C_X12_old w sh x0 h RET :=
  Ct_of (by decide +kernel) (by simp [lg_sl, rv_cat, cat_int, cat_long]) (fun E X Tt hR _ => by
    have key : ∀ a : α, (∀ (x0 : Nat) (x1 : Int32) (h : Hp), I15 a x0 x1 h → G w E 2 15 [(0, rv w.2.2.2 x0), (1, Value.int x1)] [] sh h 0 0) := by
      intro a
      induction a using wf.induction with
      | _ a ih =>
        exact (fun x0 x1 h hi => W_X12_old_15 X Tt hR (fun x0 x1 h hx => by obtain ⟨a2, ha, hi⟩ := hx; exact (ih a2 ha) x0 x1 h hi) (h15 a x0 x1 h hi))
    rw [show lv_args 0 [rv w.2.2.2 x0] = [(0, rv w.2.2.2 x0)] from by simp [lv_args, rv_cat, cat_int, cat_long]]
    refine g_lv [0] rfl ?_
    exact W_X12_old_0 X Tt hR (fun x0 x1 h hx => by obtain ⟨a2, hi⟩ := hx; exact (key a2) x0 x1 h hi) hE)
def V_X12_given_0 (w : Wd) (sh : List Sh) (x0 : Nat) (x1 : Int32) (x2 : Int32) (h : Hp)  (RET : Int32 → Hp → Prop) : Prop :=
  ((x1 < 0) → (RET (-2 : Int32) h)) ∧ ((¬ x1 < 0) → ((((32 : Int32) < x1) → (RET (-2 : Int32) h)) ∧ ((¬ (32 : Int32) < x1) → (((x2 < 0) → (RET (-2 : Int32) h)) ∧ ((¬ x2 < 0) → (((x2 ≤ (16 : Int32)) → (shAt sh x0 = some (.inr 12) ∧ (∃ P6 : Hp → Prop, C_X12_takeTable w sh x0 (0 : Int32) (2 : Int32) h P6 ∧ (∀ h9 : Hp, P6 h9 → (∃ n11 : Nat, shAt sh (h9.2.1 x0 10) = some (.inl (1, n11)) ∧ (vp_in (2 : Int32) n11 ∧ (∀ h13 : Hp, h13 = wI h9 (h9.2.1 x0 10) (2 : Int32).toNatClampNeg x1 → (∃ n16 : Nat, shAt sh (h9.2.1 x0 11) = some (.inl (1, n16)) ∧ (vp_in (2 : Int32) n16 ∧ (∀ h18 : Hp, h18 = wI h13 (h9.2.1 x0 11) (2 : Int32).toNatClampNeg x2 → (RET (256 : Int32) h18))))))))))) ∧ ((¬ x2 ≤ (16 : Int32)) → (RET (-2 : Int32) h))))))))
set_option maxRecDepth 20000 in
set_option maxHeartbeats 4000000 in
theorem W_X12_given_0 {w : Wd} {E : GE} {sh : List Sh} {x0 : Nat} {x1 : Int32} {x2 : Int32} {h : Hp}  {RET : Int32 → Hp → Prop} (X : Cx w E cX12_given 3 RX12) (Tt : Rt w E (some .int) sh.length 0 0 (fun q sh9 h9 => ∃ v : Int32, q = some (Value.int v) ∧ sh9 = sh ∧ RET v h9)) (hR : gR E = { frames := 1, cells := 0, slots := 0, locals := 23 }) (hV : V_X12_given_0 w sh x0 x1 x2 h RET) : G w E 3 0 [(0, rv w.2.2.2 x0), (1, Value.int x1), (2, Value.int x2)] [] sh h 0 0 := by
  unfold V_X12_given_0 at hV
  refine g_iload_n (pc := 0) X 1 rfl rfl dX12_given_0 ?_
  refine g_if_lt (pc := 1) X 20 dX12_given_1 (by decide) (fun c1 => ?_) (fun c1 => ?_)
  · have hV := hV.1 c1
    refine g_bipush (pc := 20) (v := (-2 : Int32)) X dX12_given_20 (by decide) ?_
    exact g_iret (pc := 22) X Tt ⟨_, rfl, rfl, hV⟩ dX12_given_22
  · have hV := hV.2 c1
    refine g_iload_n (pc := 4) X 1 rfl rfl dX12_given_4 ?_
    refine g_bipush (pc := 5) (v := (32 : Int32)) X dX12_given_5 (by decide) ?_
    refine g_icmp_gt (pc := 7) X 20 dX12_given_7 (by decide) (fun c2 => ?_) (fun c2 => ?_)
    · have hV := hV.1 c2
      refine g_bipush (pc := 20) (v := (-2 : Int32)) X dX12_given_20 (by decide) ?_
      exact g_iret (pc := 22) X Tt ⟨_, rfl, rfl, hV⟩ dX12_given_22
    · have hV := hV.2 c2
      refine g_iload_n (pc := 10) X 2 rfl rfl dX12_given_10 ?_
      refine g_if_lt (pc := 11) X 20 dX12_given_11 (by decide) (fun c3 => ?_) (fun c3 => ?_)
      · have hV := hV.1 c3
        refine g_bipush (pc := 20) (v := (-2 : Int32)) X dX12_given_20 (by decide) ?_
        exact g_iret (pc := 22) X Tt ⟨_, rfl, rfl, hV⟩ dX12_given_22
      · have hV := hV.2 c3
        refine g_iload_n (pc := 14) X 2 rfl rfl dX12_given_14 ?_
        refine g_bipush (pc := 15) (v := (16 : Int32)) X dX12_given_15 (by decide) ?_
        refine g_icmp_le (pc := 17) X 23 dX12_given_17 (by decide) (fun c4 => ?_) (fun c4 => ?_)
        · have hV := hV.1 c4
          refine g_aload_n (pc := 23) X 0 rfl rfl dX12_given_23 ?_
          refine g_iconst (pc := 24) (v := (0 : Int32)) X dX12_given_24 (by decide) ?_
          refine g_iconst (pc := 25) (v := (2 : Int32)) X dX12_given_25 (by decide) ?_
          obtain ⟨q5, hV⟩ := hV
          obtain ⟨P6, t7, hV⟩ := hV
          refine g_cVV (pc := 26) X (As := [Value.int (0 : Int32), Value.int (2 : Int32)]) ml_X12_114 rfl q5 t7 (by rw [hR]; exact ⟨by decide, by decide, by decide, by decide⟩) rfl rfl (Nat.zero_le _) dX12_given_26 (fun h9 p8 => ?_)
          have hV := hV h9 p8
          refine g_aload_n (pc := 29) X 0 rfl rfl dX12_given_29 ?_
          refine g_getR (pc := 30) X fl_X12_27 q5 dX12_given_30 ?_
          refine g_iconst (pc := 33) (v := (2 : Int32)) X dX12_given_33 (by decide) ?_
          refine g_iload_n (pc := 34) X 1 rfl rfl dX12_given_34 ?_
          obtain ⟨n11, q10, hV⟩ := hV
          obtain ⟨q12, hV⟩ := hV
          refine g_iast (pc := 35) X q10 q12 dX12_given_35 (fun h13 e14 => ?_)
          have hV := hV h13 e14
          refine g_aload_n (pc := 36) X 0 rfl rfl dX12_given_36 ?_
          refine g_getRe (pc := 37) X fl_X12_30 q5 (congrFun (congrFun (rfI e14) _) _) dX12_given_37 ?_
          refine g_iconst (pc := 40) (v := (2 : Int32)) X dX12_given_40 (by decide) ?_
          refine g_iload_n (pc := 41) X 2 rfl rfl dX12_given_41 ?_
          obtain ⟨n16, q15, hV⟩ := hV
          obtain ⟨q17, hV⟩ := hV
          refine g_iast (pc := 42) X q15 q17 dX12_given_42 (fun h18 e19 => ?_)
          have hV := hV h18 e19
          refine g_sipush (pc := 43) (v := (256 : Int32)) X dX12_given_43 (by decide) ?_
          exact g_iret (pc := 46) X Tt ⟨_, rfl, rfl, hV⟩ dX12_given_46
        · have hV := hV.2 c4
          refine g_bipush (pc := 20) (v := (-2 : Int32)) X dX12_given_20 (by decide) ?_
          exact g_iret (pc := 22) X Tt ⟨_, rfl, rfl, hV⟩ dX12_given_22
def C_X12_given (w : Wd) (sh : List Sh) (x0 : Nat) (x1 : Int32) (x2 : Int32) (h : Hp) (RET : Int32 → Hp → Prop) : Prop := CI w yX12_given (.code yX12_given cX12_given 3 (some .int)) 1 23 [rv w.2.2.2 x0, Value.int x1, Value.int x2] sh h RET
theorem K_X12_given {w : Wd} {sh : List Sh} {x0 : Nat} {x1 : Int32} {x2 : Int32} {h : Hp} {RET : Int32 → Hp → Prop} (hV : V_X12_given_0 w sh x0 x1 x2 h RET) : C_X12_given w sh x0 x1 x2 h RET :=
  Ct_of (by decide +kernel) (by simp [lg_sl, rv_cat, cat_int, cat_long]) (fun E X Tt hR _ => by
    rw [show lv_args 0 [rv w.2.2.2 x0, Value.int x1, Value.int x2] = [(0, rv w.2.2.2 x0), (1, Value.int x1), (2, Value.int x2)] from by simp [lv_args, rv_cat, cat_int, cat_long]]
    refine g_lv [0, 1, 2] rfl ?_
    exact W_X12_given_0 X Tt hR hV)
