def V_X10_cell_0 (w : Wd) (sh : List Sh) (x0 : Int32) (x1 : Int32) (h : Hp)  (RET : Int32 → Hp → Prop) : Prop :=
  RET (((((x1 - x1 / (3 : Int32) * (3 : Int32)) * (2 : Int32)) + (x1 / (3 : Int32))) * (256 : Int32)) + x0) h
set_option maxRecDepth 20000 in
set_option maxHeartbeats 4000000 in
theorem W_X10_cell_0 {w : Wd} {E : GE} {sh : List Sh} {x0 : Int32} {x1 : Int32} {h : Hp}  {RET : Int32 → Hp → Prop} (X : Cx w E cX10_cell 2 RX10) (Tt : Rt w E (some .int) sh.length 0 0 (fun q sh9 h9 => ∃ v : Int32, q = some (Value.int v) ∧ sh9 = sh ∧ RET v h9)) (hR : gR E = { frames := 0, cells := 0, slots := 0, locals := 0 }) (hV : V_X10_cell_0 w sh x0 x1 h RET) : G w E 2 0 [(0, Value.int x0), (1, Value.int x1)] [] sh h 0 0 := by
  unfold V_X10_cell_0 at hV
  refine g_iload_n (pc := 0) X 1 rfl rfl dX10_cell_0 ?_
  refine g_iconst (pc := 1) (v := (3 : Int32)) X dX10_cell_1 (by decide) ?_
  refine g_irem (pc := 2) X dX10_cell_2 (by decide) ?_
  refine g_iconst (pc := 3) (v := (2 : Int32)) X dX10_cell_3 (by decide) ?_
  refine g_imul (pc := 4) X dX10_cell_4 ?_
  refine g_iload_n (pc := 5) X 1 rfl rfl dX10_cell_5 ?_
  refine g_iconst (pc := 6) (v := (3 : Int32)) X dX10_cell_6 (by decide) ?_
  refine g_idiv (pc := 7) X dX10_cell_7 (by decide) ?_
  refine g_iadd (pc := 8) X dX10_cell_8 ?_
  refine g_sipush (pc := 9) (v := (256 : Int32)) X dX10_cell_9 (by decide) ?_
  refine g_imul (pc := 12) X dX10_cell_12 ?_
  refine g_iload_n (pc := 13) X 0 rfl rfl dX10_cell_13 ?_
  refine g_iadd (pc := 14) X dX10_cell_14 ?_
  exact g_iret (pc := 15) X Tt ⟨_, rfl, rfl, hV⟩ dX10_cell_15
def C_X10_cell (w : Wd) (sh : List Sh) (x0 : Int32) (x1 : Int32) (h : Hp) (RET : Int32 → Hp → Prop) : Prop := CI w yX10_cell (.code yX10_cell cX10_cell 2 (some .int)) 0 0 [Value.int x0, Value.int x1] sh h RET
theorem K_X10_cell {w : Wd} {sh : List Sh} {x0 : Int32} {x1 : Int32} {h : Hp} {RET : Int32 → Hp → Prop} (hV : V_X10_cell_0 w sh x0 x1 h RET) : C_X10_cell w sh x0 x1 h RET :=
  Ct_of (by decide +kernel) (by simp [lg_sl, rv_cat, cat_int, cat_long]) (fun E X Tt hR _ => by
    rw [show lv_args 0 [Value.int x0, Value.int x1] = [(0, Value.int x0), (1, Value.int x1)] from by simp [lv_args, rv_cat, cat_int, cat_long]]
    refine g_lv [0, 1] rfl ?_
    exact W_X10_cell_0 X Tt hR hV)
def V_X10_put_0 (w : Wd) (sh : List Sh) (x0 : Nat) (x1 : Int32) (x2 : Int32) (x3 : Int32) (h : Hp)  (RET : Hp → Prop) : Prop :=
  shAt sh x0 = some (.inr 10) ∧ (∃ P2 : Int32 → Hp → Prop, C_X10_cell w sh x1 x2 h P2 ∧ (∀ (v6 : Int32) (h5 : Hp), P2 v6 h5 → (shAt sh (h.2.1 x0 0) = some (.inr 8) ∧ (∃ P8 : Hp → Prop, C_X8_put w sh (h.2.1 x0 0) v6 x3 h5 P8 ∧ (∀ h11 : Hp, P8 h11 → (RET h11))))))
set_option maxRecDepth 20000 in
set_option maxHeartbeats 4000000 in
theorem W_X10_put_0 {w : Wd} {E : GE} {sh : List Sh} {x0 : Nat} {x1 : Int32} {x2 : Int32} {x3 : Int32} {h : Hp}  {RET : Hp → Prop} (X : Cx w E cX10_put 4 RX10) (Tt : Rt w E none sh.length 0 0 (fun q sh9 h9 => q = none ∧ sh9 = sh ∧ RET h9)) (hR : gR E = { frames := 1, cells := 0, slots := 0, locals := 22 }) (hV : V_X10_put_0 w sh x0 x1 x2 x3 h RET) : G w E 4 0 [(0, rv w.2.2.2 x0), (1, Value.int x1), (2, Value.int x2), (3, Value.int x3)] [] sh h 0 0 := by
  unfold V_X10_put_0 at hV
  refine g_aload_n (pc := 0) X 0 rfl rfl dX10_put_0 ?_
  obtain ⟨q1, hV⟩ := hV
  refine g_getR (pc := 1) X fl_X10_14 q1 dX10_put_1 ?_
  refine g_iload_n (pc := 4) X 1 rfl rfl dX10_put_4 ?_
  refine g_iload_n (pc := 5) X 2 rfl rfl dX10_put_5 ?_
  obtain ⟨P2, t3, hV⟩ := hV
  refine g_cSI (pc := 6) X (As := [Value.int x1, Value.int x2]) ml_X10_20 t3 (by rw [hR]; exact ⟨by decide, by decide, by decide, by decide⟩) rfl rfl (by simp [rv_cat, cat_int, cat_long]) dX10_put_6 (fun v6 h5 p4 => ?_)
  have hV := hV v6 h5 p4
  refine g_iload_n (pc := 9) X 3 rfl rfl dX10_put_9 ?_
  obtain ⟨q7, hV⟩ := hV
  obtain ⟨P8, t9, hV⟩ := hV
  refine g_cVV (pc := 10) X (As := [Value.int v6, Value.int x3]) ml_X10_28 rfl q7 t9 (by rw [hR]; exact ⟨by decide, by decide, by decide, by decide⟩) rfl rfl (Nat.zero_le _) dX10_put_10 (fun h11 p10 => ?_)
  have hV := hV h11 p10
  exact g_vret (pc := 13) X Tt ⟨rfl, rfl, hV⟩ dX10_put_13
def C_X10_put (w : Wd) (sh : List Sh) (x0 : Nat) (x1 : Int32) (x2 : Int32) (x3 : Int32) (h : Hp) (RET : Hp → Prop) : Prop := CV w yX10_put (.code yX10_put cX10_put 4 none) 1 22 [rv w.2.2.2 x0, Value.int x1, Value.int x2, Value.int x3] sh h RET
theorem K_X10_put {w : Wd} {sh : List Sh} {x0 : Nat} {x1 : Int32} {x2 : Int32} {x3 : Int32} {h : Hp} {RET : Hp → Prop} (hV : V_X10_put_0 w sh x0 x1 x2 x3 h RET) : C_X10_put w sh x0 x1 x2 x3 h RET :=
  Ct_of (by decide +kernel) (by simp [lg_sl, rv_cat, cat_int, cat_long]) (fun E X Tt hR _ => by
    rw [show lv_args 0 [rv w.2.2.2 x0, Value.int x1, Value.int x2, Value.int x3] = [(0, rv w.2.2.2 x0), (1, Value.int x1), (2, Value.int x2), (3, Value.int x3)] from by simp [lv_args, rv_cat, cat_int, cat_long]]
    refine g_lv [0, 1, 2, 3] rfl ?_
    exact W_X10_put_0 X Tt hR hV)
def V_X10_lay_0 (w : Wd) (sh : List Sh) (x0 : Nat) (x1 : Int32) (x2 : Int32) (x3 : Int32) (x4 : Int32) (x5 : Int32) (h : Hp)  (RET : Hp → Prop) : Prop :=
  shAt sh x0 = some (.inr 10) ∧ (∃ P2 : Hp → Prop, C_X10_put w sh x0 x1 (x2 + (0 : Int32)) x3 h P2 ∧ (∀ h5 : Hp, P2 h5 → (∃ P6 : Hp → Prop, C_X10_put w sh x0 x1 (x2 + (1 : Int32)) x4 h5 P6 ∧ (∀ h9 : Hp, P6 h9 → (∃ P10 : Hp → Prop, C_X10_put w sh x0 x1 (x2 + (2 : Int32)) x5 h9 P10 ∧ (∀ h13 : Hp, P10 h13 → (RET h13)))))))
set_option maxRecDepth 20000 in
set_option maxHeartbeats 4000000 in
theorem W_X10_lay_0 {w : Wd} {E : GE} {sh : List Sh} {x0 : Nat} {x1 : Int32} {x2 : Int32} {x3 : Int32} {x4 : Int32} {x5 : Int32} {h : Hp}  {RET : Hp → Prop} (X : Cx w E cX10_lay 6 RX10) (Tt : Rt w E none sh.length 0 0 (fun q sh9 h9 => q = none ∧ sh9 = sh ∧ RET h9)) (hR : gR E = { frames := 2, cells := 0, slots := 0, locals := 45 }) (hV : V_X10_lay_0 w sh x0 x1 x2 x3 x4 x5 h RET) : G w E 6 0 [(0, rv w.2.2.2 x0), (1, Value.int x1), (2, Value.int x2), (3, Value.int x3), (4, Value.int x4), (5, Value.int x5)] [] sh h 0 0 := by
  unfold V_X10_lay_0 at hV
  refine g_aload_n (pc := 0) X 0 rfl rfl dX10_lay_0 ?_
  refine g_iload_n (pc := 1) X 1 rfl rfl dX10_lay_1 ?_
  refine g_iload_n (pc := 2) X 2 rfl rfl dX10_lay_2 ?_
  refine g_iconst (pc := 3) (v := (0 : Int32)) X dX10_lay_3 (by decide) ?_
  refine g_iadd (pc := 4) X dX10_lay_4 ?_
  refine g_iload_n (pc := 5) X 3 rfl rfl dX10_lay_5 ?_
  obtain ⟨q1, hV⟩ := hV
  obtain ⟨P2, t3, hV⟩ := hV
  refine g_cVV (pc := 6) X (As := [Value.int x1, Value.int (x2 + (0 : Int32)), Value.int x3]) ml_X10_56 rfl q1 t3 (by rw [hR]; exact ⟨by decide, by decide, by decide, by decide⟩) rfl rfl (Nat.zero_le _) dX10_lay_6 (fun h5 p4 => ?_)
  have hV := hV h5 p4
  refine g_aload_n (pc := 9) X 0 rfl rfl dX10_lay_9 ?_
  refine g_iload_n (pc := 10) X 1 rfl rfl dX10_lay_10 ?_
  refine g_iload_n (pc := 11) X 2 rfl rfl dX10_lay_11 ?_
  refine g_iconst (pc := 12) (v := (1 : Int32)) X dX10_lay_12 (by decide) ?_
  refine g_iadd (pc := 13) X dX10_lay_13 ?_
  refine g_iload (pc := 14) X 4 rfl dX10_lay_14 ?_
  obtain ⟨P6, t7, hV⟩ := hV
  refine g_cVV (pc := 16) X (As := [Value.int x1, Value.int (x2 + (1 : Int32)), Value.int x4]) ml_X10_56 rfl q1 t7 (by rw [hR]; exact ⟨by decide, by decide, by decide, by decide⟩) rfl rfl (Nat.zero_le _) dX10_lay_16 (fun h9 p8 => ?_)
  have hV := hV h9 p8
  refine g_aload_n (pc := 19) X 0 rfl rfl dX10_lay_19 ?_
  refine g_iload_n (pc := 20) X 1 rfl rfl dX10_lay_20 ?_
  refine g_iload_n (pc := 21) X 2 rfl rfl dX10_lay_21 ?_
  refine g_iconst (pc := 22) (v := (2 : Int32)) X dX10_lay_22 (by decide) ?_
  refine g_iadd (pc := 23) X dX10_lay_23 ?_
  refine g_iload (pc := 24) X 5 rfl dX10_lay_24 ?_
  obtain ⟨P10, t11, hV⟩ := hV
  refine g_cVV (pc := 26) X (As := [Value.int x1, Value.int (x2 + (2 : Int32)), Value.int x5]) ml_X10_56 rfl q1 t11 (by rw [hR]; exact ⟨by decide, by decide, by decide, by decide⟩) rfl rfl (Nat.zero_le _) dX10_lay_26 (fun h13 p12 => ?_)
  have hV := hV h13 p12
  exact g_vret (pc := 29) X Tt ⟨rfl, rfl, hV⟩ dX10_lay_29
def C_X10_lay (w : Wd) (sh : List Sh) (x0 : Nat) (x1 : Int32) (x2 : Int32) (x3 : Int32) (x4 : Int32) (x5 : Int32) (h : Hp) (RET : Hp → Prop) : Prop := CV w yX10_lay (.code yX10_lay cX10_lay 6 none) 2 45 [rv w.2.2.2 x0, Value.int x1, Value.int x2, Value.int x3, Value.int x4, Value.int x5] sh h RET
theorem K_X10_lay {w : Wd} {sh : List Sh} {x0 : Nat} {x1 : Int32} {x2 : Int32} {x3 : Int32} {x4 : Int32} {x5 : Int32} {h : Hp} {RET : Hp → Prop} (hV : V_X10_lay_0 w sh x0 x1 x2 x3 x4 x5 h RET) : C_X10_lay w sh x0 x1 x2 x3 x4 x5 h RET :=
  Ct_of (by decide +kernel) (by simp [lg_sl, rv_cat, cat_int, cat_long]) (fun E X Tt hR _ => by
    rw [show lv_args 0 [rv w.2.2.2 x0, Value.int x1, Value.int x2, Value.int x3, Value.int x4, Value.int x5] = [(0, rv w.2.2.2 x0), (1, Value.int x1), (2, Value.int x2), (3, Value.int x3), (4, Value.int x4), (5, Value.int x5)] from by simp [lv_args, rv_cat, cat_int, cat_long]]
    refine g_lv [0, 1, 2, 3, 4, 5] rfl ?_
    exact W_X10_lay_0 X Tt hR hV)
def V_X10_laySingles_59 (w : Wd) (sh : List Sh) (x0 : Nat) (x1 : Int32) (x2 : Int32) (x3 : Int32) (h : Hp) (L13 : Nat → Int32 → Int32 → Hp → Prop) (L39 : Nat → Int32 → Int32 → Hp → Prop) (L59 : Nat → Int32 → Int32 → Int32 → Hp → Prop) (RET : Int32 → Hp → Prop) : Prop :=
  (((18 : Int32) < x3) → (∀ y2 : Int32, y2 = x2 + (1 : Int32) → (L39 x0 x1 y2 h))) ∧ ((¬ (18 : Int32) < x3) → (shAt sh x0 = some (.inr 10) ∧ (∃ P5 : Hp → Prop, C_X10_lay w sh x0 x1 (0 : Int32) (3 : Int32) x3 x2 h P5 ∧ (∀ h8 : Hp, P5 h8 → (∀ y9 : Int32, y9 = x1 + (1 : Int32) → (∀ y11 : Int32, y11 = x3 + (1 : Int32) → (L59 x0 y9 x2 y11 h8)))))))
set_option maxRecDepth 20000 in
set_option maxHeartbeats 4000000 in
theorem W_X10_laySingles_59 {w : Wd} {E : GE} {sh : List Sh} {x0 : Nat} {x1 : Int32} {x2 : Int32} {x3 : Int32} {h : Hp} {L13 : Nat → Int32 → Int32 → Hp → Prop} {L39 : Nat → Int32 → Int32 → Hp → Prop} {L59 : Nat → Int32 → Int32 → Int32 → Hp → Prop} {RET : Int32 → Hp → Prop} (X : Cx w E cX10_laySingles 4 RX10) (Tt : Rt w E (some .int) sh.length 0 0 (fun q sh9 h9 => ∃ v : Int32, q = some (Value.int v) ∧ sh9 = sh ∧ RET v h9)) (hR : gR E = { frames := 3, cells := 0, slots := 0, locals := 70 }) (hL13 : ∀ (x0 : Nat) (x1 : Int32) (x2 : Int32) (h : Hp), L13 x0 x1 x2 h → G w E 4 13 [(0, rv w.2.2.2 x0), (1, Value.int x1), (2, Value.int x2)] [] sh h 0 0) (hL39 : ∀ (x0 : Nat) (x1 : Int32) (x2 : Int32) (h : Hp), L39 x0 x1 x2 h → G w E 4 39 [(0, rv w.2.2.2 x0), (1, Value.int x1), (2, Value.int x2)] [] sh h 0 0) (hL59 : ∀ (x0 : Nat) (x1 : Int32) (x2 : Int32) (x3 : Int32) (h : Hp), L59 x0 x1 x2 x3 h → G w E 4 59 [(0, rv w.2.2.2 x0), (1, Value.int x1), (2, Value.int x2), (3, Value.int x3)] [] sh h 0 0) (hV : V_X10_laySingles_59 w sh x0 x1 x2 x3 h L13 L39 L59 RET) : G w E 4 59 [(0, rv w.2.2.2 x0), (1, Value.int x1), (2, Value.int x2), (3, Value.int x3)] [] sh h 0 0 := by
  unfold V_X10_laySingles_59 at hV
  refine g_iload_n (pc := 59) X 3 rfl rfl dX10_laySingles_59 ?_
  refine g_bipush (pc := 60) (v := (18 : Int32)) X dX10_laySingles_60 (by decide) ?_
  refine g_icmp_gt (pc := 62) X 83 dX10_laySingles_62 (by decide) (fun c1 => ?_) (fun c1 => ?_)
  · have hV := hV.1 c1
    refine g_iinc (pc := 83) X 2 (v := (1 : Int32)) (rest := [(0, rv w.2.2.2 x0), (1, Value.int x1), (3, Value.int x3)]) rfl (by decide) rfl (by decide) dX10_laySingles_83 (fun y2 e3 => ?_)
    have hV := hV y2 e3
    refine g_goto (pc := 86) X 39 dX10_laySingles_86 (by decide) ?_
    refine g_lv [1, 2, 0] rfl ?_
    exact hL39 x0 x1 y2 h hV
  · have hV := hV.2 c1
    refine g_aload_n (pc := 65) X 0 rfl rfl dX10_laySingles_65 ?_
    refine g_iload_n (pc := 66) X 1 rfl rfl dX10_laySingles_66 ?_
    refine g_iconst (pc := 67) (v := (0 : Int32)) X dX10_laySingles_67 (by decide) ?_
    refine g_iconst (pc := 68) (v := (3 : Int32)) X dX10_laySingles_68 (by decide) ?_
    refine g_iload_n (pc := 69) X 3 rfl rfl dX10_laySingles_69 ?_
    refine g_iload_n (pc := 70) X 2 rfl rfl dX10_laySingles_70 ?_
    obtain ⟨q4, hV⟩ := hV
    obtain ⟨P5, t6, hV⟩ := hV
    refine g_cVV (pc := 71) X (As := [Value.int x1, Value.int (0 : Int32), Value.int (3 : Int32), Value.int x3, Value.int x2]) ml_X10_59 rfl q4 t6 (by rw [hR]; exact ⟨by decide, by decide, by decide, by decide⟩) rfl rfl (Nat.zero_le _) dX10_laySingles_71 (fun h8 p7 => ?_)
    have hV := hV h8 p7
    refine g_iinc (pc := 74) X 1 (v := (1 : Int32)) (rest := [(0, rv w.2.2.2 x0), (2, Value.int x2), (3, Value.int x3)]) rfl (by decide) (by simp [flt1, flt2, rv_cat, cat_int, cat_long]) (by decide) dX10_laySingles_74 (fun y9 e10 => ?_)
    have hV := hV y9 e10
    refine g_iinc (pc := 77) X 3 (v := (1 : Int32)) (rest := [(1, Value.int y9), (0, rv w.2.2.2 x0), (2, Value.int x2)]) rfl (by decide) rfl (by decide) dX10_laySingles_77 (fun y11 e12 => ?_)
    have hV := hV y11 e12
    refine g_goto (pc := 80) X 59 dX10_laySingles_80 (by decide) ?_
    refine g_lv [2, 1, 3, 0] rfl ?_
    exact hL59 x0 y9 x2 y11 h8 hV
def V_X10_laySingles_39 (w : Wd) (sh : List Sh) (x0 : Nat) (x1 : Int32) (x2 : Int32) (h : Hp) (L13 : Nat → Int32 → Int32 → Hp → Prop) (L39 : Nat → Int32 → Int32 → Hp → Prop) (L59 : Nat → Int32 → Int32 → Int32 → Hp → Prop) (RET : Int32 → Hp → Prop) : Prop :=
  (((8 : Int32) < x2) → (RET x1 h)) ∧ ((¬ (8 : Int32) < x2) → (shAt sh x0 = some (.inr 10) ∧ (∃ P3 : Hp → Prop, C_X10_lay w sh x0 x1 (0 : Int32) (3 : Int32) (0 : Int32) x2 h P3 ∧ (∀ h6 : Hp, P3 h6 → (∀ y7 : Int32, y7 = x1 + (1 : Int32) → (∀ y9 : Int32, y9 = (4 : Int32) → (L59 x0 y7 x2 y9 h6)))))))
set_option maxRecDepth 20000 in
set_option maxHeartbeats 4000000 in
theorem W_X10_laySingles_39 {w : Wd} {E : GE} {sh : List Sh} {x0 : Nat} {x1 : Int32} {x2 : Int32} {h : Hp} {L13 : Nat → Int32 → Int32 → Hp → Prop} {L39 : Nat → Int32 → Int32 → Hp → Prop} {L59 : Nat → Int32 → Int32 → Int32 → Hp → Prop} {RET : Int32 → Hp → Prop} (X : Cx w E cX10_laySingles 4 RX10) (Tt : Rt w E (some .int) sh.length 0 0 (fun q sh9 h9 => ∃ v : Int32, q = some (Value.int v) ∧ sh9 = sh ∧ RET v h9)) (hR : gR E = { frames := 3, cells := 0, slots := 0, locals := 70 }) (hL13 : ∀ (x0 : Nat) (x1 : Int32) (x2 : Int32) (h : Hp), L13 x0 x1 x2 h → G w E 4 13 [(0, rv w.2.2.2 x0), (1, Value.int x1), (2, Value.int x2)] [] sh h 0 0) (hL39 : ∀ (x0 : Nat) (x1 : Int32) (x2 : Int32) (h : Hp), L39 x0 x1 x2 h → G w E 4 39 [(0, rv w.2.2.2 x0), (1, Value.int x1), (2, Value.int x2)] [] sh h 0 0) (hL59 : ∀ (x0 : Nat) (x1 : Int32) (x2 : Int32) (x3 : Int32) (h : Hp), L59 x0 x1 x2 x3 h → G w E 4 59 [(0, rv w.2.2.2 x0), (1, Value.int x1), (2, Value.int x2), (3, Value.int x3)] [] sh h 0 0) (hV : V_X10_laySingles_39 w sh x0 x1 x2 h L13 L39 L59 RET) : G w E 4 39 [(0, rv w.2.2.2 x0), (1, Value.int x1), (2, Value.int x2)] [] sh h 0 0 := by
  unfold V_X10_laySingles_39 at hV
  refine g_iload_n (pc := 39) X 2 rfl rfl dX10_laySingles_39 ?_
  refine g_bipush (pc := 40) (v := (8 : Int32)) X dX10_laySingles_40 (by decide) ?_
  refine g_icmp_gt (pc := 42) X 89 dX10_laySingles_42 (by decide) (fun c1 => ?_) (fun c1 => ?_)
  · have hV := hV.1 c1
    refine g_iload_n (pc := 89) X 1 rfl rfl dX10_laySingles_89 ?_
    exact g_iret (pc := 90) X Tt ⟨_, rfl, rfl, hV⟩ dX10_laySingles_90
  · have hV := hV.2 c1
    refine g_aload_n (pc := 45) X 0 rfl rfl dX10_laySingles_45 ?_
    refine g_iload_n (pc := 46) X 1 rfl rfl dX10_laySingles_46 ?_
    refine g_iconst (pc := 47) (v := (0 : Int32)) X dX10_laySingles_47 (by decide) ?_
    refine g_iconst (pc := 48) (v := (3 : Int32)) X dX10_laySingles_48 (by decide) ?_
    refine g_iconst (pc := 49) (v := (0 : Int32)) X dX10_laySingles_49 (by decide) ?_
    refine g_iload_n (pc := 50) X 2 rfl rfl dX10_laySingles_50 ?_
    obtain ⟨q2, hV⟩ := hV
    obtain ⟨P3, t4, hV⟩ := hV
    refine g_cVV (pc := 51) X (As := [Value.int x1, Value.int (0 : Int32), Value.int (3 : Int32), Value.int (0 : Int32), Value.int x2]) ml_X10_59 rfl q2 t4 (by rw [hR]; exact ⟨by decide, by decide, by decide, by decide⟩) rfl rfl (Nat.zero_le _) dX10_laySingles_51 (fun h6 p5 => ?_)
    have hV := hV h6 p5
    refine g_iinc (pc := 54) X 1 (v := (1 : Int32)) (rest := [(0, rv w.2.2.2 x0), (2, Value.int x2)]) rfl (by decide) (by simp [flt1, flt2, rv_cat, cat_int, cat_long]) (by decide) dX10_laySingles_54 (fun y7 e8 => ?_)
    have hV := hV y7 e8
    refine g_iconst (pc := 57) (v := (4 : Int32)) X dX10_laySingles_57 (by decide) ?_
    refine g_istore_n (pc := 58) X (i := 3) (rest := [(1, Value.int y7), (0, rv w.2.2.2 x0), (2, Value.int x2)]) rfl (by decide) rfl dX10_laySingles_58 (fun y9 e10 => ?_)
    have hV := hV y9 e10
    refine g_lv [2, 1, 3, 0] rfl ?_
    exact hL59 x0 y7 x2 y9 h6 hV
def V_X10_laySingles_13 (w : Wd) (sh : List Sh) (x0 : Nat) (x1 : Int32) (x2 : Int32) (h : Hp) (L13 : Nat → Int32 → Int32 → Hp → Prop) (L39 : Nat → Int32 → Int32 → Hp → Prop) (L59 : Nat → Int32 → Int32 → Int32 → Hp → Prop) (RET : Int32 → Hp → Prop) : Prop :=
  (((17 : Int32) < x2) → (∀ y2 : Int32, y2 = (0 : Int32) → (L39 x0 x1 y2 h))) ∧ ((¬ (17 : Int32) < x2) → (shAt sh x0 = some (.inr 10) ∧ (∃ P5 : Hp → Prop, C_X10_lay w sh x0 x1 (0 : Int32) (1 : Int32) x2 (0 : Int32) h P5 ∧ (∀ h8 : Hp, P5 h8 → (∀ y9 : Int32, y9 = x1 + (1 : Int32) → (∀ y11 : Int32, y11 = x2 + (1 : Int32) → (L13 x0 y9 y11 h8)))))))
set_option maxRecDepth 20000 in
set_option maxHeartbeats 4000000 in
theorem W_X10_laySingles_13 {w : Wd} {E : GE} {sh : List Sh} {x0 : Nat} {x1 : Int32} {x2 : Int32} {h : Hp} {L13 : Nat → Int32 → Int32 → Hp → Prop} {L39 : Nat → Int32 → Int32 → Hp → Prop} {L59 : Nat → Int32 → Int32 → Int32 → Hp → Prop} {RET : Int32 → Hp → Prop} (X : Cx w E cX10_laySingles 4 RX10) (Tt : Rt w E (some .int) sh.length 0 0 (fun q sh9 h9 => ∃ v : Int32, q = some (Value.int v) ∧ sh9 = sh ∧ RET v h9)) (hR : gR E = { frames := 3, cells := 0, slots := 0, locals := 70 }) (hL13 : ∀ (x0 : Nat) (x1 : Int32) (x2 : Int32) (h : Hp), L13 x0 x1 x2 h → G w E 4 13 [(0, rv w.2.2.2 x0), (1, Value.int x1), (2, Value.int x2)] [] sh h 0 0) (hL39 : ∀ (x0 : Nat) (x1 : Int32) (x2 : Int32) (h : Hp), L39 x0 x1 x2 h → G w E 4 39 [(0, rv w.2.2.2 x0), (1, Value.int x1), (2, Value.int x2)] [] sh h 0 0) (hL59 : ∀ (x0 : Nat) (x1 : Int32) (x2 : Int32) (x3 : Int32) (h : Hp), L59 x0 x1 x2 x3 h → G w E 4 59 [(0, rv w.2.2.2 x0), (1, Value.int x1), (2, Value.int x2), (3, Value.int x3)] [] sh h 0 0) (hV : V_X10_laySingles_13 w sh x0 x1 x2 h L13 L39 L59 RET) : G w E 4 13 [(0, rv w.2.2.2 x0), (1, Value.int x1), (2, Value.int x2)] [] sh h 0 0 := by
  unfold V_X10_laySingles_13 at hV
  refine g_iload_n (pc := 13) X 2 rfl rfl dX10_laySingles_13 ?_
  refine g_bipush (pc := 14) (v := (17 : Int32)) X dX10_laySingles_14 (by decide) ?_
  refine g_icmp_gt (pc := 16) X 37 dX10_laySingles_16 (by decide) (fun c1 => ?_) (fun c1 => ?_)
  · have hV := hV.1 c1
    refine g_iconst (pc := 37) (v := (0 : Int32)) X dX10_laySingles_37 (by decide) ?_
    refine g_istore_n (pc := 38) X (i := 2) (rest := [(0, rv w.2.2.2 x0), (1, Value.int x1)]) rfl (by decide) rfl dX10_laySingles_38 (fun y2 e3 => ?_)
    have hV := hV y2 e3
    refine g_lv [1, 2, 0] rfl ?_
    exact hL39 x0 x1 y2 h hV
  · have hV := hV.2 c1
    refine g_aload_n (pc := 19) X 0 rfl rfl dX10_laySingles_19 ?_
    refine g_iload_n (pc := 20) X 1 rfl rfl dX10_laySingles_20 ?_
    refine g_iconst (pc := 21) (v := (0 : Int32)) X dX10_laySingles_21 (by decide) ?_
    refine g_iconst (pc := 22) (v := (1 : Int32)) X dX10_laySingles_22 (by decide) ?_
    refine g_iload_n (pc := 23) X 2 rfl rfl dX10_laySingles_23 ?_
    refine g_iconst (pc := 24) (v := (0 : Int32)) X dX10_laySingles_24 (by decide) ?_
    obtain ⟨q4, hV⟩ := hV
    obtain ⟨P5, t6, hV⟩ := hV
    refine g_cVV (pc := 25) X (As := [Value.int x1, Value.int (0 : Int32), Value.int (1 : Int32), Value.int x2, Value.int (0 : Int32)]) ml_X10_59 rfl q4 t6 (by rw [hR]; exact ⟨by decide, by decide, by decide, by decide⟩) rfl rfl (Nat.zero_le _) dX10_laySingles_25 (fun h8 p7 => ?_)
    have hV := hV h8 p7
    refine g_iinc (pc := 28) X 1 (v := (1 : Int32)) (rest := [(0, rv w.2.2.2 x0), (2, Value.int x2)]) rfl (by decide) (by simp [flt1, flt2, rv_cat, cat_int, cat_long]) (by decide) dX10_laySingles_28 (fun y9 e10 => ?_)
    have hV := hV y9 e10
    refine g_iinc (pc := 31) X 2 (v := (1 : Int32)) (rest := [(1, Value.int y9), (0, rv w.2.2.2 x0)]) rfl (by decide) rfl (by decide) dX10_laySingles_31 (fun y11 e12 => ?_)
    have hV := hV y11 e12
    refine g_goto (pc := 34) X 13 dX10_laySingles_34 (by decide) ?_
    refine g_lv [2, 1, 0] rfl ?_
    exact hL13 x0 y9 y11 h8 hV
def V_X10_laySingles_0 (w : Wd) (sh : List Sh) (x0 : Nat) (h : Hp) (L13 : Nat → Int32 → Int32 → Hp → Prop) (L39 : Nat → Int32 → Int32 → Hp → Prop) (L59 : Nat → Int32 → Int32 → Int32 → Hp → Prop) (RET : Int32 → Hp → Prop) : Prop :=
  shAt sh x0 = some (.inr 10) ∧ (∃ P2 : Hp → Prop, C_X10_lay w sh x0 (0 : Int32) (0 : Int32) (2 : Int32) (0 : Int32) (0 : Int32) h P2 ∧ (∀ h5 : Hp, P2 h5 → (∀ y6 : Int32, y6 = (1 : Int32) → (∀ y8 : Int32, y8 = (0 : Int32) → (L13 x0 y6 y8 h5)))))
set_option maxRecDepth 20000 in
set_option maxHeartbeats 4000000 in
theorem W_X10_laySingles_0 {w : Wd} {E : GE} {sh : List Sh} {x0 : Nat} {h : Hp} {L13 : Nat → Int32 → Int32 → Hp → Prop} {L39 : Nat → Int32 → Int32 → Hp → Prop} {L59 : Nat → Int32 → Int32 → Int32 → Hp → Prop} {RET : Int32 → Hp → Prop} (X : Cx w E cX10_laySingles 4 RX10) (Tt : Rt w E (some .int) sh.length 0 0 (fun q sh9 h9 => ∃ v : Int32, q = some (Value.int v) ∧ sh9 = sh ∧ RET v h9)) (hR : gR E = { frames := 3, cells := 0, slots := 0, locals := 70 }) (hL13 : ∀ (x0 : Nat) (x1 : Int32) (x2 : Int32) (h : Hp), L13 x0 x1 x2 h → G w E 4 13 [(0, rv w.2.2.2 x0), (1, Value.int x1), (2, Value.int x2)] [] sh h 0 0) (hL39 : ∀ (x0 : Nat) (x1 : Int32) (x2 : Int32) (h : Hp), L39 x0 x1 x2 h → G w E 4 39 [(0, rv w.2.2.2 x0), (1, Value.int x1), (2, Value.int x2)] [] sh h 0 0) (hL59 : ∀ (x0 : Nat) (x1 : Int32) (x2 : Int32) (x3 : Int32) (h : Hp), L59 x0 x1 x2 x3 h → G w E 4 59 [(0, rv w.2.2.2 x0), (1, Value.int x1), (2, Value.int x2), (3, Value.int x3)] [] sh h 0 0) (hV : V_X10_laySingles_0 w sh x0 h L13 L39 L59 RET) : G w E 4 0 [(0, rv w.2.2.2 x0)] [] sh h 0 0 := by
  unfold V_X10_laySingles_0 at hV
  refine g_aload_n (pc := 0) X 0 rfl rfl dX10_laySingles_0 ?_
  refine g_iconst (pc := 1) (v := (0 : Int32)) X dX10_laySingles_1 (by decide) ?_
  refine g_iconst (pc := 2) (v := (0 : Int32)) X dX10_laySingles_2 (by decide) ?_
  refine g_iconst (pc := 3) (v := (2 : Int32)) X dX10_laySingles_3 (by decide) ?_
  refine g_iconst (pc := 4) (v := (0 : Int32)) X dX10_laySingles_4 (by decide) ?_
  refine g_iconst (pc := 5) (v := (0 : Int32)) X dX10_laySingles_5 (by decide) ?_
  obtain ⟨q1, hV⟩ := hV
  obtain ⟨P2, t3, hV⟩ := hV
  refine g_cVV (pc := 6) X (As := [Value.int (0 : Int32), Value.int (0 : Int32), Value.int (2 : Int32), Value.int (0 : Int32), Value.int (0 : Int32)]) ml_X10_59 rfl q1 t3 (by rw [hR]; exact ⟨by decide, by decide, by decide, by decide⟩) rfl rfl (Nat.zero_le _) dX10_laySingles_6 (fun h5 p4 => ?_)
  have hV := hV h5 p4
  refine g_iconst (pc := 9) (v := (1 : Int32)) X dX10_laySingles_9 (by decide) ?_
  refine g_istore_n (pc := 10) X (i := 1) (rest := [(0, rv w.2.2.2 x0)]) rfl (by decide) (by simp [flt1, flt2, rv_cat, cat_int, cat_long]) dX10_laySingles_10 (fun y6 e7 => ?_)
  have hV := hV y6 e7
  refine g_iconst (pc := 11) (v := (0 : Int32)) X dX10_laySingles_11 (by decide) ?_
  refine g_istore_n (pc := 12) X (i := 2) (rest := [(1, Value.int y6), (0, rv w.2.2.2 x0)]) rfl (by decide) rfl dX10_laySingles_12 (fun y8 e9 => ?_)
  have hV := hV y8 e9
  refine g_lv [2, 1, 0] rfl ?_
  exact hL13 x0 y6 y8 h5 hV
def C_X10_laySingles (w : Wd) (sh : List Sh) (x0 : Nat) (h : Hp) (RET : Int32 → Hp → Prop) : Prop := CI w yX10_laySingles (.code yX10_laySingles cX10_laySingles 4 (some .int)) 3 70 [rv w.2.2.2 x0] sh h RET
set_option maxRecDepth 20000 in
theorem K_X10_laySingles {w : Wd} {sh : List Sh} {x0 : Nat} {h : Hp} {RET : Int32 → Hp → Prop} {α : Type} {r : α → α → Prop} (wf : WellFounded r) (I13 : α → Nat → Int32 → Int32 → Hp → Prop) (I39 : α → Nat → Int32 → Int32 → Hp → Prop) (I59 : α → Nat → Int32 → Int32 → Int32 → Hp → Prop) (hE : V_X10_laySingles_0 w sh x0 h (fun x0 x1 x2 h => ∃ a, I13 a x0 x1 x2 h) (fun x0 x1 x2 h => ∃ a, I39 a x0 x1 x2 h) (fun x0 x1 x2 x3 h => ∃ a, I59 a x0 x1 x2 x3 h) RET) (h13 : ∀ (b : α) (x0 : Nat) (x1 : Int32) (x2 : Int32) (h : Hp), I13 b x0 x1 x2 h → V_X10_laySingles_13 w sh x0 x1 x2 h (fun x0 x1 x2 h => ∃ a, r a b ∧ I13 a x0 x1 x2 h) (fun x0 x1 x2 h => ∃ a, r a b ∧ I39 a x0 x1 x2 h) (fun x0 x1 x2 x3 h => ∃ a, r a b ∧ I59 a x0 x1 x2 x3 h) RET) (h39 : ∀ (b : α) (x0 : Nat) (x1 : Int32) (x2 : Int32) (h : Hp), I39 b x0 x1 x2 h → V_X10_laySingles_39 w sh x0 x1 x2 h (fun x0 x1 x2 h => ∃ a, r a b ∧ I13 a x0 x1 x2 h) (fun x0 x1 x2 h => ∃ a, r a b ∧ I39 a x0 x1 x2 h) (fun x0 x1 x2 x3 h => ∃ a, r a b ∧ I59 a x0 x1 x2 x3 h) RET) (h59 : ∀ (b : α) (x0 : Nat) (x1 : Int32) (x2 : Int32) (x3 : Int32) (h : Hp), I59 b x0 x1 x2 x3 h → V_X10_laySingles_59 w sh x0 x1 x2 x3 h (fun x0 x1 x2 h => ∃ a, r a b ∧ I13 a x0 x1 x2 h) (fun x0 x1 x2 h => ∃ a, r a b ∧ I39 a x0 x1 x2 h) (fun x0 x1 x2 x3 h => ∃ a, r a b ∧ I59 a x0 x1 x2 x3 h) RET) : C_X10_laySingles w sh x0 h RET :=
  Ct_of (by decide +kernel) (by simp [lg_sl, rv_cat, cat_int, cat_long]) (fun E X Tt hR _ => by
    have key : ∀ a : α, (∀ (x0 : Nat) (x1 : Int32) (x2 : Int32) (h : Hp), I13 a x0 x1 x2 h → G w E 4 13 [(0, rv w.2.2.2 x0), (1, Value.int x1), (2, Value.int x2)] [] sh h 0 0) ∧ (∀ (x0 : Nat) (x1 : Int32) (x2 : Int32) (h : Hp), I39 a x0 x1 x2 h → G w E 4 39 [(0, rv w.2.2.2 x0), (1, Value.int x1), (2, Value.int x2)] [] sh h 0 0) ∧ (∀ (x0 : Nat) (x1 : Int32) (x2 : Int32) (x3 : Int32) (h : Hp), I59 a x0 x1 x2 x3 h → G w E 4 59 [(0, rv w.2.2.2 x0), (1, Value.int x1), (2, Value.int x2), (3, Value.int x3)] [] sh h 0 0) := by
      intro a
      induction a using wf.induction with
      | _ a ih =>
        exact ⟨(fun x0 x1 x2 h hi => W_X10_laySingles_13 X Tt hR (fun x0 x1 x2 h hx => by obtain ⟨a2, ha, hi⟩ := hx; exact ((ih a2 ha)).1 x0 x1 x2 h hi) (fun x0 x1 x2 h hx => by obtain ⟨a2, ha, hi⟩ := hx; exact (((ih a2 ha)).2).1 x0 x1 x2 h hi) (fun x0 x1 x2 x3 h hx => by obtain ⟨a2, ha, hi⟩ := hx; exact (((ih a2 ha)).2).2 x0 x1 x2 x3 h hi) (h13 a x0 x1 x2 h hi)), (fun x0 x1 x2 h hi => W_X10_laySingles_39 X Tt hR (fun x0 x1 x2 h hx => by obtain ⟨a2, ha, hi⟩ := hx; exact ((ih a2 ha)).1 x0 x1 x2 h hi) (fun x0 x1 x2 h hx => by obtain ⟨a2, ha, hi⟩ := hx; exact (((ih a2 ha)).2).1 x0 x1 x2 h hi) (fun x0 x1 x2 x3 h hx => by obtain ⟨a2, ha, hi⟩ := hx; exact (((ih a2 ha)).2).2 x0 x1 x2 x3 h hi) (h39 a x0 x1 x2 h hi)), (fun x0 x1 x2 x3 h hi => W_X10_laySingles_59 X Tt hR (fun x0 x1 x2 h hx => by obtain ⟨a2, ha, hi⟩ := hx; exact ((ih a2 ha)).1 x0 x1 x2 h hi) (fun x0 x1 x2 h hx => by obtain ⟨a2, ha, hi⟩ := hx; exact (((ih a2 ha)).2).1 x0 x1 x2 h hi) (fun x0 x1 x2 x3 h hx => by obtain ⟨a2, ha, hi⟩ := hx; exact (((ih a2 ha)).2).2 x0 x1 x2 x3 h hi) (h59 a x0 x1 x2 x3 h hi))⟩
    rw [show lv_args 0 [rv w.2.2.2 x0] = [(0, rv w.2.2.2 x0)] from by simp [lv_args, rv_cat, cat_int, cat_long]]
    refine g_lv [0] rfl ?_
    exact W_X10_laySingles_0 X Tt hR (fun x0 x1 x2 h hx => by obtain ⟨a2, hi⟩ := hx; exact ((key a2)).1 x0 x1 x2 h hi) (fun x0 x1 x2 h hx => by obtain ⟨a2, hi⟩ := hx; exact (((key a2)).2).1 x0 x1 x2 h hi) (fun x0 x1 x2 x3 h hx => by obtain ⟨a2, hi⟩ := hx; exact (((key a2)).2).2 x0 x1 x2 x3 h hi) hE)
def V_X10_layPairs_85 (w : Wd) (sh : List Sh) (x0 : Nat) (x2 : Int32) (x3 : Int32) (h : Hp) (L4 : Nat → Int32 → Int32 → Hp → Prop) (L26 : Nat → Int32 → Int32 → Int32 → Int32 → Hp → Prop) (L35 : Nat → Int32 → Int32 → Int32 → Int32 → Int32 → Hp → Prop) (L85 : Nat → Int32 → Int32 → Hp → Prop) (RET : Hp → Prop) : Prop :=
  (((8 : Int32) < x3) → (RET h)) ∧ ((¬ (8 : Int32) < x3) → (shAt sh x0 = some (.inr 10) ∧ (∃ P3 : Hp → Prop, C_X10_lay w sh x0 x2 (0 : Int32) (3 : Int32) (4 : Int32) x3 h P3 ∧ (∀ h6 : Hp, P3 h6 → (∃ P7 : Hp → Prop, C_X10_lay w sh x0 x2 (3 : Int32) (1 : Int32) (1 : Int32) (0 : Int32) h6 P7 ∧ (∀ h10 : Hp, P7 h10 → (∀ y11 : Int32, y11 = x2 + (1 : Int32) → (∀ y13 : Int32, y13 = x3 + (1 : Int32) → (L85 x0 y11 y13 h10)))))))))
set_option maxRecDepth 20000 in
set_option maxHeartbeats 4000000 in
theorem W_X10_layPairs_85 {w : Wd} {E : GE} {sh : List Sh} {x0 : Nat} {x2 : Int32} {x3 : Int32} {h : Hp} {L4 : Nat → Int32 → Int32 → Hp → Prop} {L26 : Nat → Int32 → Int32 → Int32 → Int32 → Hp → Prop} {L35 : Nat → Int32 → Int32 → Int32 → Int32 → Int32 → Hp → Prop} {L85 : Nat → Int32 → Int32 → Hp → Prop} {RET : Hp → Prop} (X : Cx w E cX10_layPairs 7 RX10) (Tt : Rt w E none sh.length 0 0 (fun q sh9 h9 => q = none ∧ sh9 = sh ∧ RET h9)) (hR : gR E = { frames := 3, cells := 0, slots := 0, locals := 70 }) (hL4 : ∀ (x0 : Nat) (x2 : Int32) (x3 : Int32) (h : Hp), L4 x0 x2 x3 h → G w E 7 4 [(0, rv w.2.2.2 x0), (2, Value.int x2), (3, Value.int x3)] [] sh h 0 0) (hL26 : ∀ (x0 : Nat) (x2 : Int32) (x3 : Int32) (x4 : Int32) (x5 : Int32) (h : Hp), L26 x0 x2 x3 x4 x5 h → G w E 7 26 [(0, rv w.2.2.2 x0), (2, Value.int x2), (3, Value.int x3), (4, Value.int x4), (5, Value.int x5)] [] sh h 0 0) (hL35 : ∀ (x0 : Nat) (x2 : Int32) (x3 : Int32) (x4 : Int32) (x5 : Int32) (x6 : Int32) (h : Hp), L35 x0 x2 x3 x4 x5 x6 h → G w E 7 35 [(0, rv w.2.2.2 x0), (2, Value.int x2), (3, Value.int x3), (4, Value.int x4), (5, Value.int x5), (6, Value.int x6)] [] sh h 0 0) (hL85 : ∀ (x0 : Nat) (x2 : Int32) (x3 : Int32) (h : Hp), L85 x0 x2 x3 h → G w E 7 85 [(0, rv w.2.2.2 x0), (2, Value.int x2), (3, Value.int x3)] [] sh h 0 0) (hV : V_X10_layPairs_85 w sh x0 x2 x3 h L4 L26 L35 L85 RET) : G w E 7 85 [(0, rv w.2.2.2 x0), (2, Value.int x2), (3, Value.int x3)] [] sh h 0 0 := by
  unfold V_X10_layPairs_85 at hV
  refine g_iload_n (pc := 85) X 2 rfl rfl dX10_layPairs_85 ?_
  refine g_bipush (pc := 86) (v := (8 : Int32)) X dX10_layPairs_86 (by decide) ?_
  refine g_icmp_gt (pc := 88) X 118 dX10_layPairs_88 (by decide) (fun c1 => ?_) (fun c1 => ?_)
  · have hV := hV.1 c1
    exact g_vret (pc := 118) X Tt ⟨rfl, rfl, hV⟩ dX10_layPairs_118
  · have hV := hV.2 c1
    refine g_aload_n (pc := 91) X 0 rfl rfl dX10_layPairs_91 ?_
    refine g_iload_n (pc := 92) X 1 rfl rfl dX10_layPairs_92 ?_
    refine g_iconst (pc := 93) (v := (0 : Int32)) X dX10_layPairs_93 (by decide) ?_
    refine g_iconst (pc := 94) (v := (3 : Int32)) X dX10_layPairs_94 (by decide) ?_
    refine g_iconst (pc := 95) (v := (4 : Int32)) X dX10_layPairs_95 (by decide) ?_
    refine g_iload_n (pc := 96) X 2 rfl rfl dX10_layPairs_96 ?_
    obtain ⟨q2, hV⟩ := hV
    obtain ⟨P3, t4, hV⟩ := hV
    refine g_cVV (pc := 97) X (As := [Value.int x2, Value.int (0 : Int32), Value.int (3 : Int32), Value.int (4 : Int32), Value.int x3]) ml_X10_59 rfl q2 t4 (by rw [hR]; exact ⟨by decide, by decide, by decide, by decide⟩) rfl rfl (Nat.zero_le _) dX10_layPairs_97 (fun h6 p5 => ?_)
    have hV := hV h6 p5
    refine g_aload_n (pc := 100) X 0 rfl rfl dX10_layPairs_100 ?_
    refine g_iload_n (pc := 101) X 1 rfl rfl dX10_layPairs_101 ?_
    refine g_iconst (pc := 102) (v := (3 : Int32)) X dX10_layPairs_102 (by decide) ?_
    refine g_iconst (pc := 103) (v := (1 : Int32)) X dX10_layPairs_103 (by decide) ?_
    refine g_iconst (pc := 104) (v := (1 : Int32)) X dX10_layPairs_104 (by decide) ?_
    refine g_iconst (pc := 105) (v := (0 : Int32)) X dX10_layPairs_105 (by decide) ?_
    obtain ⟨P7, t8, hV⟩ := hV
    refine g_cVV (pc := 106) X (As := [Value.int x2, Value.int (3 : Int32), Value.int (1 : Int32), Value.int (1 : Int32), Value.int (0 : Int32)]) ml_X10_59 rfl q2 t8 (by rw [hR]; exact ⟨by decide, by decide, by decide, by decide⟩) rfl rfl (Nat.zero_le _) dX10_layPairs_106 (fun h10 p9 => ?_)
    have hV := hV h10 p9
    refine g_iinc (pc := 109) X 1 (v := (1 : Int32)) (rest := [(0, rv w.2.2.2 x0), (3, Value.int x3)]) rfl (by decide) rfl (by decide) dX10_layPairs_109 (fun y11 e12 => ?_)
    have hV := hV y11 e12
    refine g_iinc (pc := 112) X 2 (v := (1 : Int32)) (rest := [(2, Value.int y11), (0, rv w.2.2.2 x0)]) rfl (by decide) rfl (by decide) dX10_layPairs_112 (fun y13 e14 => ?_)
    have hV := hV y13 e14
    refine g_goto (pc := 115) X 85 dX10_layPairs_115 (by decide) ?_
    refine g_lv [2, 1, 0] rfl ?_
    exact hL85 x0 y11 y13 h10 hV
def V_X10_layPairs_35 (w : Wd) (sh : List Sh) (x0 : Nat) (x2 : Int32) (x3 : Int32) (x4 : Int32) (x5 : Int32) (x6 : Int32) (h : Hp) (L4 : Nat → Int32 → Int32 → Hp → Prop) (L26 : Nat → Int32 → Int32 → Int32 → Int32 → Hp → Prop) (L35 : Nat → Int32 → Int32 → Int32 → Int32 → Int32 → Hp → Prop) (L85 : Nat → Int32 → Int32 → Hp → Prop) (RET : Hp → Prop) : Prop :=
  ((x4 < x6) → (∀ y2 : Int32, y2 = x5 + (1 : Int32) → (L26 x0 x2 x3 x4 y2 h))) ∧ ((¬ x4 < x6) → (shAt sh x0 = some (.inr 10) ∧ (∃ P5 : Hp → Prop, C_X10_lay w sh x0 x2 (0 : Int32) (1 : Int32) x5 (0 : Int32) h P5 ∧ (∀ h8 : Hp, P5 h8 → (∃ P9 : Hp → Prop, C_X10_lay w sh x0 x2 (3 : Int32) (3 : Int32) x6 x3 h8 P9 ∧ (∀ h12 : Hp, P9 h12 → (∀ y13 : Int32, y13 = x2 + (1 : Int32) → (∀ y15 : Int32, y15 = x6 + (1 : Int32) → (L35 x0 y13 x3 x4 x5 y15 h12)))))))))
set_option maxRecDepth 20000 in
set_option maxHeartbeats 4000000 in
theorem W_X10_layPairs_35 {w : Wd} {E : GE} {sh : List Sh} {x0 : Nat} {x2 : Int32} {x3 : Int32} {x4 : Int32} {x5 : Int32} {x6 : Int32} {h : Hp} {L4 : Nat → Int32 → Int32 → Hp → Prop} {L26 : Nat → Int32 → Int32 → Int32 → Int32 → Hp → Prop} {L35 : Nat → Int32 → Int32 → Int32 → Int32 → Int32 → Hp → Prop} {L85 : Nat → Int32 → Int32 → Hp → Prop} {RET : Hp → Prop} (X : Cx w E cX10_layPairs 7 RX10) (Tt : Rt w E none sh.length 0 0 (fun q sh9 h9 => q = none ∧ sh9 = sh ∧ RET h9)) (hR : gR E = { frames := 3, cells := 0, slots := 0, locals := 70 }) (hL4 : ∀ (x0 : Nat) (x2 : Int32) (x3 : Int32) (h : Hp), L4 x0 x2 x3 h → G w E 7 4 [(0, rv w.2.2.2 x0), (2, Value.int x2), (3, Value.int x3)] [] sh h 0 0) (hL26 : ∀ (x0 : Nat) (x2 : Int32) (x3 : Int32) (x4 : Int32) (x5 : Int32) (h : Hp), L26 x0 x2 x3 x4 x5 h → G w E 7 26 [(0, rv w.2.2.2 x0), (2, Value.int x2), (3, Value.int x3), (4, Value.int x4), (5, Value.int x5)] [] sh h 0 0) (hL35 : ∀ (x0 : Nat) (x2 : Int32) (x3 : Int32) (x4 : Int32) (x5 : Int32) (x6 : Int32) (h : Hp), L35 x0 x2 x3 x4 x5 x6 h → G w E 7 35 [(0, rv w.2.2.2 x0), (2, Value.int x2), (3, Value.int x3), (4, Value.int x4), (5, Value.int x5), (6, Value.int x6)] [] sh h 0 0) (hL85 : ∀ (x0 : Nat) (x2 : Int32) (x3 : Int32) (h : Hp), L85 x0 x2 x3 h → G w E 7 85 [(0, rv w.2.2.2 x0), (2, Value.int x2), (3, Value.int x3)] [] sh h 0 0) (hV : V_X10_layPairs_35 w sh x0 x2 x3 x4 x5 x6 h L4 L26 L35 L85 RET) : G w E 7 35 [(0, rv w.2.2.2 x0), (2, Value.int x2), (3, Value.int x3), (4, Value.int x4), (5, Value.int x5), (6, Value.int x6)] [] sh h 0 0 := by
  unfold V_X10_layPairs_35 at hV
  refine g_iload (pc := 35) X 5 rfl dX10_layPairs_35 ?_
  refine g_iload (pc := 37) X 3 rfl dX10_layPairs_37 ?_
  refine g_icmp_gt (pc := 39) X 71 dX10_layPairs_39 (by decide) (fun c1 => ?_) (fun c1 => ?_)
  · have hV := hV.1 c1
    refine g_iinc (pc := 71) X 4 (v := (1 : Int32)) (rest := [(0, rv w.2.2.2 x0), (2, Value.int x2), (3, Value.int x3), (4, Value.int x4), (6, Value.int x6)]) rfl (by decide) rfl (by decide) dX10_layPairs_71 (fun y2 e3 => ?_)
    have hV := hV y2 e3
    refine g_goto (pc := 74) X 26 dX10_layPairs_74 (by decide) ?_
    refine g_lv [1, 2, 3, 4, 0] rfl ?_
    exact hL26 x0 x2 x3 x4 y2 h hV
  · have hV := hV.2 c1
    refine g_aload_n (pc := 42) X 0 rfl rfl dX10_layPairs_42 ?_
    refine g_iload_n (pc := 43) X 1 rfl rfl dX10_layPairs_43 ?_
    refine g_iconst (pc := 44) (v := (0 : Int32)) X dX10_layPairs_44 (by decide) ?_
    refine g_iconst (pc := 45) (v := (1 : Int32)) X dX10_layPairs_45 (by decide) ?_
    refine g_iload (pc := 46) X 4 rfl dX10_layPairs_46 ?_
    refine g_iconst (pc := 48) (v := (0 : Int32)) X dX10_layPairs_48 (by decide) ?_
    obtain ⟨q4, hV⟩ := hV
    obtain ⟨P5, t6, hV⟩ := hV
    refine g_cVV (pc := 49) X (As := [Value.int x2, Value.int (0 : Int32), Value.int (1 : Int32), Value.int x5, Value.int (0 : Int32)]) ml_X10_59 rfl q4 t6 (by rw [hR]; exact ⟨by decide, by decide, by decide, by decide⟩) rfl rfl (Nat.zero_le _) dX10_layPairs_49 (fun h8 p7 => ?_)
    have hV := hV h8 p7
    refine g_aload_n (pc := 52) X 0 rfl rfl dX10_layPairs_52 ?_
    refine g_iload_n (pc := 53) X 1 rfl rfl dX10_layPairs_53 ?_
    refine g_iconst (pc := 54) (v := (3 : Int32)) X dX10_layPairs_54 (by decide) ?_
    refine g_iconst (pc := 55) (v := (3 : Int32)) X dX10_layPairs_55 (by decide) ?_
    refine g_iload (pc := 56) X 5 rfl dX10_layPairs_56 ?_
    refine g_iload_n (pc := 58) X 2 rfl rfl dX10_layPairs_58 ?_
    obtain ⟨P9, t10, hV⟩ := hV
    refine g_cVV (pc := 59) X (As := [Value.int x2, Value.int (3 : Int32), Value.int (3 : Int32), Value.int x6, Value.int x3]) ml_X10_59 rfl q4 t10 (by rw [hR]; exact ⟨by decide, by decide, by decide, by decide⟩) rfl rfl (Nat.zero_le _) dX10_layPairs_59 (fun h12 p11 => ?_)
    have hV := hV h12 p11
    refine g_iinc (pc := 62) X 1 (v := (1 : Int32)) (rest := [(0, rv w.2.2.2 x0), (3, Value.int x3), (4, Value.int x4), (5, Value.int x5), (6, Value.int x6)]) rfl (by decide) rfl (by decide) dX10_layPairs_62 (fun y13 e14 => ?_)
    have hV := hV y13 e14
    refine g_iinc (pc := 65) X 5 (v := (1 : Int32)) (rest := [(2, Value.int y13), (0, rv w.2.2.2 x0), (3, Value.int x3), (4, Value.int x4), (5, Value.int x5)]) rfl (by decide) rfl (by decide) dX10_layPairs_65 (fun y15 e16 => ?_)
    have hV := hV y15 e16
    refine g_goto (pc := 68) X 35 dX10_layPairs_68 (by decide) ?_
    refine g_lv [2, 1, 3, 4, 5, 0] rfl ?_
    exact hL35 x0 y13 x3 x4 x5 y15 h12 hV
def V_X10_layPairs_26 (w : Wd) (sh : List Sh) (x0 : Nat) (x2 : Int32) (x3 : Int32) (x4 : Int32) (x5 : Int32) (h : Hp) (L4 : Nat → Int32 → Int32 → Hp → Prop) (L26 : Nat → Int32 → Int32 → Int32 → Int32 → Hp → Prop) (L35 : Nat → Int32 → Int32 → Int32 → Int32 → Int32 → Hp → Prop) (L85 : Nat → Int32 → Int32 → Hp → Prop) (RET : Hp → Prop) : Prop :=
  (((4 : Int32) < x5) → (∀ y2 : Int32, y2 = x3 + (1 : Int32) → (L4 x0 x2 y2 h))) ∧ ((¬ (4 : Int32) < x5) → (∀ y4 : Int32, y4 = (4 : Int32) → (L35 x0 x2 x3 x4 x5 y4 h)))
set_option maxRecDepth 20000 in
set_option maxHeartbeats 4000000 in
theorem W_X10_layPairs_26 {w : Wd} {E : GE} {sh : List Sh} {x0 : Nat} {x2 : Int32} {x3 : Int32} {x4 : Int32} {x5 : Int32} {h : Hp} {L4 : Nat → Int32 → Int32 → Hp → Prop} {L26 : Nat → Int32 → Int32 → Int32 → Int32 → Hp → Prop} {L35 : Nat → Int32 → Int32 → Int32 → Int32 → Int32 → Hp → Prop} {L85 : Nat → Int32 → Int32 → Hp → Prop} {RET : Hp → Prop} (X : Cx w E cX10_layPairs 7 RX10) (Tt : Rt w E none sh.length 0 0 (fun q sh9 h9 => q = none ∧ sh9 = sh ∧ RET h9)) (hR : gR E = { frames := 3, cells := 0, slots := 0, locals := 70 }) (hL4 : ∀ (x0 : Nat) (x2 : Int32) (x3 : Int32) (h : Hp), L4 x0 x2 x3 h → G w E 7 4 [(0, rv w.2.2.2 x0), (2, Value.int x2), (3, Value.int x3)] [] sh h 0 0) (hL26 : ∀ (x0 : Nat) (x2 : Int32) (x3 : Int32) (x4 : Int32) (x5 : Int32) (h : Hp), L26 x0 x2 x3 x4 x5 h → G w E 7 26 [(0, rv w.2.2.2 x0), (2, Value.int x2), (3, Value.int x3), (4, Value.int x4), (5, Value.int x5)] [] sh h 0 0) (hL35 : ∀ (x0 : Nat) (x2 : Int32) (x3 : Int32) (x4 : Int32) (x5 : Int32) (x6 : Int32) (h : Hp), L35 x0 x2 x3 x4 x5 x6 h → G w E 7 35 [(0, rv w.2.2.2 x0), (2, Value.int x2), (3, Value.int x3), (4, Value.int x4), (5, Value.int x5), (6, Value.int x6)] [] sh h 0 0) (hL85 : ∀ (x0 : Nat) (x2 : Int32) (x3 : Int32) (h : Hp), L85 x0 x2 x3 h → G w E 7 85 [(0, rv w.2.2.2 x0), (2, Value.int x2), (3, Value.int x3)] [] sh h 0 0) (hV : V_X10_layPairs_26 w sh x0 x2 x3 x4 x5 h L4 L26 L35 L85 RET) : G w E 7 26 [(0, rv w.2.2.2 x0), (2, Value.int x2), (3, Value.int x3), (4, Value.int x4), (5, Value.int x5)] [] sh h 0 0 := by
  unfold V_X10_layPairs_26 at hV
  refine g_iload (pc := 26) X 4 rfl dX10_layPairs_26 ?_
  refine g_iconst (pc := 28) (v := (4 : Int32)) X dX10_layPairs_28 (by decide) ?_
  refine g_icmp_gt (pc := 29) X 77 dX10_layPairs_29 (by decide) (fun c1 => ?_) (fun c1 => ?_)
  · have hV := hV.1 c1
    refine g_iinc (pc := 77) X 2 (v := (1 : Int32)) (rest := [(0, rv w.2.2.2 x0), (2, Value.int x2), (4, Value.int x4), (5, Value.int x5)]) rfl (by decide) rfl (by decide) dX10_layPairs_77 (fun y2 e3 => ?_)
    have hV := hV y2 e3
    refine g_goto (pc := 80) X 4 dX10_layPairs_80 (by decide) ?_
    refine g_lv [1, 2, 0] rfl ?_
    exact hL4 x0 x2 y2 h hV
  · have hV := hV.2 c1
    refine g_iconst (pc := 32) (v := (4 : Int32)) X dX10_layPairs_32 (by decide) ?_
    refine g_istore (pc := 33) X (i := 6) (rest := [(0, rv w.2.2.2 x0), (2, Value.int x2), (3, Value.int x3), (4, Value.int x4), (5, Value.int x5)]) (by decide) rfl dX10_layPairs_33 (fun y4 e5 => ?_)
    have hV := hV y4 e5
    refine g_lv [1, 2, 3, 4, 5, 0] rfl ?_
    exact hL35 x0 x2 x3 x4 x5 y4 h hV
def V_X10_layPairs_21 (w : Wd) (sh : List Sh) (x0 : Nat) (x2 : Int32) (x3 : Int32) (s0 : Int32) (h : Hp) (L4 : Nat → Int32 → Int32 → Hp → Prop) (L26 : Nat → Int32 → Int32 → Int32 → Int32 → Hp → Prop) (L35 : Nat → Int32 → Int32 → Int32 → Int32 → Int32 → Hp → Prop) (L85 : Nat → Int32 → Int32 → Hp → Prop) (RET : Hp → Prop) : Prop :=
  ∀ y1 : Int32, y1 = s0 → (∀ y3 : Int32, y3 = (1 : Int32) → (L26 x0 x2 x3 y1 y3 h))
set_option maxRecDepth 20000 in
set_option maxHeartbeats 4000000 in
theorem W_X10_layPairs_21 {w : Wd} {E : GE} {sh : List Sh} {x0 : Nat} {x2 : Int32} {x3 : Int32} {s0 : Int32} {h : Hp} {L4 : Nat → Int32 → Int32 → Hp → Prop} {L26 : Nat → Int32 → Int32 → Int32 → Int32 → Hp → Prop} {L35 : Nat → Int32 → Int32 → Int32 → Int32 → Int32 → Hp → Prop} {L85 : Nat → Int32 → Int32 → Hp → Prop} {RET : Hp → Prop} (X : Cx w E cX10_layPairs 7 RX10) (Tt : Rt w E none sh.length 0 0 (fun q sh9 h9 => q = none ∧ sh9 = sh ∧ RET h9)) (hR : gR E = { frames := 3, cells := 0, slots := 0, locals := 70 }) (hL4 : ∀ (x0 : Nat) (x2 : Int32) (x3 : Int32) (h : Hp), L4 x0 x2 x3 h → G w E 7 4 [(0, rv w.2.2.2 x0), (2, Value.int x2), (3, Value.int x3)] [] sh h 0 0) (hL26 : ∀ (x0 : Nat) (x2 : Int32) (x3 : Int32) (x4 : Int32) (x5 : Int32) (h : Hp), L26 x0 x2 x3 x4 x5 h → G w E 7 26 [(0, rv w.2.2.2 x0), (2, Value.int x2), (3, Value.int x3), (4, Value.int x4), (5, Value.int x5)] [] sh h 0 0) (hL35 : ∀ (x0 : Nat) (x2 : Int32) (x3 : Int32) (x4 : Int32) (x5 : Int32) (x6 : Int32) (h : Hp), L35 x0 x2 x3 x4 x5 x6 h → G w E 7 35 [(0, rv w.2.2.2 x0), (2, Value.int x2), (3, Value.int x3), (4, Value.int x4), (5, Value.int x5), (6, Value.int x6)] [] sh h 0 0) (hL85 : ∀ (x0 : Nat) (x2 : Int32) (x3 : Int32) (h : Hp), L85 x0 x2 x3 h → G w E 7 85 [(0, rv w.2.2.2 x0), (2, Value.int x2), (3, Value.int x3)] [] sh h 0 0) (hV : V_X10_layPairs_21 w sh x0 x2 x3 s0 h L4 L26 L35 L85 RET) : G w E 7 21 [(0, rv w.2.2.2 x0), (2, Value.int x2), (3, Value.int x3)] [Value.int s0] sh h 0 0 := by
  unfold V_X10_layPairs_21 at hV
  refine g_istore (pc := 21) X (i := 4) (rest := [(0, rv w.2.2.2 x0), (2, Value.int x2), (3, Value.int x3)]) (by decide) rfl dX10_layPairs_21 (fun y1 e2 => ?_)
  have hV := hV y1 e2
  refine g_iconst (pc := 23) (v := (1 : Int32)) X dX10_layPairs_23 (by decide) ?_
  refine g_istore (pc := 24) X (i := 5) (rest := [(4, Value.int y1), (0, rv w.2.2.2 x0), (2, Value.int x2), (3, Value.int x3)]) (by decide) rfl dX10_layPairs_24 (fun y3 e4 => ?_)
  have hV := hV y3 e4
  refine g_lv [2, 3, 4, 1, 0] rfl ?_
  exact hL26 x0 x2 x3 y1 y3 h hV
def V_X10_layPairs_4 (w : Wd) (sh : List Sh) (x0 : Nat) (x2 : Int32) (x3 : Int32) (h : Hp) (L4 : Nat → Int32 → Int32 → Hp → Prop) (L26 : Nat → Int32 → Int32 → Int32 → Int32 → Hp → Prop) (L35 : Nat → Int32 → Int32 → Int32 → Int32 → Int32 → Hp → Prop) (L85 : Nat → Int32 → Int32 → Hp → Prop) (RET : Hp → Prop) : Prop :=
  (((8 : Int32) < x3) → (∀ y2 : Int32, y2 = (0 : Int32) → (L85 x0 x2 y2 h))) ∧ ((¬ (8 : Int32) < x3) → ((((5 : Int32) < x3) → (V_X10_layPairs_21 w sh x0 x2 x3 (4 : Int32) h L4 L26 L35 L85 RET)) ∧ ((¬ (5 : Int32) < x3) → (V_X10_layPairs_21 w sh x0 x2 x3 (6 : Int32) h L4 L26 L35 L85 RET))))
set_option maxRecDepth 20000 in
set_option maxHeartbeats 4000000 in
theorem W_X10_layPairs_4 {w : Wd} {E : GE} {sh : List Sh} {x0 : Nat} {x2 : Int32} {x3 : Int32} {h : Hp} {L4 : Nat → Int32 → Int32 → Hp → Prop} {L26 : Nat → Int32 → Int32 → Int32 → Int32 → Hp → Prop} {L35 : Nat → Int32 → Int32 → Int32 → Int32 → Int32 → Hp → Prop} {L85 : Nat → Int32 → Int32 → Hp → Prop} {RET : Hp → Prop} (X : Cx w E cX10_layPairs 7 RX10) (Tt : Rt w E none sh.length 0 0 (fun q sh9 h9 => q = none ∧ sh9 = sh ∧ RET h9)) (hR : gR E = { frames := 3, cells := 0, slots := 0, locals := 70 }) (hL4 : ∀ (x0 : Nat) (x2 : Int32) (x3 : Int32) (h : Hp), L4 x0 x2 x3 h → G w E 7 4 [(0, rv w.2.2.2 x0), (2, Value.int x2), (3, Value.int x3)] [] sh h 0 0) (hL26 : ∀ (x0 : Nat) (x2 : Int32) (x3 : Int32) (x4 : Int32) (x5 : Int32) (h : Hp), L26 x0 x2 x3 x4 x5 h → G w E 7 26 [(0, rv w.2.2.2 x0), (2, Value.int x2), (3, Value.int x3), (4, Value.int x4), (5, Value.int x5)] [] sh h 0 0) (hL35 : ∀ (x0 : Nat) (x2 : Int32) (x3 : Int32) (x4 : Int32) (x5 : Int32) (x6 : Int32) (h : Hp), L35 x0 x2 x3 x4 x5 x6 h → G w E 7 35 [(0, rv w.2.2.2 x0), (2, Value.int x2), (3, Value.int x3), (4, Value.int x4), (5, Value.int x5), (6, Value.int x6)] [] sh h 0 0) (hL85 : ∀ (x0 : Nat) (x2 : Int32) (x3 : Int32) (h : Hp), L85 x0 x2 x3 h → G w E 7 85 [(0, rv w.2.2.2 x0), (2, Value.int x2), (3, Value.int x3)] [] sh h 0 0) (hV : V_X10_layPairs_4 w sh x0 x2 x3 h L4 L26 L35 L85 RET) : G w E 7 4 [(0, rv w.2.2.2 x0), (2, Value.int x2), (3, Value.int x3)] [] sh h 0 0 := by
  unfold V_X10_layPairs_4 at hV
  refine g_iload_n (pc := 4) X 2 rfl rfl dX10_layPairs_4 ?_
  refine g_bipush (pc := 5) (v := (8 : Int32)) X dX10_layPairs_5 (by decide) ?_
  refine g_icmp_gt (pc := 7) X 83 dX10_layPairs_7 (by decide) (fun c1 => ?_) (fun c1 => ?_)
  · have hV := hV.1 c1
    refine g_iconst (pc := 83) (v := (0 : Int32)) X dX10_layPairs_83 (by decide) ?_
    refine g_istore_n (pc := 84) X (i := 3) (rest := [(0, rv w.2.2.2 x0), (2, Value.int x2)]) rfl (by decide) rfl dX10_layPairs_84 (fun y2 e3 => ?_)
    have hV := hV y2 e3
    refine g_lv [1, 2, 0] rfl ?_
    exact hL85 x0 x2 y2 h hV
  · have hV := hV.2 c1
    refine g_iload_n (pc := 10) X 2 rfl rfl dX10_layPairs_10 ?_
    refine g_iconst (pc := 11) (v := (5 : Int32)) X dX10_layPairs_11 (by decide) ?_
    refine g_icmp_gt (pc := 12) X 20 dX10_layPairs_12 (by decide) (fun c4 => ?_) (fun c4 => ?_)
    · have hV := hV.1 c4
      refine g_iconst (pc := 20) (v := (4 : Int32)) X dX10_layPairs_20 (by decide) ?_
      exact W_X10_layPairs_21 X Tt hR hL4 hL26 hL35 hL85 hV
    · have hV := hV.2 c4
      refine g_bipush (pc := 15) (v := (6 : Int32)) X dX10_layPairs_15 (by decide) ?_
      refine g_goto (pc := 17) X 21 dX10_layPairs_17 (by decide) ?_
      exact W_X10_layPairs_21 X Tt hR hL4 hL26 hL35 hL85 hV
def V_X10_layPairs_0 (w : Wd) (sh : List Sh) (x0 : Nat) (x1 : Int32) (h : Hp) (L4 : Nat → Int32 → Int32 → Hp → Prop) (L26 : Nat → Int32 → Int32 → Int32 → Int32 → Hp → Prop) (L35 : Nat → Int32 → Int32 → Int32 → Int32 → Int32 → Hp → Prop) (L85 : Nat → Int32 → Int32 → Hp → Prop) (RET : Hp → Prop) : Prop :=
  ∀ y1 : Int32, y1 = x1 → (∀ y3 : Int32, y3 = (0 : Int32) → (L4 x0 y1 y3 h))
set_option maxRecDepth 20000 in
set_option maxHeartbeats 4000000 in
theorem W_X10_layPairs_0 {w : Wd} {E : GE} {sh : List Sh} {x0 : Nat} {x1 : Int32} {h : Hp} {L4 : Nat → Int32 → Int32 → Hp → Prop} {L26 : Nat → Int32 → Int32 → Int32 → Int32 → Hp → Prop} {L35 : Nat → Int32 → Int32 → Int32 → Int32 → Int32 → Hp → Prop} {L85 : Nat → Int32 → Int32 → Hp → Prop} {RET : Hp → Prop} (X : Cx w E cX10_layPairs 7 RX10) (Tt : Rt w E none sh.length 0 0 (fun q sh9 h9 => q = none ∧ sh9 = sh ∧ RET h9)) (hR : gR E = { frames := 3, cells := 0, slots := 0, locals := 70 }) (hL4 : ∀ (x0 : Nat) (x2 : Int32) (x3 : Int32) (h : Hp), L4 x0 x2 x3 h → G w E 7 4 [(0, rv w.2.2.2 x0), (2, Value.int x2), (3, Value.int x3)] [] sh h 0 0) (hL26 : ∀ (x0 : Nat) (x2 : Int32) (x3 : Int32) (x4 : Int32) (x5 : Int32) (h : Hp), L26 x0 x2 x3 x4 x5 h → G w E 7 26 [(0, rv w.2.2.2 x0), (2, Value.int x2), (3, Value.int x3), (4, Value.int x4), (5, Value.int x5)] [] sh h 0 0) (hL35 : ∀ (x0 : Nat) (x2 : Int32) (x3 : Int32) (x4 : Int32) (x5 : Int32) (x6 : Int32) (h : Hp), L35 x0 x2 x3 x4 x5 x6 h → G w E 7 35 [(0, rv w.2.2.2 x0), (2, Value.int x2), (3, Value.int x3), (4, Value.int x4), (5, Value.int x5), (6, Value.int x6)] [] sh h 0 0) (hL85 : ∀ (x0 : Nat) (x2 : Int32) (x3 : Int32) (h : Hp), L85 x0 x2 x3 h → G w E 7 85 [(0, rv w.2.2.2 x0), (2, Value.int x2), (3, Value.int x3)] [] sh h 0 0) (hV : V_X10_layPairs_0 w sh x0 x1 h L4 L26 L35 L85 RET) : G w E 7 0 [(0, rv w.2.2.2 x0), (1, Value.int x1)] [] sh h 0 0 := by
  unfold V_X10_layPairs_0 at hV
  refine g_iload_n (pc := 0) X 1 rfl rfl dX10_layPairs_0 ?_
  refine g_istore_n (pc := 1) X (i := 2) (rest := [(0, rv w.2.2.2 x0), (1, Value.int x1)]) rfl (by decide) rfl dX10_layPairs_1 (fun y1 e2 => ?_)
  have hV := hV y1 e2
  refine g_iconst (pc := 2) (v := (0 : Int32)) X dX10_layPairs_2 (by decide) ?_
  refine g_istore_n (pc := 3) X (i := 3) (rest := [(2, Value.int y1), (0, rv w.2.2.2 x0), (1, Value.int x1)]) rfl (by decide) rfl dX10_layPairs_3 (fun y3 e4 => ?_)
  have hV := hV y3 e4
  refine g_lv [2, 1, 0] rfl ?_
  exact hL4 x0 y1 y3 h hV
def C_X10_layPairs (w : Wd) (sh : List Sh) (x0 : Nat) (x1 : Int32) (h : Hp) (RET : Hp → Prop) : Prop := CV w yX10_layPairs (.code yX10_layPairs cX10_layPairs 7 none) 3 70 [rv w.2.2.2 x0, Value.int x1] sh h RET
set_option maxRecDepth 20000 in
theorem K_X10_layPairs {w : Wd} {sh : List Sh} {x0 : Nat} {x1 : Int32} {h : Hp} {RET : Hp → Prop} {α : Type} {r : α → α → Prop} (wf : WellFounded r) (I4 : α → Nat → Int32 → Int32 → Hp → Prop) (I26 : α → Nat → Int32 → Int32 → Int32 → Int32 → Hp → Prop) (I35 : α → Nat → Int32 → Int32 → Int32 → Int32 → Int32 → Hp → Prop) (I85 : α → Nat → Int32 → Int32 → Hp → Prop) (hE : V_X10_layPairs_0 w sh x0 x1 h (fun x0 x2 x3 h => ∃ a, I4 a x0 x2 x3 h) (fun x0 x2 x3 x4 x5 h => ∃ a, I26 a x0 x2 x3 x4 x5 h) (fun x0 x2 x3 x4 x5 x6 h => ∃ a, I35 a x0 x2 x3 x4 x5 x6 h) (fun x0 x2 x3 h => ∃ a, I85 a x0 x2 x3 h) RET) (h4 : ∀ (b : α) (x0 : Nat) (x2 : Int32) (x3 : Int32) (h : Hp), I4 b x0 x2 x3 h → V_X10_layPairs_4 w sh x0 x2 x3 h (fun x0 x2 x3 h => ∃ a, r a b ∧ I4 a x0 x2 x3 h) (fun x0 x2 x3 x4 x5 h => ∃ a, r a b ∧ I26 a x0 x2 x3 x4 x5 h) (fun x0 x2 x3 x4 x5 x6 h => ∃ a, r a b ∧ I35 a x0 x2 x3 x4 x5 x6 h) (fun x0 x2 x3 h => ∃ a, r a b ∧ I85 a x0 x2 x3 h) RET) (h26 : ∀ (b : α) (x0 : Nat) (x2 : Int32) (x3 : Int32) (x4 : Int32) (x5 : Int32) (h : Hp), I26 b x0 x2 x3 x4 x5 h → V_X10_layPairs_26 w sh x0 x2 x3 x4 x5 h (fun x0 x2 x3 h => ∃ a, r a b ∧ I4 a x0 x2 x3 h) (fun x0 x2 x3 x4 x5 h => ∃ a, r a b ∧ I26 a x0 x2 x3 x4 x5 h) (fun x0 x2 x3 x4 x5 x6 h => ∃ a, r a b ∧ I35 a x0 x2 x3 x4 x5 x6 h) (fun x0 x2 x3 h => ∃ a, r a b ∧ I85 a x0 x2 x3 h) RET) (h35 : ∀ (b : α) (x0 : Nat) (x2 : Int32) (x3 : Int32) (x4 : Int32) (x5 : Int32) (x6 : Int32) (h : Hp), I35 b x0 x2 x3 x4 x5 x6 h → V_X10_layPairs_35 w sh x0 x2 x3 x4 x5 x6 h (fun x0 x2 x3 h => ∃ a, r a b ∧ I4 a x0 x2 x3 h) (fun x0 x2 x3 x4 x5 h => ∃ a, r a b ∧ I26 a x0 x2 x3 x4 x5 h) (fun x0 x2 x3 x4 x5 x6 h => ∃ a, r a b ∧ I35 a x0 x2 x3 x4 x5 x6 h) (fun x0 x2 x3 h => ∃ a, r a b ∧ I85 a x0 x2 x3 h) RET) (h85 : ∀ (b : α) (x0 : Nat) (x2 : Int32) (x3 : Int32) (h : Hp), I85 b x0 x2 x3 h → V_X10_layPairs_85 w sh x0 x2 x3 h (fun x0 x2 x3 h => ∃ a, r a b ∧ I4 a x0 x2 x3 h) (fun x0 x2 x3 x4 x5 h => ∃ a, r a b ∧ I26 a x0 x2 x3 x4 x5 h) (fun x0 x2 x3 x4 x5 x6 h => ∃ a, r a b ∧ I35 a x0 x2 x3 x4 x5 x6 h) (fun x0 x2 x3 h => ∃ a, r a b ∧ I85 a x0 x2 x3 h) RET) : C_X10_layPairs w sh x0 x1 h RET :=
  Ct_of (by decide +kernel) (by simp [lg_sl, rv_cat, cat_int, cat_long]) (fun E X Tt hR _ => by
    have key : ∀ a : α, (∀ (x0 : Nat) (x2 : Int32) (x3 : Int32) (h : Hp), I4 a x0 x2 x3 h → G w E 7 4 [(0, rv w.2.2.2 x0), (2, Value.int x2), (3, Value.int x3)] [] sh h 0 0) ∧ (∀ (x0 : Nat) (x2 : Int32) (x3 : Int32) (x4 : Int32) (x5 : Int32) (h : Hp), I26 a x0 x2 x3 x4 x5 h → G w E 7 26 [(0, rv w.2.2.2 x0), (2, Value.int x2), (3, Value.int x3), (4, Value.int x4), (5, Value.int x5)] [] sh h 0 0) ∧ (∀ (x0 : Nat) (x2 : Int32) (x3 : Int32) (x4 : Int32) (x5 : Int32) (x6 : Int32) (h : Hp), I35 a x0 x2 x3 x4 x5 x6 h → G w E 7 35 [(0, rv w.2.2.2 x0), (2, Value.int x2), (3, Value.int x3), (4, Value.int x4), (5, Value.int x5), (6, Value.int x6)] [] sh h 0 0) ∧ (∀ (x0 : Nat) (x2 : Int32) (x3 : Int32) (h : Hp), I85 a x0 x2 x3 h → G w E 7 85 [(0, rv w.2.2.2 x0), (2, Value.int x2), (3, Value.int x3)] [] sh h 0 0) := by
      intro a
      induction a using wf.induction with
      | _ a ih =>
        exact ⟨(fun x0 x2 x3 h hi => W_X10_layPairs_4 X Tt hR (fun x0 x2 x3 h hx => by obtain ⟨a2, ha, hi⟩ := hx; exact ((ih a2 ha)).1 x0 x2 x3 h hi) (fun x0 x2 x3 x4 x5 h hx => by obtain ⟨a2, ha, hi⟩ := hx; exact (((ih a2 ha)).2).1 x0 x2 x3 x4 x5 h hi) (fun x0 x2 x3 x4 x5 x6 h hx => by obtain ⟨a2, ha, hi⟩ := hx; exact ((((ih a2 ha)).2).2).1 x0 x2 x3 x4 x5 x6 h hi) (fun x0 x2 x3 h hx => by obtain ⟨a2, ha, hi⟩ := hx; exact ((((ih a2 ha)).2).2).2 x0 x2 x3 h hi) (h4 a x0 x2 x3 h hi)), (fun x0 x2 x3 x4 x5 h hi => W_X10_layPairs_26 X Tt hR (fun x0 x2 x3 h hx => by obtain ⟨a2, ha, hi⟩ := hx; exact ((ih a2 ha)).1 x0 x2 x3 h hi) (fun x0 x2 x3 x4 x5 h hx => by obtain ⟨a2, ha, hi⟩ := hx; exact (((ih a2 ha)).2).1 x0 x2 x3 x4 x5 h hi) (fun x0 x2 x3 x4 x5 x6 h hx => by obtain ⟨a2, ha, hi⟩ := hx; exact ((((ih a2 ha)).2).2).1 x0 x2 x3 x4 x5 x6 h hi) (fun x0 x2 x3 h hx => by obtain ⟨a2, ha, hi⟩ := hx; exact ((((ih a2 ha)).2).2).2 x0 x2 x3 h hi) (h26 a x0 x2 x3 x4 x5 h hi)), (fun x0 x2 x3 x4 x5 x6 h hi => W_X10_layPairs_35 X Tt hR (fun x0 x2 x3 h hx => by obtain ⟨a2, ha, hi⟩ := hx; exact ((ih a2 ha)).1 x0 x2 x3 h hi) (fun x0 x2 x3 x4 x5 h hx => by obtain ⟨a2, ha, hi⟩ := hx; exact (((ih a2 ha)).2).1 x0 x2 x3 x4 x5 h hi) (fun x0 x2 x3 x4 x5 x6 h hx => by obtain ⟨a2, ha, hi⟩ := hx; exact ((((ih a2 ha)).2).2).1 x0 x2 x3 x4 x5 x6 h hi) (fun x0 x2 x3 h hx => by obtain ⟨a2, ha, hi⟩ := hx; exact ((((ih a2 ha)).2).2).2 x0 x2 x3 h hi) (h35 a x0 x2 x3 x4 x5 x6 h hi)), (fun x0 x2 x3 h hi => W_X10_layPairs_85 X Tt hR (fun x0 x2 x3 h hx => by obtain ⟨a2, ha, hi⟩ := hx; exact ((ih a2 ha)).1 x0 x2 x3 h hi) (fun x0 x2 x3 x4 x5 h hx => by obtain ⟨a2, ha, hi⟩ := hx; exact (((ih a2 ha)).2).1 x0 x2 x3 x4 x5 h hi) (fun x0 x2 x3 x4 x5 x6 h hx => by obtain ⟨a2, ha, hi⟩ := hx; exact ((((ih a2 ha)).2).2).1 x0 x2 x3 x4 x5 x6 h hi) (fun x0 x2 x3 h hx => by obtain ⟨a2, ha, hi⟩ := hx; exact ((((ih a2 ha)).2).2).2 x0 x2 x3 h hi) (h85 a x0 x2 x3 h hi))⟩
    rw [show lv_args 0 [rv w.2.2.2 x0, Value.int x1] = [(0, rv w.2.2.2 x0), (1, Value.int x1)] from by simp [lv_args, rv_cat, cat_int, cat_long]]
    refine g_lv [0, 1] rfl ?_
    exact W_X10_layPairs_0 X Tt hR (fun x0 x2 x3 h hx => by obtain ⟨a2, hi⟩ := hx; exact ((key a2)).1 x0 x2 x3 h hi) (fun x0 x2 x3 x4 x5 h hx => by obtain ⟨a2, hi⟩ := hx; exact (((key a2)).2).1 x0 x2 x3 x4 x5 h hi) (fun x0 x2 x3 x4 x5 x6 h hx => by obtain ⟨a2, hi⟩ := hx; exact ((((key a2)).2).2).1 x0 x2 x3 x4 x5 x6 h hi) (fun x0 x2 x3 h hx => by obtain ⟨a2, hi⟩ := hx; exact ((((key a2)).2).2).2 x0 x2 x3 h hi) hE)
def V_X10_becomeUsual_19 (w : Wd) (sh : List Sh) (x0 : Nat) (x1 : Int32) (h : Hp) (L19 : Nat → Int32 → Hp → Prop) (RET : Hp → Prop) : Prop :=
  (((1536 : Int32) ≤ x1) → (shAt sh x0 = some (.inr 10) ∧ (∃ P3 : Int32 → Hp → Prop, C_X10_laySingles w sh x0 h P3 ∧ (∀ (v7 : Int32) (h6 : Hp), P3 v7 h6 → (∃ P8 : Hp → Prop, C_X10_layPairs w sh x0 v7 h6 P8 ∧ (∀ h11 : Hp, P8 h11 → (RET h11))))))) ∧ ((¬ (1536 : Int32) ≤ x1) → (shAt sh x0 = some (.inr 10) ∧ (shAt sh (h.2.1 x0 0) = some (.inr 8) ∧ (∃ P14 : Hp → Prop, C_X8_push w sh (h.2.1 x0 0) (0 : Int32) h P14 ∧ (∀ h17 : Hp, P14 h17 → (∀ y18 : Int32, y18 = x1 + (1 : Int32) → (L19 x0 y18 h17)))))))
set_option maxRecDepth 20000 in
set_option maxHeartbeats 4000000 in
theorem W_X10_becomeUsual_19 {w : Wd} {E : GE} {sh : List Sh} {x0 : Nat} {x1 : Int32} {h : Hp} {L19 : Nat → Int32 → Hp → Prop} {RET : Hp → Prop} (X : Cx w E cX10_becomeUsual 2 RX10) (Tt : Rt w E none sh.length 0 0 (fun q sh9 h9 => q = none ∧ sh9 = sh ∧ RET h9)) (hR : gR E = { frames := 4, cells := 0, slots := 0, locals := 96 }) (hL19 : ∀ (x0 : Nat) (x1 : Int32) (h : Hp), L19 x0 x1 h → G w E 2 19 [(0, rv w.2.2.2 x0), (1, Value.int x1)] [] sh h 0 0) (hV : V_X10_becomeUsual_19 w sh x0 x1 h L19 RET) : G w E 2 19 [(0, rv w.2.2.2 x0), (1, Value.int x1)] [] sh h 0 0 := by
  unfold V_X10_becomeUsual_19 at hV
  refine g_iload_n (pc := 19) X 1 rfl rfl dX10_becomeUsual_19 ?_
  refine g_sipush (pc := 20) (v := (1536 : Int32)) X dX10_becomeUsual_20 (by decide) ?_
  refine g_icmp_ge (pc := 23) X 40 dX10_becomeUsual_23 (by decide) (fun c1 => ?_) (fun c1 => ?_)
  · have hV := hV.1 c1
    refine g_aload_n (pc := 40) X 0 rfl rfl dX10_becomeUsual_40 ?_
    refine g_aload_n (pc := 41) X 0 rfl rfl dX10_becomeUsual_41 ?_
    obtain ⟨q2, hV⟩ := hV
    obtain ⟨P3, t4, hV⟩ := hV
    refine g_cVI (pc := 42) X (As := []) ml_X10_49 rfl q2 t4 (by rw [hR]; exact ⟨by decide, by decide, by decide, by decide⟩) rfl rfl (by simp [rv_cat, cat_int, cat_long]) dX10_becomeUsual_42 (fun v7 h6 p5 => ?_)
    have hV := hV v7 h6 p5
    obtain ⟨P8, t9, hV⟩ := hV
    refine g_cVV (pc := 45) X (As := [Value.int v7]) ml_X10_53 rfl q2 t9 (by rw [hR]; exact ⟨by decide, by decide, by decide, by decide⟩) rfl rfl (Nat.zero_le _) dX10_becomeUsual_45 (fun h11 p10 => ?_)
    have hV := hV h11 p10
    exact g_vret (pc := 48) X Tt ⟨rfl, rfl, hV⟩ dX10_becomeUsual_48
  · have hV := hV.2 c1
    refine g_aload_n (pc := 26) X 0 rfl rfl dX10_becomeUsual_26 ?_
    obtain ⟨q12, hV⟩ := hV
    refine g_getR (pc := 27) X fl_X10_14 q12 dX10_becomeUsual_27 ?_
    refine g_iconst (pc := 30) (v := (0 : Int32)) X dX10_becomeUsual_30 (by decide) ?_
    obtain ⟨q13, hV⟩ := hV
    obtain ⟨P14, t15, hV⟩ := hV
    refine g_cVV (pc := 31) X (As := [Value.int (0 : Int32)]) ml_X10_46 rfl q13 t15 (by rw [hR]; exact ⟨by decide, by decide, by decide, by decide⟩) rfl rfl (Nat.zero_le _) dX10_becomeUsual_31 (fun h17 p16 => ?_)
    have hV := hV h17 p16
    refine g_iinc (pc := 34) X 1 (v := (1 : Int32)) (rest := [(0, rv w.2.2.2 x0)]) rfl (by decide) (by simp [flt1, flt2, rv_cat, cat_int, cat_long]) (by decide) dX10_becomeUsual_34 (fun y18 e19 => ?_)
    have hV := hV y18 e19
    refine g_goto (pc := 37) X 19 dX10_becomeUsual_37 (by decide) ?_
    refine g_lv [1, 0] rfl ?_
    exact hL19 x0 y18 h17 hV
def V_X10_becomeUsual_0 (w : Wd) (sh : List Sh) (x0 : Nat) (h : Hp) (L19 : Nat → Int32 → Hp → Prop) (RET : Hp → Prop) : Prop :=
  shAt sh x0 = some (.inr 10) ∧ (∀ h2 : Hp, h2 = wI h x0 1 (4 : Int32) → (∀ h4 : Hp, h4 = wI h2 x0 2 (3 : Int32) → (shAt sh (h.2.1 x0 0) = some (.inr 8) ∧ (∃ P7 : Hp → Prop, C_X8_clear w sh (h.2.1 x0 0) h4 P7 ∧ (∀ h10 : Hp, P7 h10 → (∀ y11 : Int32, y11 = (0 : Int32) → (L19 x0 y11 h10)))))))
set_option maxRecDepth 20000 in
set_option maxHeartbeats 4000000 in
theorem W_X10_becomeUsual_0 {w : Wd} {E : GE} {sh : List Sh} {x0 : Nat} {h : Hp} {L19 : Nat → Int32 → Hp → Prop} {RET : Hp → Prop} (X : Cx w E cX10_becomeUsual 2 RX10) (Tt : Rt w E none sh.length 0 0 (fun q sh9 h9 => q = none ∧ sh9 = sh ∧ RET h9)) (hR : gR E = { frames := 4, cells := 0, slots := 0, locals := 96 }) (hL19 : ∀ (x0 : Nat) (x1 : Int32) (h : Hp), L19 x0 x1 h → G w E 2 19 [(0, rv w.2.2.2 x0), (1, Value.int x1)] [] sh h 0 0) (hV : V_X10_becomeUsual_0 w sh x0 h L19 RET) : G w E 2 0 [(0, rv w.2.2.2 x0)] [] sh h 0 0 := by
  unfold V_X10_becomeUsual_0 at hV
  refine g_aload_n (pc := 0) X 0 rfl rfl dX10_becomeUsual_0 ?_
  refine g_iconst (pc := 1) (v := (4 : Int32)) X dX10_becomeUsual_1 (by decide) ?_
  obtain ⟨q1, hV⟩ := hV
  refine g_putI (pc := 2) X fl_X10_39 q1 rfl rfl dX10_becomeUsual_2 (fun h2 e3 => ?_)
  have hV := hV h2 e3
  refine g_aload_n (pc := 5) X 0 rfl rfl dX10_becomeUsual_5 ?_
  refine g_iconst (pc := 6) (v := (3 : Int32)) X dX10_becomeUsual_6 (by decide) ?_
  refine g_putI (pc := 7) X fl_X10_43 q1 rfl rfl dX10_becomeUsual_7 (fun h4 e5 => ?_)
  have hV := hV h4 e5
  refine g_aload_n (pc := 10) X 0 rfl rfl dX10_becomeUsual_10 ?_
  refine g_getRe (pc := 11) X fl_X10_14 q1 (congrFun (congrFun ((rfI e5).trans (rfI e3)) _) _) dX10_becomeUsual_11 ?_
  obtain ⟨q6, hV⟩ := hV
  obtain ⟨P7, t8, hV⟩ := hV
  refine g_cVV (pc := 14) X (As := []) ml_X10_32 rfl q6 t8 (by rw [hR]; exact ⟨by decide, by decide, by decide, by decide⟩) rfl rfl (Nat.zero_le _) dX10_becomeUsual_14 (fun h10 p9 => ?_)
  have hV := hV h10 p9
  refine g_iconst (pc := 17) (v := (0 : Int32)) X dX10_becomeUsual_17 (by decide) ?_
  refine g_istore_n (pc := 18) X (i := 1) (rest := [(0, rv w.2.2.2 x0)]) rfl (by decide) (by simp [flt1, flt2, rv_cat, cat_int, cat_long]) dX10_becomeUsual_18 (fun y11 e12 => ?_)
  have hV := hV y11 e12
  refine g_lv [1, 0] rfl ?_
  exact hL19 x0 y11 h10 hV
def C_X10_becomeUsual (w : Wd) (sh : List Sh) (x0 : Nat) (h : Hp) (RET : Hp → Prop) : Prop := CV w yX10_becomeUsual (.code yX10_becomeUsual cX10_becomeUsual 2 none) 4 96 [rv w.2.2.2 x0] sh h RET
set_option maxRecDepth 20000 in
theorem K_X10_becomeUsual {w : Wd} {sh : List Sh} {x0 : Nat} {h : Hp} {RET : Hp → Prop} {α : Type} {r : α → α → Prop} (wf : WellFounded r) (I19 : α → Nat → Int32 → Hp → Prop) (hE : V_X10_becomeUsual_0 w sh x0 h (fun x0 x1 h => ∃ a, I19 a x0 x1 h) RET) (h19 : ∀ (b : α) (x0 : Nat) (x1 : Int32) (h : Hp), I19 b x0 x1 h → V_X10_becomeUsual_19 w sh x0 x1 h (fun x0 x1 h => ∃ a, r a b ∧ I19 a x0 x1 h) RET) : C_X10_becomeUsual w sh x0 h RET :=
  Ct_of (by decide +kernel) (by simp [lg_sl, rv_cat, cat_int, cat_long]) (fun E X Tt hR _ => by
    have key : ∀ a : α, (∀ (x0 : Nat) (x1 : Int32) (h : Hp), I19 a x0 x1 h → G w E 2 19 [(0, rv w.2.2.2 x0), (1, Value.int x1)] [] sh h 0 0) := by
      intro a
      induction a using wf.induction with
      | _ a ih =>
        exact (fun x0 x1 h hi => W_X10_becomeUsual_19 X Tt hR (fun x0 x1 h hx => by obtain ⟨a2, ha, hi⟩ := hx; exact (ih a2 ha) x0 x1 h hi) (h19 a x0 x1 h hi))
    rw [show lv_args 0 [rv w.2.2.2 x0] = [(0, rv w.2.2.2 x0)] from by simp [lv_args, rv_cat, cat_int, cat_long]]
    refine g_lv [0] rfl ?_
    exact W_X10_becomeUsual_0 X Tt hR (fun x0 x1 h hx => by obtain ⟨a2, hi⟩ := hx; exact (key a2) x0 x1 h hi) hE)
def V_X10_become_0 (w : Wd) (sh : List Sh) (x0 : Nat) (x1 : Nat) (x2 : Int32) (x3 : Int32) (h : Hp)  (RET : Hp → Prop) : Prop :=
  shAt sh x0 = some (.inr 10) ∧ (shAt sh (h.2.1 x0 0) = some (.inr 8) ∧ (∃ P3 : Hp → Prop, C_X8_clear w sh (h.2.1 x0 0) h P3 ∧ (∀ h6 : Hp, P3 h6 → (shAt sh (h6.2.1 x0 0) = some (.inr 8) ∧ (∃ P8 : Hp → Prop, C_X8_append w sh (h6.2.1 x0 0) x1 (0 : Int32) (1536 : Int32) h6 P8 ∧ (∀ h11 : Hp, P8 h11 → (∀ h12 : Hp, h12 = wI h11 x0 1 x2 → (∀ h14 : Hp, h14 = wI h12 x0 2 x3 → (RET h14)))))))))
set_option maxRecDepth 20000 in
set_option maxHeartbeats 4000000 in
theorem W_X10_become_0 {w : Wd} {E : GE} {sh : List Sh} {x0 : Nat} {x1 : Nat} {x2 : Int32} {x3 : Int32} {h : Hp}  {RET : Hp → Prop} (X : Cx w E cX10_become 4 RX10) (Tt : Rt w E none sh.length 0 0 (fun q sh9 h9 => q = none ∧ sh9 = sh ∧ RET h9)) (hR : gR E = { frames := 2, cells := 0, slots := 0, locals := 64 }) (hV : V_X10_become_0 w sh x0 x1 x2 x3 h RET) : G w E 4 0 [(0, rv w.2.2.2 x0), (1, rv w.2.2.2 x1), (2, Value.int x2), (3, Value.int x3)] [] sh h 0 0 := by
  unfold V_X10_become_0 at hV
  refine g_aload_n (pc := 0) X 0 rfl rfl dX10_become_0 ?_
  obtain ⟨q1, hV⟩ := hV
  refine g_getR (pc := 1) X fl_X10_14 q1 dX10_become_1 ?_
  obtain ⟨q2, hV⟩ := hV
  obtain ⟨P3, t4, hV⟩ := hV
  refine g_cVV (pc := 4) X (As := []) ml_X10_32 rfl q2 t4 (by rw [hR]; exact ⟨by decide, by decide, by decide, by decide⟩) rfl rfl (Nat.zero_le _) dX10_become_4 (fun h6 p5 => ?_)
  have hV := hV h6 p5
  refine g_aload_n (pc := 7) X 0 rfl rfl dX10_become_7 ?_
  refine g_getR (pc := 8) X fl_X10_14 q1 dX10_become_8 ?_
  refine g_aload_n (pc := 11) X 1 rfl rfl dX10_become_11 ?_
  refine g_iconst (pc := 12) (v := (0 : Int32)) X dX10_become_12 (by decide) ?_
  refine g_sipush (pc := 13) (v := (1536 : Int32)) X dX10_become_13 (by decide) ?_
  obtain ⟨q7, hV⟩ := hV
  obtain ⟨P8, t9, hV⟩ := hV
  refine g_cVV (pc := 16) X (As := [rv w.2.2.2 x1, Value.int (0 : Int32), Value.int (1536 : Int32)]) ml_X10_35 rfl q7 t9 (by rw [hR]; exact ⟨by decide, by decide, by decide, by decide⟩) rfl rfl (Nat.zero_le _) dX10_become_16 (fun h11 p10 => ?_)
  have hV := hV h11 p10
  refine g_aload_n (pc := 19) X 0 rfl rfl dX10_become_19 ?_
  refine g_iload_n (pc := 20) X 2 rfl rfl dX10_become_20 ?_
  refine g_putI (pc := 21) X fl_X10_39 q1 rfl rfl dX10_become_21 (fun h12 e13 => ?_)
  have hV := hV h12 e13
  refine g_aload_n (pc := 24) X 0 rfl rfl dX10_become_24 ?_
  refine g_iload_n (pc := 25) X 3 rfl rfl dX10_become_25 ?_
  refine g_putI (pc := 26) X fl_X10_43 q1 rfl rfl dX10_become_26 (fun h14 e15 => ?_)
  have hV := hV h14 e15
  exact g_vret (pc := 29) X Tt ⟨rfl, rfl, hV⟩ dX10_become_29
def C_X10_become (w : Wd) (sh : List Sh) (x0 : Nat) (x1 : Nat) (x2 : Int32) (x3 : Int32) (h : Hp) (RET : Hp → Prop) : Prop := CV w yX10_become (.code yX10_become cX10_become 4 none) 2 64 [rv w.2.2.2 x0, rv w.2.2.2 x1, Value.int x2, Value.int x3] sh h RET
theorem K_X10_become {w : Wd} {sh : List Sh} {x0 : Nat} {x1 : Nat} {x2 : Int32} {x3 : Int32} {h : Hp} {RET : Hp → Prop} (hV : V_X10_become_0 w sh x0 x1 x2 x3 h RET) : C_X10_become w sh x0 x1 x2 x3 h RET :=
  Ct_of (by decide +kernel) (by simp [lg_sl, rv_cat, cat_int, cat_long]) (fun E X Tt hR _ => by
    rw [show lv_args 0 [rv w.2.2.2 x0, rv w.2.2.2 x1, Value.int x2, Value.int x3] = [(0, rv w.2.2.2 x0), (1, rv w.2.2.2 x1), (2, Value.int x2), (3, Value.int x3)] from by simp [lv_args, rv_cat, cat_int, cat_long]]
    refine g_lv [0, 1, 2, 3] rfl ?_
    exact W_X10_become_0 X Tt hR hV)
def V_X10_get_0 (w : Wd) (sh : List Sh) (x0 : Nat) (x1 : Int32) (x2 : Int32) (h : Hp)  (RET : Int32 → Hp → Prop) : Prop :=
  shAt sh x0 = some (.inr 10) ∧ (∃ P2 : Int32 → Hp → Prop, C_X10_cell w sh x1 x2 h P2 ∧ (∀ (v6 : Int32) (h5 : Hp), P2 v6 h5 → (shAt sh (h.2.1 x0 0) = some (.inr 8) ∧ (∃ P8 : Int32 → Hp → Prop, C_X8_at w sh (h.2.1 x0 0) v6 h5 P8 ∧ (∀ (v12 : Int32) (h11 : Hp), P8 v12 h11 → (RET v12 h11))))))
set_option maxRecDepth 20000 in
set_option maxHeartbeats 4000000 in
theorem W_X10_get_0 {w : Wd} {E : GE} {sh : List Sh} {x0 : Nat} {x1 : Int32} {x2 : Int32} {h : Hp}  {RET : Int32 → Hp → Prop} (X : Cx w E cX10_get 3 RX10) (Tt : Rt w E (some .int) sh.length 0 0 (fun q sh9 h9 => ∃ v : Int32, q = some (Value.int v) ∧ sh9 = sh ∧ RET v h9)) (hR : gR E = { frames := 1, cells := 0, slots := 0, locals := 21 }) (hV : V_X10_get_0 w sh x0 x1 x2 h RET) : G w E 3 0 [(0, rv w.2.2.2 x0), (1, Value.int x1), (2, Value.int x2)] [] sh h 0 0 := by
  unfold V_X10_get_0 at hV
  refine g_aload_n (pc := 0) X 0 rfl rfl dX10_get_0 ?_
  obtain ⟨q1, hV⟩ := hV
  refine g_getR (pc := 1) X fl_X10_14 q1 dX10_get_1 ?_
  refine g_iload_n (pc := 4) X 1 rfl rfl dX10_get_4 ?_
  refine g_iload_n (pc := 5) X 2 rfl rfl dX10_get_5 ?_
  obtain ⟨P2, t3, hV⟩ := hV
  refine g_cSI (pc := 6) X (As := [Value.int x1, Value.int x2]) ml_X10_20 t3 (by rw [hR]; exact ⟨by decide, by decide, by decide, by decide⟩) rfl rfl (by simp [rv_cat, cat_int, cat_long]) dX10_get_6 (fun v6 h5 p4 => ?_)
  have hV := hV v6 h5 p4
  obtain ⟨q7, hV⟩ := hV
  obtain ⟨P8, t9, hV⟩ := hV
  refine g_cVI (pc := 9) X (As := [Value.int v6]) ml_X10_24 rfl q7 t9 (by rw [hR]; exact ⟨by decide, by decide, by decide, by decide⟩) rfl rfl (Nat.zero_le _) dX10_get_9 (fun v12 h11 p10 => ?_)
  have hV := hV v12 h11 p10
  exact g_iret (pc := 12) X Tt ⟨_, rfl, rfl, hV⟩ dX10_get_12
def C_X10_get (w : Wd) (sh : List Sh) (x0 : Nat) (x1 : Int32) (x2 : Int32) (h : Hp) (RET : Int32 → Hp → Prop) : Prop := CI w yX10_get (.code yX10_get cX10_get 3 (some .int)) 1 21 [rv w.2.2.2 x0, Value.int x1, Value.int x2] sh h RET
theorem K_X10_get {w : Wd} {sh : List Sh} {x0 : Nat} {x1 : Int32} {x2 : Int32} {h : Hp} {RET : Int32 → Hp → Prop} (hV : V_X10_get_0 w sh x0 x1 x2 h RET) : C_X10_get w sh x0 x1 x2 h RET :=
  Ct_of (by decide +kernel) (by simp [lg_sl, rv_cat, cat_int, cat_long]) (fun E X Tt hR _ => by
    rw [show lv_args 0 [rv w.2.2.2 x0, Value.int x1, Value.int x2] = [(0, rv w.2.2.2 x0), (1, Value.int x1), (2, Value.int x2)] from by simp [lv_args, rv_cat, cat_int, cat_long]]
    refine g_lv [0, 1, 2] rfl ?_
    exact W_X10_get_0 X Tt hR hV)
def V_X10_isGoodHalf_0 (w : Wd) (sh : List Sh) (x0 : Nat) (x1 : Int32) (x2 : Int32) (h : Hp)  (RET : Int32 → Hp → Prop) : Prop :=
  shAt sh x0 = some (.inr 10) ∧ (∃ P2 : Int32 → Hp → Prop, C_X10_get w sh x0 x1 (x2 + (2 : Int32)) h P2 ∧ (∀ (v6 : Int32) (h5 : Hp), P2 v6 h5 → (∀ y7 : Int32, y7 = v6 → (∃ P9 : Int32 → Hp → Prop, C_X10_get w sh x0 x1 (x2 + (0 : Int32)) h5 P9 ∧ (∀ (v13 : Int32) (h12 : Hp), P9 v13 h12 → (((v13.toInt < 0 ∨ 3 < v13.toInt) → (RET (0 : Int32) h12)) ∧ (v13 = (0 : Int32) → (∃ P18 : Int32 → Hp → Prop, C_X10_get w sh x0 x1 (x2 + (1 : Int32)) h12 P18 ∧ (∀ (v22 : Int32) (h21 : Hp), P18 v22 h21 → (((¬ v22 = 0) → (RET (0 : Int32) h21)) ∧ ((v22 = 0) → (((¬ y7 = 0) → (RET (0 : Int32) h21)) ∧ ((y7 = 0) → (RET (1 : Int32) h21)))))))) ∧ (v13 = (1 : Int32) → (((¬ y7 = 0) → (RET (0 : Int32) h12)) ∧ ((y7 = 0) → (RET (1 : Int32) h12)))) ∧ (v13 = (2 : Int32) → (((¬ y7 = 0) → (RET (0 : Int32) h12)) ∧ ((y7 = 0) → (RET (1 : Int32) h12)))) ∧ (v13 = (3 : Int32) → ((((((2 : Int32) + (h12.1 x0 1)) + (h12.1 x0 2)) ≤ y7) → (RET (0 : Int32) h12)) ∧ ((¬ (((2 : Int32) + (h12.1 x0 1)) + (h12.1 x0 2)) ≤ y7) → (RET (1 : Int32) h12))))))))))
set_option maxRecDepth 20000 in
set_option maxHeartbeats 4000000 in
theorem W_X10_isGoodHalf_0 {w : Wd} {E : GE} {sh : List Sh} {x0 : Nat} {x1 : Int32} {x2 : Int32} {h : Hp}  {RET : Int32 → Hp → Prop} (X : Cx w E cX10_isGoodHalf 4 RX10) (Tt : Rt w E (some .boolean) sh.length 0 0 (fun q sh9 h9 => ∃ v : Int32, q = some (Value.int v) ∧ sh9 = sh ∧ RET v h9)) (hR : gR E = { frames := 2, cells := 0, slots := 0, locals := 43 }) (hV : V_X10_isGoodHalf_0 w sh x0 x1 x2 h RET) : G w E 4 0 [(0, rv w.2.2.2 x0), (1, Value.int x1), (2, Value.int x2)] [] sh h 0 0 := by
  unfold V_X10_isGoodHalf_0 at hV
  refine g_aload_n (pc := 0) X 0 rfl rfl dX10_isGoodHalf_0 ?_
  refine g_iload_n (pc := 1) X 1 rfl rfl dX10_isGoodHalf_1 ?_
  refine g_iload_n (pc := 2) X 2 rfl rfl dX10_isGoodHalf_2 ?_
  refine g_iconst (pc := 3) (v := (2 : Int32)) X dX10_isGoodHalf_3 (by decide) ?_
  refine g_iadd (pc := 4) X dX10_isGoodHalf_4 ?_
  obtain ⟨q1, hV⟩ := hV
  obtain ⟨P2, t3, hV⟩ := hV
  refine g_cVI (pc := 5) X (As := [Value.int x1, Value.int (x2 + (2 : Int32))]) ml_X10_67 rfl q1 t3 (by rw [hR]; exact ⟨by decide, by decide, by decide, by decide⟩) rfl rfl (Nat.zero_le _) dX10_isGoodHalf_5 (fun v6 h5 p4 => ?_)
  have hV := hV v6 h5 p4
  refine g_istore_n (pc := 8) X (i := 3) (rest := [(0, rv w.2.2.2 x0), (1, Value.int x1), (2, Value.int x2)]) rfl (by decide) rfl dX10_isGoodHalf_8 (fun y7 e8 => ?_)
  have hV := hV y7 e8
  refine g_aload_n (pc := 9) X 1 rfl rfl dX10_isGoodHalf_9 ?_
  refine g_iload_n (pc := 10) X 2 rfl rfl dX10_isGoodHalf_10 ?_
  refine g_iload_n (pc := 11) X 3 rfl rfl dX10_isGoodHalf_11 ?_
  refine g_iconst (pc := 12) (v := (0 : Int32)) X dX10_isGoodHalf_12 (by decide) ?_
  refine g_iadd (pc := 13) X dX10_isGoodHalf_13 ?_
  obtain ⟨P9, t10, hV⟩ := hV
  refine g_cVI (pc := 14) X (As := [Value.int x1, Value.int (x2 + (0 : Int32))]) ml_X10_67 rfl q1 t10 (by rw [hR]; exact ⟨by decide, by decide, by decide, by decide⟩) rfl rfl (Nat.zero_le _) dX10_isGoodHalf_14 (fun v13 h12 p11 => ?_)
  have hV := hV v13 h12 p11
  by_cases c14 : v13.toInt < 0 ∨ 3 < v13.toInt
  · have hV := hV.1 c14
    refine g_tabOut (pc := 17) X 100 dX10_isGoodHalf_17 c14 (by decide) ?_
    refine g_iconst (pc := 100) (v := (0 : Int32)) X dX10_isGoodHalf_100 (by decide) ?_
    exact g_zret (pc := 101) X Tt (by decide) ⟨_, rfl, rfl, hV⟩ dX10_isGoodHalf_101
  · have c15 : v13.toInt = 0 ∨ v13.toInt = 1 ∨ v13.toInt = 2 ∨ v13.toInt = 3 := by omega
    rcases c15 with c16 | c16 | c16 | c16
    · have e17 : v13 = (0 : Int32) := Int32.toInt_inj.mp (by rw [c16]; rfl)
      have hV := hV.2.1 e17
      refine g_tab (pc := 17) X 48 dX10_isGoodHalf_17 (by omega) (by omega) (off := 31) (by rw [c16]; rfl) (by decide) ?_
      refine g_aload_n (pc := 48) X 1 rfl rfl dX10_isGoodHalf_48 ?_
      refine g_iload_n (pc := 49) X 2 rfl rfl dX10_isGoodHalf_49 ?_
      refine g_iload_n (pc := 50) X 3 rfl rfl dX10_isGoodHalf_50 ?_
      refine g_iconst (pc := 51) (v := (1 : Int32)) X dX10_isGoodHalf_51 (by decide) ?_
      refine g_iadd (pc := 52) X dX10_isGoodHalf_52 ?_
      obtain ⟨P18, t19, hV⟩ := hV
      refine g_cVI (pc := 53) X (As := [Value.int x1, Value.int (x2 + (1 : Int32))]) ml_X10_67 rfl q1 t19 (by rw [hR]; exact ⟨by decide, by decide, by decide, by decide⟩) rfl rfl (Nat.zero_le _) dX10_isGoodHalf_53 (fun v22 h21 p20 => ?_)
      have hV := hV v22 h21 p20
      refine g_if_ne (pc := 56) X 67 dX10_isGoodHalf_56 (by decide) (fun c23 => ?_) (fun c23 => ?_)
      · have hV := hV.1 c23
        refine g_iconst (pc := 67) (v := (0 : Int32)) X dX10_isGoodHalf_67 (by decide) ?_
        exact g_zret (pc := 68) X Tt (by decide) ⟨_, rfl, rfl, hV⟩ dX10_isGoodHalf_68
      · have hV := hV.2 c23
        refine g_iload_n (pc := 59) X 0 rfl rfl dX10_isGoodHalf_59 ?_
        refine g_if_ne (pc := 60) X 67 dX10_isGoodHalf_60 (by decide) (fun c24 => ?_) (fun c24 => ?_)
        · have hV := hV.1 c24
          refine g_iconst (pc := 67) (v := (0 : Int32)) X dX10_isGoodHalf_67 (by decide) ?_
          exact g_zret (pc := 68) X Tt (by decide) ⟨_, rfl, rfl, hV⟩ dX10_isGoodHalf_68
        · have hV := hV.2 c24
          refine g_iconst (pc := 63) (v := (1 : Int32)) X dX10_isGoodHalf_63 (by decide) ?_
          refine g_goto (pc := 64) X 68 dX10_isGoodHalf_64 (by decide) ?_
          exact g_zret (pc := 68) X Tt (by decide) ⟨_, rfl, rfl, hV⟩ dX10_isGoodHalf_68
    · have e17 : v13 = (1 : Int32) := Int32.toInt_inj.mp (by rw [c16]; rfl)
      have hV := hV.2.2.1 e17
      refine g_tab (pc := 17) X 69 dX10_isGoodHalf_17 (by omega) (by omega) (off := 52) (by rw [c16]; rfl) (by decide) ?_
      refine g_iload_n (pc := 69) X 0 rfl rfl dX10_isGoodHalf_69 ?_
      refine g_if_ne (pc := 70) X 77 dX10_isGoodHalf_70 (by decide) (fun c25 => ?_) (fun c25 => ?_)
      · have hV := hV.1 c25
        refine g_iconst (pc := 77) (v := (0 : Int32)) X dX10_isGoodHalf_77 (by decide) ?_
        exact g_zret (pc := 78) X Tt (by decide) ⟨_, rfl, rfl, hV⟩ dX10_isGoodHalf_78
      · have hV := hV.2 c25
        refine g_iconst (pc := 73) (v := (1 : Int32)) X dX10_isGoodHalf_73 (by decide) ?_
        refine g_goto (pc := 74) X 78 dX10_isGoodHalf_74 (by decide) ?_
        exact g_zret (pc := 78) X Tt (by decide) ⟨_, rfl, rfl, hV⟩ dX10_isGoodHalf_78
    · have e17 : v13 = (2 : Int32) := Int32.toInt_inj.mp (by rw [c16]; rfl)
      have hV := hV.2.2.2.1 e17
      refine g_tab (pc := 17) X 69 dX10_isGoodHalf_17 (by omega) (by omega) (off := 52) (by rw [c16]; rfl) (by decide) ?_
      refine g_iload_n (pc := 69) X 0 rfl rfl dX10_isGoodHalf_69 ?_
      refine g_if_ne (pc := 70) X 77 dX10_isGoodHalf_70 (by decide) (fun c26 => ?_) (fun c26 => ?_)
      · have hV := hV.1 c26
        refine g_iconst (pc := 77) (v := (0 : Int32)) X dX10_isGoodHalf_77 (by decide) ?_
        exact g_zret (pc := 78) X Tt (by decide) ⟨_, rfl, rfl, hV⟩ dX10_isGoodHalf_78
      · have hV := hV.2 c26
        refine g_iconst (pc := 73) (v := (1 : Int32)) X dX10_isGoodHalf_73 (by decide) ?_
        refine g_goto (pc := 74) X 78 dX10_isGoodHalf_74 (by decide) ?_
        exact g_zret (pc := 78) X Tt (by decide) ⟨_, rfl, rfl, hV⟩ dX10_isGoodHalf_78
    · have e17 : v13 = (3 : Int32) := Int32.toInt_inj.mp (by rw [c16]; rfl)
      have hV := hV.2.2.2.2 e17
      refine g_tab (pc := 17) X 79 dX10_isGoodHalf_17 (by omega) (by omega) (off := 62) (by rw [c16]; rfl) (by decide) ?_
      refine g_iload_n (pc := 79) X 0 rfl rfl dX10_isGoodHalf_79 ?_
      refine g_iconst (pc := 80) (v := (2 : Int32)) X dX10_isGoodHalf_80 (by decide) ?_
      refine g_aload_n (pc := 81) X 1 rfl rfl dX10_isGoodHalf_81 ?_
      refine g_getI (pc := 82) X fl_X10_39 q1 dX10_isGoodHalf_82 ?_
      refine g_iadd (pc := 85) X dX10_isGoodHalf_85 ?_
      refine g_aload_n (pc := 86) X 1 rfl rfl dX10_isGoodHalf_86 ?_
      refine g_getI (pc := 87) X fl_X10_43 q1 dX10_isGoodHalf_87 ?_
      refine g_iadd (pc := 90) X dX10_isGoodHalf_90 ?_
      refine g_icmp_ge (pc := 91) X 98 dX10_isGoodHalf_91 (by decide) (fun c27 => ?_) (fun c27 => ?_)
      · have hV := hV.1 c27
        refine g_iconst (pc := 98) (v := (0 : Int32)) X dX10_isGoodHalf_98 (by decide) ?_
        exact g_zret (pc := 99) X Tt (by decide) ⟨_, rfl, rfl, hV⟩ dX10_isGoodHalf_99
      · have hV := hV.2 c27
        refine g_iconst (pc := 94) (v := (1 : Int32)) X dX10_isGoodHalf_94 (by decide) ?_
        refine g_goto (pc := 95) X 99 dX10_isGoodHalf_95 (by decide) ?_
        exact g_zret (pc := 99) X Tt (by decide) ⟨_, rfl, rfl, hV⟩ dX10_isGoodHalf_99
def C_X10_isGoodHalf (w : Wd) (sh : List Sh) (x0 : Nat) (x1 : Int32) (x2 : Int32) (h : Hp) (RET : Int32 → Hp → Prop) : Prop := CI w yX10_isGoodHalf (.code yX10_isGoodHalf cX10_isGoodHalf 4 (some .boolean)) 2 43 [rv w.2.2.2 x0, Value.int x1, Value.int x2] sh h RET
theorem K_X10_isGoodHalf {w : Wd} {sh : List Sh} {x0 : Nat} {x1 : Int32} {x2 : Int32} {h : Hp} {RET : Int32 → Hp → Prop} (hV : V_X10_isGoodHalf_0 w sh x0 x1 x2 h RET) : C_X10_isGoodHalf w sh x0 x1 x2 h RET :=
  Ct_of (by decide +kernel) (by simp [lg_sl, rv_cat, cat_int, cat_long]) (fun E X Tt hR _ => by
    rw [show lv_args 0 [rv w.2.2.2 x0, Value.int x1, Value.int x2] = [(0, rv w.2.2.2 x0), (1, Value.int x1), (2, Value.int x2)] from by simp [lv_args, rv_cat, cat_int, cat_long]]
    refine g_lv [0, 1, 2] rfl ?_
    exact W_X10_isGoodHalf_0 X Tt hR hV)
def V_X10_isGood_2 (w : Wd) (sh : List Sh) (x0 : Nat) (x1 : Int32) (h : Hp) (L2 : Nat → Int32 → Hp → Prop) (RET : Int32 → Hp → Prop) : Prop :=
  (((256 : Int32) ≤ x1) → (RET (1 : Int32) h)) ∧ ((¬ (256 : Int32) ≤ x1) → (shAt sh x0 = some (.inr 10) ∧ (∃ P3 : Int32 → Hp → Prop, C_X10_isGoodHalf w sh x0 x1 (0 : Int32) h P3 ∧ (∀ (v7 : Int32) (h6 : Hp), P3 v7 h6 → (((v7 = 0) → (RET (0 : Int32) h6)) ∧ ((¬ v7 = 0) → (∃ P9 : Int32 → Hp → Prop, C_X10_isGoodHalf w sh x0 x1 (3 : Int32) h6 P9 ∧ (∀ (v13 : Int32) (h12 : Hp), P9 v13 h12 → (((¬ v13 = 0) → (∀ y15 : Int32, y15 = x1 + (1 : Int32) → (L2 x0 y15 h12))) ∧ ((v13 = 0) → (RET (0 : Int32) h12)))))))))))
set_option maxRecDepth 20000 in
set_option maxHeartbeats 4000000 in
theorem W_X10_isGood_2 {w : Wd} {E : GE} {sh : List Sh} {x0 : Nat} {x1 : Int32} {h : Hp} {L2 : Nat → Int32 → Hp → Prop} {RET : Int32 → Hp → Prop} (X : Cx w E cX10_isGood 2 RX10) (Tt : Rt w E (some .boolean) sh.length 0 0 (fun q sh9 h9 => ∃ v : Int32, q = some (Value.int v) ∧ sh9 = sh ∧ RET v h9)) (hR : gR E = { frames := 3, cells := 0, slots := 0, locals := 66 }) (hL2 : ∀ (x0 : Nat) (x1 : Int32) (h : Hp), L2 x0 x1 h → G w E 2 2 [(0, rv w.2.2.2 x0), (1, Value.int x1)] [] sh h 0 0) (hV : V_X10_isGood_2 w sh x0 x1 h L2 RET) : G w E 2 2 [(0, rv w.2.2.2 x0), (1, Value.int x1)] [] sh h 0 0 := by
  unfold V_X10_isGood_2 at hV
  refine g_iload_n (pc := 2) X 1 rfl rfl dX10_isGood_2 ?_
  refine g_sipush (pc := 3) (v := (256 : Int32)) X dX10_isGood_3 (by decide) ?_
  refine g_icmp_ge (pc := 6) X 35 dX10_isGood_6 (by decide) (fun c1 => ?_) (fun c1 => ?_)
  · have hV := hV.1 c1
    refine g_iconst (pc := 35) (v := (1 : Int32)) X dX10_isGood_35 (by decide) ?_
    exact g_zret (pc := 36) X Tt (by decide) ⟨_, rfl, rfl, hV⟩ dX10_isGood_36
  · have hV := hV.2 c1
    refine g_aload_n (pc := 9) X 0 rfl rfl dX10_isGood_9 ?_
    refine g_iload_n (pc := 10) X 1 rfl rfl dX10_isGood_10 ?_
    refine g_iconst (pc := 11) (v := (0 : Int32)) X dX10_isGood_11 (by decide) ?_
    obtain ⟨q2, hV⟩ := hV
    obtain ⟨P3, t4, hV⟩ := hV
    refine g_cVI (pc := 12) X (As := [Value.int x1, Value.int (0 : Int32)]) ml_X10_63 rfl q2 t4 (by rw [hR]; exact ⟨by decide, by decide, by decide, by decide⟩) rfl rfl (Nat.zero_le _) dX10_isGood_12 (fun v7 h6 p5 => ?_)
    have hV := hV v7 h6 p5
    refine g_if_eq (pc := 15) X 27 dX10_isGood_15 (by decide) (fun c8 => ?_) (fun c8 => ?_)
    · have hV := hV.1 c8
      refine g_iconst (pc := 27) (v := (0 : Int32)) X dX10_isGood_27 (by decide) ?_
      exact g_zret (pc := 28) X Tt (by decide) ⟨_, rfl, rfl, hV⟩ dX10_isGood_28
    · have hV := hV.2 c8
      refine g_aload_n (pc := 18) X 0 rfl rfl dX10_isGood_18 ?_
      refine g_iload_n (pc := 19) X 1 rfl rfl dX10_isGood_19 ?_
      refine g_iconst (pc := 20) (v := (3 : Int32)) X dX10_isGood_20 (by decide) ?_
      obtain ⟨P9, t10, hV⟩ := hV
      refine g_cVI (pc := 21) X (As := [Value.int x1, Value.int (3 : Int32)]) ml_X10_63 rfl q2 t10 (by rw [hR]; exact ⟨by decide, by decide, by decide, by decide⟩) rfl rfl (Nat.zero_le _) dX10_isGood_21 (fun v13 h12 p11 => ?_)
      have hV := hV v13 h12 p11
      refine g_if_ne (pc := 24) X 29 dX10_isGood_24 (by decide) (fun c14 => ?_) (fun c14 => ?_)
      · have hV := hV.1 c14
        refine g_iinc (pc := 29) X 1 (v := (1 : Int32)) (rest := [(0, rv w.2.2.2 x0)]) rfl (by decide) (by simp [flt1, flt2, rv_cat, cat_int, cat_long]) (by decide) dX10_isGood_29 (fun y15 e16 => ?_)
        have hV := hV y15 e16
        refine g_goto (pc := 32) X 2 dX10_isGood_32 (by decide) ?_
        refine g_lv [1, 0] rfl ?_
        exact hL2 x0 y15 h12 hV
      · have hV := hV.2 c14
        refine g_iconst (pc := 27) (v := (0 : Int32)) X dX10_isGood_27 (by decide) ?_
        exact g_zret (pc := 28) X Tt (by decide) ⟨_, rfl, rfl, hV⟩ dX10_isGood_28
def V_X10_isGood_0 (w : Wd) (sh : List Sh) (x0 : Nat) (h : Hp) (L2 : Nat → Int32 → Hp → Prop) (RET : Int32 → Hp → Prop) : Prop :=
  ∀ y1 : Int32, y1 = (0 : Int32) → (L2 x0 y1 h)
set_option maxRecDepth 20000 in
set_option maxHeartbeats 4000000 in
theorem W_X10_isGood_0 {w : Wd} {E : GE} {sh : List Sh} {x0 : Nat} {h : Hp} {L2 : Nat → Int32 → Hp → Prop} {RET : Int32 → Hp → Prop} (X : Cx w E cX10_isGood 2 RX10) (Tt : Rt w E (some .boolean) sh.length 0 0 (fun q sh9 h9 => ∃ v : Int32, q = some (Value.int v) ∧ sh9 = sh ∧ RET v h9)) (hR : gR E = { frames := 3, cells := 0, slots := 0, locals := 66 }) (hL2 : ∀ (x0 : Nat) (x1 : Int32) (h : Hp), L2 x0 x1 h → G w E 2 2 [(0, rv w.2.2.2 x0), (1, Value.int x1)] [] sh h 0 0) (hV : V_X10_isGood_0 w sh x0 h L2 RET) : G w E 2 0 [(0, rv w.2.2.2 x0)] [] sh h 0 0 := by
  unfold V_X10_isGood_0 at hV
  refine g_iconst (pc := 0) (v := (0 : Int32)) X dX10_isGood_0 (by decide) ?_
  refine g_istore_n (pc := 1) X (i := 1) (rest := [(0, rv w.2.2.2 x0)]) rfl (by decide) (by simp [flt1, flt2, rv_cat, cat_int, cat_long]) dX10_isGood_1 (fun y1 e2 => ?_)
  have hV := hV y1 e2
  refine g_lv [1, 0] rfl ?_
  exact hL2 x0 y1 h hV
def C_X10_isGood (w : Wd) (sh : List Sh) (x0 : Nat) (h : Hp) (RET : Int32 → Hp → Prop) : Prop := CI w yX10_isGood (.code yX10_isGood cX10_isGood 2 (some .boolean)) 3 66 [rv w.2.2.2 x0] sh h RET
set_option maxRecDepth 20000 in
theorem K_X10_isGood {w : Wd} {sh : List Sh} {x0 : Nat} {h : Hp} {RET : Int32 → Hp → Prop} {α : Type} {r : α → α → Prop} (wf : WellFounded r) (I2 : α → Nat → Int32 → Hp → Prop) (hE : V_X10_isGood_0 w sh x0 h (fun x0 x1 h => ∃ a, I2 a x0 x1 h) RET) (h2 : ∀ (b : α) (x0 : Nat) (x1 : Int32) (h : Hp), I2 b x0 x1 h → V_X10_isGood_2 w sh x0 x1 h (fun x0 x1 h => ∃ a, r a b ∧ I2 a x0 x1 h) RET) : C_X10_isGood w sh x0 h RET :=
  Ct_of (by decide +kernel) (by simp [lg_sl, rv_cat, cat_int, cat_long]) (fun E X Tt hR _ => by
    have key : ∀ a : α, (∀ (x0 : Nat) (x1 : Int32) (h : Hp), I2 a x0 x1 h → G w E 2 2 [(0, rv w.2.2.2 x0), (1, Value.int x1)] [] sh h 0 0) := by
      intro a
      induction a using wf.induction with
      | _ a ih =>
        exact (fun x0 x1 h hi => W_X10_isGood_2 X Tt hR (fun x0 x1 h hx => by obtain ⟨a2, ha, hi⟩ := hx; exact (ih a2 ha) x0 x1 h hi) (h2 a x0 x1 h hi))
    rw [show lv_args 0 [rv w.2.2.2 x0] = [(0, rv w.2.2.2 x0)] from by simp [lv_args, rv_cat, cat_int, cat_long]]
    refine g_lv [0] rfl ?_
    exact W_X10_isGood_0 X Tt hR (fun x0 x1 h hx => by obtain ⟨a2, hi⟩ := hx; exact (key a2) x0 x1 h hi) hE)
