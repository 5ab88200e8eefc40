def V_X11_feed_38 (w : Wd) (sh : List Sh) (x0 : Nat) (x1 : Int64) (x3 : Int32) (h : Hp)  (RET : Int32 → Hp → Prop) : Prop :=
  shAt sh x0 = some (.inr 11) ∧ (shAt sh (h.2.1 x0 0) = some (.inr 8) ∧ (∃ P3 : Hp → Prop, C_X8_pushLowest w sh (h.2.1 x0 0) x1 x3 h P3 ∧ (∀ h6 : Hp, P3 h6 → (shAt sh (h6.2.1 x0 0) = some (.inr 8) ∧ (∃ P8 : Int32 → Hp → Prop, C_X8_length w sh (h6.2.1 x0 0) h6 P8 ∧ (∀ (v12 : Int32) (h11 : Hp), P8 v12 h11 → (RET v12 h11)))))))
set_option maxRecDepth 20000 in
set_option maxHeartbeats 4000000 in
theorem W_X11_feed_38 {w : Wd} {E : GE} {sh : List Sh} {x0 : Nat} {x1 : Int64} {x3 : Int32} {h : Hp}  {RET : Int32 → Hp → Prop} (X : Cx w E cX11_feed 4 RX11) (Tt : Rt w E (some .int) sh.length 0 0 (fun q sh9 h9 => ∃ v : Int32, q = some (Value.int v) ∧ sh9 = sh ∧ RET v h9)) (hR : gR E = { frames := 2, cells := 0, slots := 0, locals := 45 }) (hV : V_X11_feed_38 w sh x0 x1 x3 h RET) : G w E 4 38 [(0, rv w.2.2.2 x0), (1, Value.long x1), (3, Value.int x3)] [] sh h 0 0 := by
  unfold V_X11_feed_38 at hV
  refine g_aload_n (pc := 38) X 0 rfl rfl dX11_feed_38 ?_
  obtain ⟨q1, hV⟩ := hV
  refine g_getR (pc := 39) X fl_X11_14 q1 dX11_feed_39 ?_
  refine g_lload_n (pc := 42) X 1 rfl rfl dX11_feed_42 ?_
  refine g_iload_n (pc := 43) X 2 rfl rfl dX11_feed_43 ?_
  obtain ⟨q2, hV⟩ := hV
  obtain ⟨P3, t4, hV⟩ := hV
  refine g_cVV (pc := 44) X (As := [Value.long x1, Value.int x3]) ml_X11_91 rfl q2 t4 (by rw [hR]; exact ⟨by decide, by decide, by decide, by decide⟩) rfl rfl (Nat.zero_le _) dX11_feed_44 (fun h6 p5 => ?_)
  have hV := hV h6 p5
  refine g_aload_n (pc := 47) X 0 rfl rfl dX11_feed_47 ?_
  refine g_getR (pc := 48) X fl_X11_14 q1 dX11_feed_48 ?_
  obtain ⟨q7, hV⟩ := hV
  obtain ⟨P8, t9, hV⟩ := hV
  refine g_cVI (pc := 51) X (As := []) ml_X11_95 rfl q7 t9 (by rw [hR]; exact ⟨by decide, by decide, by decide, by decide⟩) rfl rfl (Nat.zero_le _) dX11_feed_51 (fun v12 h11 p10 => ?_)
  have hV := hV v12 h11 p10
  exact g_iret (pc := 54) X Tt ⟨_, rfl, rfl, hV⟩ dX11_feed_54
def V_X11_feed_0 (w : Wd) (sh : List Sh) (x0 : Nat) (x1 : Int64) (x3 : Int32) (h : Hp)  (RET : Int32 → Hp → Prop) : Prop :=
  ((x3 < 0) → (RET (-2 : Int32) h)) ∧ ((¬ x3 < 0) → (((x3 ≤ (8 : Int32)) → (shAt sh x0 = some (.inr 11) ∧ (shAt sh (h.2.1 x0 0) = some (.inr 8) ∧ (∃ P5 : Int32 → Hp → Prop, C_X8_room w sh (h.2.1 x0 0) h P5 ∧ (∀ (v9 : Int32) (h8 : Hp), P5 v9 h8 → (((x3 ≤ v9) → (((¬ x3 = 0) → (V_X11_feed_38 w sh x0 x1 x3 h8 RET)) ∧ ((x3 = 0) → (shAt sh (h8.2.1 x0 0) = some (.inr 8) ∧ (∃ P13 : Hp → Prop, C_X8_clear w sh (h8.2.1 x0 0) h8 P13 ∧ (∀ h16 : Hp, P13 h16 → (V_X11_feed_38 w sh x0 x1 x3 h16 RET))))))) ∧ ((¬ x3 ≤ v9) → (RET (-4 : Int32) h8)))))))) ∧ ((¬ x3 ≤ (8 : Int32)) → (RET (-2 : Int32) h))))
set_option maxRecDepth 20000 in
set_option maxHeartbeats 4000000 in
theorem W_X11_feed_0 {w : Wd} {E : GE} {sh : List Sh} {x0 : Nat} {x1 : Int64} {x3 : Int32} {h : Hp}  {RET : Int32 → Hp → Prop} (X : Cx w E cX11_feed 4 RX11) (Tt : Rt w E (some .int) sh.length 0 0 (fun q sh9 h9 => ∃ v : Int32, q = some (Value.int v) ∧ sh9 = sh ∧ RET v h9)) (hR : gR E = { frames := 2, cells := 0, slots := 0, locals := 45 }) (hV : V_X11_feed_0 w sh x0 x1 x3 h RET) : G w E 4 0 [(0, rv w.2.2.2 x0), (1, Value.long x1), (3, Value.int x3)] [] sh h 0 0 := by
  unfold V_X11_feed_0 at hV
  refine g_iload_n (pc := 0) X 2 rfl rfl dX11_feed_0 ?_
  refine g_if_lt (pc := 1) X 10 dX11_feed_1 (by decide) (fun c1 => ?_) (fun c1 => ?_)
  · have hV := hV.1 c1
    refine g_bipush (pc := 10) (v := (-2 : Int32)) X dX11_feed_10 (by decide) ?_
    exact g_iret (pc := 12) X Tt ⟨_, rfl, rfl, hV⟩ dX11_feed_12
  · have hV := hV.2 c1
    refine g_iload_n (pc := 4) X 2 rfl rfl dX11_feed_4 ?_
    refine g_bipush (pc := 5) (v := (8 : Int32)) X dX11_feed_5 (by decide) ?_
    refine g_icmp_le (pc := 7) X 13 dX11_feed_7 (by decide) (fun c2 => ?_) (fun c2 => ?_)
    · have hV := hV.1 c2
      refine g_iload_n (pc := 13) X 2 rfl rfl dX11_feed_13 ?_
      refine g_aload_n (pc := 14) X 0 rfl rfl dX11_feed_14 ?_
      obtain ⟨q3, hV⟩ := hV
      refine g_getR (pc := 15) X fl_X11_14 q3 dX11_feed_15 ?_
      obtain ⟨q4, hV⟩ := hV
      obtain ⟨P5, t6, hV⟩ := hV
      refine g_cVI (pc := 18) X (As := []) ml_X11_84 rfl q4 t6 (by rw [hR]; exact ⟨by decide, by decide, by decide, by decide⟩) rfl rfl (Nat.le_of_ble_eq_true rfl) dX11_feed_18 (fun v9 h8 p7 => ?_)
      have hV := hV v9 h8 p7
      refine g_icmp_le (pc := 21) X 27 dX11_feed_21 (by decide) (fun c10 => ?_) (fun c10 => ?_)
      · have hV := hV.1 c10
        refine g_iload_n (pc := 27) X 2 rfl rfl dX11_feed_27 ?_
        refine g_if_ne (pc := 28) X 38 dX11_feed_28 (by decide) (fun c11 => ?_) (fun c11 => ?_)
        · have hV := hV.1 c11
          exact W_X11_feed_38 X Tt hR hV
        · have hV := hV.2 c11
          refine g_aload_n (pc := 31) X 0 rfl rfl dX11_feed_31 ?_
          refine g_getR (pc := 32) X fl_X11_14 q3 dX11_feed_32 ?_
          obtain ⟨q12, hV⟩ := hV
          obtain ⟨P13, t14, hV⟩ := hV
          refine g_cVV (pc := 35) X (As := []) ml_X11_88 rfl q12 t14 (by rw [hR]; exact ⟨by decide, by decide, by decide, by decide⟩) rfl rfl (Nat.zero_le _) dX11_feed_35 (fun h16 p15 => ?_)
          have hV := hV h16 p15
          exact W_X11_feed_38 X Tt hR hV
      · have hV := hV.2 c10
        refine g_bipush (pc := 24) (v := (-4 : Int32)) X dX11_feed_24 (by decide) ?_
        exact g_iret (pc := 26) X Tt ⟨_, rfl, rfl, hV⟩ dX11_feed_26
    · have hV := hV.2 c2
      refine g_bipush (pc := 10) (v := (-2 : Int32)) X dX11_feed_10 (by decide) ?_
      exact g_iret (pc := 12) X Tt ⟨_, rfl, rfl, hV⟩ dX11_feed_12
def C_X11_feed (w : Wd) (sh : List Sh) (x0 : Nat) (x1 : Int64) (x3 : Int32) (h : Hp) (RET : Int32 → Hp → Prop) : Prop := CI w yX11_feed (.code yX11_feed cX11_feed 4 (some .int)) 2 45 [rv w.2.2.2 x0, Value.long x1, Value.int x3] sh h RET
theorem K_X11_feed {w : Wd} {sh : List Sh} {x0 : Nat} {x1 : Int64} {x3 : Int32} {h : Hp} {RET : Int32 → Hp → Prop} (hV : V_X11_feed_0 w sh x0 x1 x3 h RET) : C_X11_feed w sh x0 x1 x3 h RET :=
  Ct_of (by decide +kernel) (by simp [lg_sl, rv_cat, cat_int, cat_long]) (fun E X Tt hR _ => by
    rw [show lv_args 0 [rv w.2.2.2 x0, Value.long x1, Value.int x3] = [(0, rv w.2.2.2 x0), (1, Value.long x1), (3, Value.int x3)] from by simp [lv_args, rv_cat, cat_int, cat_long]]
    refine g_lv [0, 1, 2] rfl ?_
    exact W_X11_feed_0 X Tt hR hV)
def V_X11_fill_37 (w : Wd) (sh : List Sh) (x0 : Nat) (x1 : Int32) (x3 : Int32) (x4 : Int32) (x5 : Int32) (h : Hp) (L37 : Nat → Int32 → Int32 → Int32 → Int32 → Hp → Prop) (RET : Int32 → Hp → Prop) : Prop :=
  ((x1 ≤ x5) → (shAt sh x0 = some (.inr 11) ∧ (shAt sh (h.2.1 x0 0) = some (.inr 8) ∧ (∃ P4 : Int32 → Hp → Prop, C_X8_length w sh (h.2.1 x0 0) h P4 ∧ (∀ (v8 : Int32) (h7 : Hp), P4 v8 h7 → (RET v8 h7)))))) ∧ ((¬ x1 ≤ x5) → (∀ y9 : Int32, y9 = ((x4 * (1664525 : Int32)) + (1013904223 : Int32)) → (shAt sh x0 = some (.inr 11) ∧ (shAt sh (h.2.1 x0 0) = some (.inr 8) ∧ (∃ P13 : Hp → Prop, C_X8_push w sh (h.2.1 x0 0) ((((y9.toUInt32 >>> ((24 : Int32).toUInt32 &&& Int32.toUInt32 31)).toInt32).toUInt32 >>> (x3.toUInt32 &&& Int32.toUInt32 31)).toInt32) h P13 ∧ (∀ h16 : Hp, P13 h16 → (∀ y17 : Int32, y17 = x5 + (1 : Int32) → (L37 x0 x1 x3 y9 y17 h16))))))))
set_option maxRecDepth 20000 in
set_option maxHeartbeats 4000000 in
theorem W_X11_fill_37 {w : Wd} {E : GE} {sh : List Sh} {x0 : Nat} {x1 : Int32} {x3 : Int32} {x4 : Int32} {x5 : Int32} {h : Hp} {L37 : Nat → Int32 → Int32 → Int32 → Int32 → Hp → Prop} {RET : Int32 → Hp → Prop} (X : Cx w E cX11_fill 6 RX11) (Tt : Rt w E (some .int) sh.length 0 0 (fun q sh9 h9 => ∃ v : Int32, q = some (Value.int v) ∧ sh9 = sh ∧ RET v h9)) (hR : gR E = { frames := 1, cells := 0, slots := 0, locals := 21 }) (hL37 : ∀ (x0 : Nat) (x1 : Int32) (x3 : Int32) (x4 : Int32) (x5 : Int32) (h : Hp), L37 x0 x1 x3 x4 x5 h → G w E 6 37 [(0, rv w.2.2.2 x0), (1, Value.int x1), (3, Value.int x3), (4, Value.int x4), (5, Value.int x5)] [] sh h 0 0) (hV : V_X11_fill_37 w sh x0 x1 x3 x4 x5 h L37 RET) : G w E 6 37 [(0, rv w.2.2.2 x0), (1, Value.int x1), (3, Value.int x3), (4, Value.int x4), (5, Value.int x5)] [] sh h 0 0 := by
  unfold V_X11_fill_37 at hV
  refine g_iload (pc := 37) X 4 rfl dX11_fill_37 ?_
  refine g_iload_n (pc := 39) X 1 rfl rfl dX11_fill_39 ?_
  refine g_icmp_ge (pc := 40) X 73 dX11_fill_40 (by decide) (fun c1 => ?_) (fun c1 => ?_)
  · have hV := hV.1 c1
    refine g_aload_n (pc := 73) X 0 rfl rfl dX11_fill_73 ?_
    obtain ⟨q2, hV⟩ := hV
    refine g_getR (pc := 74) X fl_X11_14 q2 dX11_fill_74 ?_
    obtain ⟨q3, hV⟩ := hV
    obtain ⟨P4, t5, hV⟩ := hV
    refine g_cVI (pc := 77) X (As := []) ml_X11_95 rfl q3 t5 (by rw [hR]; exact ⟨by decide, by decide, by decide, by decide⟩) rfl rfl (Nat.zero_le _) dX11_fill_77 (fun v8 h7 p6 => ?_)
    have hV := hV v8 h7 p6
    exact g_iret (pc := 80) X Tt ⟨_, rfl, rfl, hV⟩ dX11_fill_80
  · have hV := hV.2 c1
    refine g_iload (pc := 43) X 3 rfl dX11_fill_43 ?_
    refine g_ldc (pc := 45) X kc_X11_98 dX11_fill_45 ?_
    refine g_imul (pc := 47) X dX11_fill_47 ?_
    refine g_ldc (pc := 48) X kc_X11_99 dX11_fill_48 ?_
    refine g_iadd (pc := 50) X dX11_fill_50 ?_
    refine g_istore (pc := 51) X (i := 4) (rest := [(0, rv w.2.2.2 x0), (1, Value.int x1), (3, Value.int x3), (5, Value.int x5)]) (by decide) rfl dX11_fill_51 (fun y9 e10 => ?_)
    have hV := hV y9 e10
    refine g_aload_n (pc := 53) X 1 rfl rfl dX11_fill_53 ?_
    obtain ⟨q11, hV⟩ := hV
    refine g_getR (pc := 54) X fl_X11_14 q11 dX11_fill_54 ?_
    refine g_iload (pc := 57) X 0 rfl dX11_fill_57 ?_
    refine g_bipush (pc := 59) (v := (24 : Int32)) X dX11_fill_59 (by decide) ?_
    refine g_iushr (pc := 61) X dX11_fill_61 ?_
    refine g_iload_n (pc := 62) X 3 rfl rfl dX11_fill_62 ?_
    refine g_iushr (pc := 63) X dX11_fill_63 ?_
    obtain ⟨q12, hV⟩ := hV
    obtain ⟨P13, t14, hV⟩ := hV
    refine g_cVV (pc := 64) X (As := [Value.int ((((y9.toUInt32 >>> ((24 : Int32).toUInt32 &&& Int32.toUInt32 31)).toInt32).toUInt32 >>> (x3.toUInt32 &&& Int32.toUInt32 31)).toInt32)]) ml_X11_100 rfl q12 t14 (by rw [hR]; exact ⟨by decide, by decide, by decide, by decide⟩) rfl rfl (Nat.zero_le _) dX11_fill_64 (fun h16 p15 => ?_)
    have hV := hV h16 p15
    refine g_iinc (pc := 67) X 4 (v := (1 : Int32)) (rest := [(4, Value.int y9), (0, rv w.2.2.2 x0), (1, Value.int x1), (3, Value.int x3)]) rfl (by decide) rfl (by decide) dX11_fill_67 (fun y17 e18 => ?_)
    have hV := hV y17 e18
    refine g_goto (pc := 70) X 37 dX11_fill_70 (by decide) ?_
    refine g_lv [2, 3, 4, 1, 0] rfl ?_
    exact hL37 x0 x1 x3 y9 y17 h16 hV
def V_X11_fill_0 (w : Wd) (sh : List Sh) (x0 : Nat) (x1 : Int32) (x2 : Int32) (x3 : Int32) (h : Hp) (L37 : Nat → Int32 → Int32 → Int32 → Int32 → Hp → Prop) (RET : Int32 → Hp → Prop) : Prop :=
  ((x1 < 0) → (RET (-2 : Int32) h)) ∧ ((¬ x1 < 0) → (((x3 < 0) → (RET (-2 : Int32) h)) ∧ ((¬ x3 < 0) → (((x3 ≤ (7 : Int32)) → (shAt sh x0 = some (.inr 11) ∧ (shAt sh (h.2.1 x0 0) = some (.inr 8) ∧ (∃ P6 : Int32 → Hp → Prop, C_X8_room w sh (h.2.1 x0 0) h P6 ∧ (∀ (v10 : Int32) (h9 : Hp), P6 v10 h9 → (((x1 ≤ v10) → (∀ y12 : Int32, y12 = x2 → (∀ y14 : Int32, y14 = (0 : Int32) → (L37 x0 x1 x3 y12 y14 h9)))) ∧ ((¬ x1 ≤ v10) → (RET (-4 : Int32) h9)))))))) ∧ ((¬ x3 ≤ (7 : Int32)) → (RET (-2 : Int32) h))))))
set_option maxRecDepth 20000 in
set_option maxHeartbeats 4000000 in
theorem W_X11_fill_0 {w : Wd} {E : GE} {sh : List Sh} {x0 : Nat} {x1 : Int32} {x2 : Int32} {x3 : Int32} {h : Hp} {L37 : Nat → Int32 → Int32 → Int32 → Int32 → Hp → Prop} {RET : Int32 → Hp → Prop} (X : Cx w E cX11_fill 6 RX11) (Tt : Rt w E (some .int) sh.length 0 0 (fun q sh9 h9 => ∃ v : Int32, q = some (Value.int v) ∧ sh9 = sh ∧ RET v h9)) (hR : gR E = { frames := 1, cells := 0, slots := 0, locals := 21 }) (hL37 : ∀ (x0 : Nat) (x1 : Int32) (x3 : Int32) (x4 : Int32) (x5 : Int32) (h : Hp), L37 x0 x1 x3 x4 x5 h → G w E 6 37 [(0, rv w.2.2.2 x0), (1, Value.int x1), (3, Value.int x3), (4, Value.int x4), (5, Value.int x5)] [] sh h 0 0) (hV : V_X11_fill_0 w sh x0 x1 x2 x3 h L37 RET) : G w E 6 0 [(0, rv w.2.2.2 x0), (1, Value.int x1), (2, Value.int x2), (3, Value.int x3)] [] sh h 0 0 := by
  unfold V_X11_fill_0 at hV
  refine g_iload_n (pc := 0) X 1 rfl rfl dX11_fill_0 ?_
  refine g_if_lt (pc := 1) X 14 dX11_fill_1 (by decide) (fun c1 => ?_) (fun c1 => ?_)
  · have hV := hV.1 c1
    refine g_bipush (pc := 14) (v := (-2 : Int32)) X dX11_fill_14 (by decide) ?_
    exact g_iret (pc := 16) X Tt ⟨_, rfl, rfl, hV⟩ dX11_fill_16
  · have hV := hV.2 c1
    refine g_iload_n (pc := 4) X 3 rfl rfl dX11_fill_4 ?_
    refine g_if_lt (pc := 5) X 14 dX11_fill_5 (by decide) (fun c2 => ?_) (fun c2 => ?_)
    · have hV := hV.1 c2
      refine g_bipush (pc := 14) (v := (-2 : Int32)) X dX11_fill_14 (by decide) ?_
      exact g_iret (pc := 16) X Tt ⟨_, rfl, rfl, hV⟩ dX11_fill_16
    · have hV := hV.2 c2
      refine g_iload_n (pc := 8) X 3 rfl rfl dX11_fill_8 ?_
      refine g_bipush (pc := 9) (v := (7 : Int32)) X dX11_fill_9 (by decide) ?_
      refine g_icmp_le (pc := 11) X 17 dX11_fill_11 (by decide) (fun c3 => ?_) (fun c3 => ?_)
      · have hV := hV.1 c3
        refine g_iload_n (pc := 17) X 1 rfl rfl dX11_fill_17 ?_
        refine g_aload_n (pc := 18) X 0 rfl rfl dX11_fill_18 ?_
        obtain ⟨q4, hV⟩ := hV
        refine g_getR (pc := 19) X fl_X11_14 q4 dX11_fill_19 ?_
        obtain ⟨q5, hV⟩ := hV
        obtain ⟨P6, t7, hV⟩ := hV
        refine g_cVI (pc := 22) X (As := []) ml_X11_84 rfl q5 t7 (by rw [hR]; exact ⟨by decide, by decide, by decide, by decide⟩) rfl rfl (Nat.le_of_ble_eq_true rfl) dX11_fill_22 (fun v10 h9 p8 => ?_)
        have hV := hV v10 h9 p8
        refine g_icmp_le (pc := 25) X 31 dX11_fill_25 (by decide) (fun c11 => ?_) (fun c11 => ?_)
        · have hV := hV.1 c11
          refine g_iload_n (pc := 31) X 2 rfl rfl dX11_fill_31 ?_
          refine g_istore (pc := 32) X (i := 4) (rest := [(0, rv w.2.2.2 x0), (1, Value.int x1), (2, Value.int x2), (3, Value.int x3)]) (by decide) rfl dX11_fill_32 (fun y12 e13 => ?_)
          have hV := hV y12 e13
          refine g_iconst (pc := 34) (v := (0 : Int32)) X dX11_fill_34 (by decide) ?_
          refine g_istore (pc := 35) X (i := 5) (rest := [(4, Value.int y12), (0, rv w.2.2.2 x0), (1, Value.int x1), (2, Value.int x2), (3, Value.int x3)]) (by decide) rfl dX11_fill_35 (fun y14 e15 => ?_)
          have hV := hV y14 e15
          refine g_lv [2, 3, 5, 1, 0] rfl ?_
          exact hL37 x0 x1 x3 y12 y14 h9 hV
        · have hV := hV.2 c11
          refine g_bipush (pc := 28) (v := (-4 : Int32)) X dX11_fill_28 (by decide) ?_
          exact g_iret (pc := 30) X Tt ⟨_, rfl, rfl, hV⟩ dX11_fill_30
      · have hV := hV.2 c3
        refine g_bipush (pc := 14) (v := (-2 : Int32)) X dX11_fill_14 (by decide) ?_
        exact g_iret (pc := 16) X Tt ⟨_, rfl, rfl, hV⟩ dX11_fill_16
def C_X11_fill (w : Wd) (sh : List Sh) (x0 : Nat) (x1 : Int32) (x2 : Int32) (x3 : Int32) (h : Hp) (RET : Int32 → Hp → Prop) : Prop := CI w yX11_fill (.code yX11_fill cX11_fill 6 (some .int)) 1 21 [rv w.2.2.2 x0, Value.int x1, Value.int x2, Value.int x3] sh h RET
set_option maxRecDepth 20000 in
theorem K_X11_fill {w : Wd} {sh : List Sh} {x0 : Nat} {x1 : Int32} {x2 : Int32} {x3 : Int32} {h : Hp} {RET : Int32 → Hp → Prop} {α : Type} {r : α → α → Prop} (wf : WellFounded r) (I37 : α → Nat → Int32 → Int32 → Int32 → Int32 → Hp → Prop) (hE : V_X11_fill_0 w sh x0 x1 x2 x3 h (fun x0 x1 x3 x4 x5 h => ∃ a, I37 a x0 x1 x3 x4 x5 h) RET) (h37 : ∀ (b : α) (x0 : Nat) (x1 : Int32) (x3 : Int32) (x4 : Int32) (x5 : Int32) (h : Hp), I37 b x0 x1 x3 x4 x5 h → V_X11_fill_37 w sh x0 x1 x3 x4 x5 h (fun x0 x1 x3 x4 x5 h => ∃ a, r a b ∧ I37 a x0 x1 x3 x4 x5 h) RET) : C_X11_fill w sh x0 x1 x2 x3 h RET :=
  Ct_of (by decide +kernel) (by simp [lg_sl, rv_cat, cat_int, cat_long]) (fun E X Tt hR _ => by
    have key : ∀ a : α, (∀ (x0 : Nat) (x1 : Int32) (x3 : Int32) (x4 : Int32) (x5 : Int32) (h : Hp), I37 a x0 x1 x3 x4 x5 h → G w E 6 37 [(0, rv w.2.2.2 x0), (1, Value.int x1), (3, Value.int x3), (4, Value.int x4), (5, Value.int x5)] [] sh h 0 0) := by
      intro a
      induction a using wf.induction with
      | _ a ih =>
        exact (fun x0 x1 x3 x4 x5 h hi => W_X11_fill_37 X Tt hR (fun x0 x1 x3 x4 x5 h hx => by obtain ⟨a2, ha, hi⟩ := hx; exact (ih a2 ha) x0 x1 x3 x4 x5 h hi) (h37 a x0 x1 x3 x4 x5 h hi))
    rw [show lv_args 0 [rv w.2.2.2 x0, Value.int x1, Value.int x2, Value.int x3] = [(0, rv w.2.2.2 x0), (1, Value.int x1), (2, Value.int x2), (3, Value.int x3)] from by simp [lv_args, rv_cat, cat_int, cat_long]]
    refine g_lv [0, 1, 2, 3] rfl ?_
    exact W_X11_fill_0 X Tt hR (fun x0 x1 x3 x4 x5 h hx => by obtain ⟨a2, hi⟩ := hx; exact (key a2) x0 x1 x3 x4 x5 h hi) hE)
def V_X11_again_0 (w : Wd) (sh : List Sh) (x0 : Nat) (x1 : Int32) (x2 : Int32) (h : Hp)  (RET : Int32 → Hp → Prop) : Prop :=
  ((x1 < 0) → (RET (-2 : Int32) h)) ∧ ((¬ x1 < 0) → (((x2 < 0) → (RET (-2 : Int32) h)) ∧ ((¬ x2 < 0) → (shAt sh x0 = some (.inr 11) ∧ (shAt sh (h.2.1 x0 0) = some (.inr 8) ∧ (∃ P5 : Int32 → Hp → Prop, C_X8_length w sh (h.2.1 x0 0) h P5 ∧ (∀ (v9 : Int32) (h8 : Hp), P5 v9 h8 → (((v9 < x2) → (RET (-2 : Int32) h8)) ∧ ((¬ v9 < x2) → (shAt sh (h8.2.1 x0 0) = some (.inr 8) ∧ (∃ P12 : Int32 → Hp → Prop, C_X8_length w sh (h8.2.1 x0 0) h8 P12 ∧ (∀ (v16 : Int32) (h15 : Hp), P12 v16 h15 → (((x1 ≤ (v16 - x2)) → (shAt sh (h15.2.1 x0 0) = some (.inr 8) ∧ (∃ P19 : Int32 → Hp → Prop, C_X8_room w sh (h15.2.1 x0 0) h15 P19 ∧ (∀ (v23 : Int32) (h22 : Hp), P19 v23 h22 → (((x2 ≤ v23) → (shAt sh (h22.2.1 x0 0) = some (.inr 8) ∧ (∃ P26 : Hp → Prop, C_X8_append w sh (h22.2.1 x0 0) (h22.2.1 x0 0) x1 x2 h22 P26 ∧ (∀ h29 : Hp, P26 h29 → (shAt sh (h29.2.1 x0 0) = some (.inr 8) ∧ (∃ P31 : Int32 → Hp → Prop, C_X8_length w sh (h29.2.1 x0 0) h29 P31 ∧ (∀ (v35 : Int32) (h34 : Hp), P31 v35 h34 → (RET v35 h34)))))))) ∧ ((¬ x2 ≤ v23) → (RET (-4 : Int32) h22))))))) ∧ ((¬ x1 ≤ (v16 - x2)) → (RET (-2 : Int32) h15)))))))))))))))
set_option maxRecDepth 20000 in
set_option maxHeartbeats 4000000 in
theorem W_X11_again_0 {w : Wd} {E : GE} {sh : List Sh} {x0 : Nat} {x1 : Int32} {x2 : Int32} {h : Hp}  {RET : Int32 → Hp → Prop} (X : Cx w E cX11_again 3 RX11) (Tt : Rt w E (some .int) sh.length 0 0 (fun q sh9 h9 => ∃ v : Int32, q = some (Value.int v) ∧ sh9 = sh ∧ RET v h9)) (hR : gR E = { frames := 2, cells := 0, slots := 0, locals := 64 }) (hV : V_X11_again_0 w sh x0 x1 x2 h RET) : G w E 3 0 [(0, rv w.2.2.2 x0), (1, Value.int x1), (2, Value.int x2)] [] sh h 0 0 := by
  unfold V_X11_again_0 at hV
  refine g_iload_n (pc := 0) X 1 rfl rfl dX11_again_0 ?_
  refine g_if_lt (pc := 1) X 32 dX11_again_1 (by decide) (fun c1 => ?_) (fun c1 => ?_)
  · have hV := hV.1 c1
    refine g_bipush (pc := 32) (v := (-2 : Int32)) X dX11_again_32 (by decide) ?_
    exact g_iret (pc := 34) X Tt ⟨_, rfl, rfl, hV⟩ dX11_again_34
  · have hV := hV.2 c1
    refine g_iload_n (pc := 4) X 2 rfl rfl dX11_again_4 ?_
    refine g_if_lt (pc := 5) X 32 dX11_again_5 (by decide) (fun c2 => ?_) (fun c2 => ?_)
    · have hV := hV.1 c2
      refine g_bipush (pc := 32) (v := (-2 : Int32)) X dX11_again_32 (by decide) ?_
      exact g_iret (pc := 34) X Tt ⟨_, rfl, rfl, hV⟩ dX11_again_34
    · have hV := hV.2 c2
      refine g_iload_n (pc := 8) X 2 rfl rfl dX11_again_8 ?_
      refine g_aload_n (pc := 9) X 0 rfl rfl dX11_again_9 ?_
      obtain ⟨q3, hV⟩ := hV
      refine g_getR (pc := 10) X fl_X11_14 q3 dX11_again_10 ?_
      obtain ⟨q4, hV⟩ := hV
      obtain ⟨P5, t6, hV⟩ := hV
      refine g_cVI (pc := 13) X (As := []) ml_X11_95 rfl q4 t6 (by rw [hR]; exact ⟨by decide, by decide, by decide, by decide⟩) rfl rfl (Nat.le_of_ble_eq_true rfl) dX11_again_13 (fun v9 h8 p7 => ?_)
      have hV := hV v9 h8 p7
      refine g_icmp_gt (pc := 16) X 32 dX11_again_16 (by decide) (fun c10 => ?_) (fun c10 => ?_)
      · have hV := hV.1 c10
        refine g_bipush (pc := 32) (v := (-2 : Int32)) X dX11_again_32 (by decide) ?_
        exact g_iret (pc := 34) X Tt ⟨_, rfl, rfl, hV⟩ dX11_again_34
      · have hV := hV.2 c10
        refine g_iload_n (pc := 19) X 1 rfl rfl dX11_again_19 ?_
        refine g_aload_n (pc := 20) X 0 rfl rfl dX11_again_20 ?_
        refine g_getR (pc := 21) X fl_X11_14 q3 dX11_again_21 ?_
        obtain ⟨q11, hV⟩ := hV
        obtain ⟨P12, t13, hV⟩ := hV
        refine g_cVI (pc := 24) X (As := []) ml_X11_95 rfl q11 t13 (by rw [hR]; exact ⟨by decide, by decide, by decide, by decide⟩) rfl rfl (Nat.le_of_ble_eq_true rfl) dX11_again_24 (fun v16 h15 p14 => ?_)
        have hV := hV v16 h15 p14
        refine g_iload_n (pc := 27) X 2 rfl rfl dX11_again_27 ?_
        refine g_isub (pc := 28) X dX11_again_28 ?_
        refine g_icmp_le (pc := 29) X 35 dX11_again_29 (by decide) (fun c17 => ?_) (fun c17 => ?_)
        · have hV := hV.1 c17
          refine g_iload_n (pc := 35) X 2 rfl rfl dX11_again_35 ?_
          refine g_aload_n (pc := 36) X 0 rfl rfl dX11_again_36 ?_
          refine g_getR (pc := 37) X fl_X11_14 q3 dX11_again_37 ?_
          obtain ⟨q18, hV⟩ := hV
          obtain ⟨P19, t20, hV⟩ := hV
          refine g_cVI (pc := 40) X (As := []) ml_X11_84 rfl q18 t20 (by rw [hR]; exact ⟨by decide, by decide, by decide, by decide⟩) rfl rfl (Nat.le_of_ble_eq_true rfl) dX11_again_40 (fun v23 h22 p21 => ?_)
          have hV := hV v23 h22 p21
          refine g_icmp_le (pc := 43) X 49 dX11_again_43 (by decide) (fun c24 => ?_) (fun c24 => ?_)
          · have hV := hV.1 c24
            refine g_aload_n (pc := 49) X 0 rfl rfl dX11_again_49 ?_
            refine g_getR (pc := 50) X fl_X11_14 q3 dX11_again_50 ?_
            refine g_aload_n (pc := 53) X 0 rfl rfl dX11_again_53 ?_
            refine g_getR (pc := 54) X fl_X11_14 q3 dX11_again_54 ?_
            refine g_iload_n (pc := 57) X 1 rfl rfl dX11_again_57 ?_
            refine g_iload_n (pc := 58) X 2 rfl rfl dX11_again_58 ?_
            obtain ⟨q25, hV⟩ := hV
            obtain ⟨P26, t27, hV⟩ := hV
            refine g_cVV (pc := 59) X (As := [rv w.2.2.2 (h22.2.1 x0 0), Value.int x1, Value.int x2]) ml_X11_103 rfl q25 t27 (by rw [hR]; exact ⟨by decide, by decide, by decide, by decide⟩) rfl rfl (Nat.zero_le _) dX11_again_59 (fun h29 p28 => ?_)
            have hV := hV h29 p28
            refine g_aload_n (pc := 62) X 0 rfl rfl dX11_again_62 ?_
            refine g_getR (pc := 63) X fl_X11_14 q3 dX11_again_63 ?_
            obtain ⟨q30, hV⟩ := hV
            obtain ⟨P31, t32, hV⟩ := hV
            refine g_cVI (pc := 66) X (As := []) ml_X11_95 rfl q30 t32 (by rw [hR]; exact ⟨by decide, by decide, by decide, by decide⟩) rfl rfl (Nat.zero_le _) dX11_again_66 (fun v35 h34 p33 => ?_)
            have hV := hV v35 h34 p33
            exact g_iret (pc := 69) X Tt ⟨_, rfl, rfl, hV⟩ dX11_again_69
          · have hV := hV.2 c24
            refine g_bipush (pc := 46) (v := (-4 : Int32)) X dX11_again_46 (by decide) ?_
            exact g_iret (pc := 48) X Tt ⟨_, rfl, rfl, hV⟩ dX11_again_48
        · have hV := hV.2 c17
          refine g_bipush (pc := 32) (v := (-2 : Int32)) X dX11_again_32 (by decide) ?_
          exact g_iret (pc := 34) X Tt ⟨_, rfl, rfl, hV⟩ dX11_again_34
def C_X11_again (w : Wd) (sh : List Sh) (x0 : Nat) (x1 : Int32) (x2 : Int32) (h : Hp) (RET : Int32 → Hp → Prop) : Prop := CI w yX11_again (.code yX11_again cX11_again 3 (some .int)) 2 64 [rv w.2.2.2 x0, Value.int x1, Value.int x2] sh h RET
theorem K_X11_again {w : Wd} {sh : List Sh} {x0 : Nat} {x1 : Int32} {x2 : Int32} {h : Hp} {RET : Int32 → Hp → Prop} (hV : V_X11_again_0 w sh x0 x1 x2 h RET) : C_X11_again w sh x0 x1 x2 h RET :=
  Ct_of (by decide +kernel) (by simp [lg_sl, rv_cat, cat_int, cat_long]) (fun E X Tt hR _ => by
    rw [show lv_args 0 [rv w.2.2.2 x0, Value.int x1, Value.int x2] = [(0, rv w.2.2.2 x0), (1, Value.int x1), (2, Value.int x2)] from by simp [lv_args, rv_cat, cat_int, cat_long]]
    refine g_lv [0, 1, 2] rfl ?_
    exact W_X11_again_0 X Tt hR hV)
def V_X11_size_0 (w : Wd) (sh : List Sh) (x0 : Nat) (h : Hp)  (RET : Int32 → Hp → Prop) : Prop :=
  shAt sh x0 = some (.inr 11) ∧ (shAt sh (h.2.1 x0 0) = some (.inr 8) ∧ (∃ P3 : Int32 → Hp → Prop, C_X8_length w sh (h.2.1 x0 0) h P3 ∧ (∀ (v7 : Int32) (h6 : Hp), P3 v7 h6 → (RET v7 h6))))
set_option maxRecDepth 20000 in
set_option maxHeartbeats 4000000 in
theorem W_X11_size_0 {w : Wd} {E : GE} {sh : List Sh} {x0 : Nat} {h : Hp}  {RET : Int32 → Hp → Prop} (X : Cx w E cX11_size 1 RX11) (Tt : Rt w E (some .int) sh.length 0 0 (fun q sh9 h9 => ∃ v : Int32, q = some (Value.int v) ∧ sh9 = sh ∧ RET v h9)) (hR : gR E = { frames := 1, cells := 0, slots := 0, locals := 20 }) (hV : V_X11_size_0 w sh x0 h RET) : G w E 1 0 [(0, rv w.2.2.2 x0)] [] sh h 0 0 := by
  unfold V_X11_size_0 at hV
  refine g_aload_n (pc := 0) X 0 rfl rfl dX11_size_0 ?_
  obtain ⟨q1, hV⟩ := hV
  refine g_getR (pc := 1) X fl_X11_14 q1 dX11_size_1 ?_
  obtain ⟨q2, hV⟩ := hV
  obtain ⟨P3, t4, hV⟩ := hV
  refine g_cVI (pc := 4) X (As := []) ml_X11_95 rfl q2 t4 (by rw [hR]; exact ⟨by decide, by decide, by decide, by decide⟩) rfl rfl (Nat.zero_le _) dX11_size_4 (fun v7 h6 p5 => ?_)
  have hV := hV v7 h6 p5
  exact g_iret (pc := 7) X Tt ⟨_, rfl, rfl, hV⟩ dX11_size_7
def C_X11_size (w : Wd) (sh : List Sh) (x0 : Nat) (h : Hp) (RET : Int32 → Hp → Prop) : Prop := CI w yX11_size (.code yX11_size cX11_size 1 (some .int)) 1 20 [rv w.2.2.2 x0] sh h RET
theorem K_X11_size {w : Wd} {sh : List Sh} {x0 : Nat} {h : Hp} {RET : Int32 → Hp → Prop} (hV : V_X11_size_0 w sh x0 h RET) : C_X11_size w sh x0 h RET :=
  Ct_of (by decide +kernel) (by simp [lg_sl, rv_cat, cat_int, cat_long]) (fun E X Tt hR _ => by
    rw [show lv_args 0 [rv w.2.2.2 x0] = [(0, rv w.2.2.2 x0)] from by simp [lv_args, rv_cat, cat_int, cat_long]]
    refine g_lv [0] rfl ?_
    exact W_X11_size_0 X Tt hR hV)
def V_X11_set_0 (w : Wd) (sh : List Sh) (x0 : Nat) (x1 : Int32) (x2 : Int32) (h : Hp)  (RET : Int32 → Hp → Prop) : Prop :=
  ((x1 < 0) → (RET (-2 : Int32) h)) ∧ ((¬ x1 < 0) → (shAt sh x0 = some (.inr 11) ∧ (shAt sh (h.2.1 x0 0) = some (.inr 8) ∧ (∃ P4 : Int32 → Hp → Prop, C_X8_length w sh (h.2.1 x0 0) h P4 ∧ (∀ (v8 : Int32) (h7 : Hp), P4 v8 h7 → (((v8 ≤ x1) → (RET (-2 : Int32) h7)) ∧ ((¬ v8 ≤ x1) → (∃ P10 : Int32 → Hp → Prop, C_X11_isByte w sh x2 h7 P10 ∧ (∀ (v14 : Int32) (h13 : Hp), P10 v14 h13 → (((¬ v14 = 0) → (shAt sh (h13.2.1 x0 0) = some (.inr 8) ∧ (∃ P17 : Int32 → Hp → Prop, C_X8_at w sh (h13.2.1 x0 0) x1 h13 P17 ∧ (∀ (v21 : Int32) (h20 : Hp), P17 v21 h20 → (∀ y22 : Int32, y22 = v21 → (shAt sh (h20.2.1 x0 0) = some (.inr 8) ∧ (∃ P25 : Hp → Prop, C_X8_put w sh (h20.2.1 x0 0) x1 x2 h20 P25 ∧ (∀ h28 : Hp, P25 h28 → (RET y22 h28))))))))) ∧ ((v14 = 0) → (RET (-2 : Int32) h13))))))))))))
set_option maxRecDepth 20000 in
set_option maxHeartbeats 4000000 in
theorem W_X11_set_0 {w : Wd} {E : GE} {sh : List Sh} {x0 : Nat} {x1 : Int32} {x2 : Int32} {h : Hp}  {RET : Int32 → Hp → Prop} (X : Cx w E cX11_set 4 RX11) (Tt : Rt w E (some .int) sh.length 0 0 (fun q sh9 h9 => ∃ v : Int32, q = some (Value.int v) ∧ sh9 = sh ∧ RET v h9)) (hR : gR E = { frames := 1, cells := 0, slots := 0, locals := 22 }) (hV : V_X11_set_0 w sh x0 x1 x2 h RET) : G w E 4 0 [(0, rv w.2.2.2 x0), (1, Value.int x1), (2, Value.int x2)] [] sh h 0 0 := by
  unfold V_X11_set_0 at hV
  refine g_iload_n (pc := 0) X 1 rfl rfl dX11_set_0 ?_
  refine g_if_lt (pc := 1) X 22 dX11_set_1 (by decide) (fun c1 => ?_) (fun c1 => ?_)
  · have hV := hV.1 c1
    refine g_bipush (pc := 22) (v := (-2 : Int32)) X dX11_set_22 (by decide) ?_
    exact g_iret (pc := 24) X Tt ⟨_, rfl, rfl, hV⟩ dX11_set_24
  · have hV := hV.2 c1
    refine g_iload_n (pc := 4) X 1 rfl rfl dX11_set_4 ?_
    refine g_aload_n (pc := 5) X 0 rfl rfl dX11_set_5 ?_
    obtain ⟨q2, hV⟩ := hV
    refine g_getR (pc := 6) X fl_X11_14 q2 dX11_set_6 ?_
    obtain ⟨q3, hV⟩ := hV
    obtain ⟨P4, t5, hV⟩ := hV
    refine g_cVI (pc := 9) X (As := []) ml_X11_95 rfl q3 t5 (by rw [hR]; exact ⟨by decide, by decide, by decide, by decide⟩) rfl rfl (Nat.le_of_ble_eq_true rfl) dX11_set_9 (fun v8 h7 p6 => ?_)
    have hV := hV v8 h7 p6
    refine g_icmp_ge (pc := 12) X 22 dX11_set_12 (by decide) (fun c9 => ?_) (fun c9 => ?_)
    · have hV := hV.1 c9
      refine g_bipush (pc := 22) (v := (-2 : Int32)) X dX11_set_22 (by decide) ?_
      exact g_iret (pc := 24) X Tt ⟨_, rfl, rfl, hV⟩ dX11_set_24
    · have hV := hV.2 c9
      refine g_iload_n (pc := 15) X 2 rfl rfl dX11_set_15 ?_
      obtain ⟨P10, t11, hV⟩ := hV
      refine g_cSI (pc := 16) X (As := [Value.int x2]) ml_X11_107 t11 (by rw [hR]; exact ⟨by decide, by decide, by decide, by decide⟩) rfl rfl (Nat.zero_le _) dX11_set_16 (fun v14 h13 p12 => ?_)
      have hV := hV v14 h13 p12
      refine g_if_ne (pc := 19) X 25 dX11_set_19 (by decide) (fun c15 => ?_) (fun c15 => ?_)
      · have hV := hV.1 c15
        refine g_aload_n (pc := 25) X 0 rfl rfl dX11_set_25 ?_
        refine g_getR (pc := 26) X fl_X11_14 q2 dX11_set_26 ?_
        refine g_iload_n (pc := 29) X 1 rfl rfl dX11_set_29 ?_
        obtain ⟨q16, hV⟩ := hV
        obtain ⟨P17, t18, hV⟩ := hV
        refine g_cVI (pc := 30) X (As := [Value.int x1]) ml_X11_111 rfl q16 t18 (by rw [hR]; exact ⟨by decide, by decide, by decide, by decide⟩) rfl rfl (Nat.zero_le _) dX11_set_30 (fun v21 h20 p19 => ?_)
        have hV := hV v21 h20 p19
        refine g_istore_n (pc := 33) X (i := 3) (rest := [(0, rv w.2.2.2 x0), (1, Value.int x1), (2, Value.int x2)]) rfl (by decide) rfl dX11_set_33 (fun y22 e23 => ?_)
        have hV := hV y22 e23
        refine g_aload_n (pc := 34) X 1 rfl rfl dX11_set_34 ?_
        refine g_getR (pc := 35) X fl_X11_14 q2 dX11_set_35 ?_
        refine g_iload_n (pc := 38) X 2 rfl rfl dX11_set_38 ?_
        refine g_iload_n (pc := 39) X 3 rfl rfl dX11_set_39 ?_
        obtain ⟨q24, hV⟩ := hV
        obtain ⟨P25, t26, hV⟩ := hV
        refine g_cVV (pc := 40) X (As := [Value.int x1, Value.int x2]) ml_X11_115 rfl q24 t26 (by rw [hR]; exact ⟨by decide, by decide, by decide, by decide⟩) rfl rfl (Nat.zero_le _) dX11_set_40 (fun h28 p27 => ?_)
        have hV := hV h28 p27
        refine g_iload_n (pc := 43) X 0 rfl rfl dX11_set_43 ?_
        exact g_iret (pc := 44) X Tt ⟨_, rfl, rfl, hV⟩ dX11_set_44
      · have hV := hV.2 c15
        refine g_bipush (pc := 22) (v := (-2 : Int32)) X dX11_set_22 (by decide) ?_
        exact g_iret (pc := 24) X Tt ⟨_, rfl, rfl, hV⟩ dX11_set_24
def C_X11_set (w : Wd) (sh : List Sh) (x0 : Nat) (x1 : Int32) (x2 : Int32) (h : Hp) (RET : Int32 → Hp → Prop) : Prop := CI w yX11_set (.code yX11_set cX11_set 4 (some .int)) 1 22 [rv w.2.2.2 x0, Value.int x1, Value.int x2] sh h RET
theorem K_X11_set {w : Wd} {sh : List Sh} {x0 : Nat} {x1 : Int32} {x2 : Int32} {h : Hp} {RET : Int32 → Hp → Prop} (hV : V_X11_set_0 w sh x0 x1 x2 h RET) : C_X11_set w sh x0 x1 x2 h RET :=
  Ct_of (by decide +kernel) (by simp [lg_sl, rv_cat, cat_int, cat_long]) (fun E X Tt hR _ => by
    rw [show lv_args 0 [rv w.2.2.2 x0, Value.int x1, Value.int x2] = [(0, rv w.2.2.2 x0), (1, Value.int x1), (2, Value.int x2)] from by simp [lv_args, rv_cat, cat_int, cat_long]]
    refine g_lv [0, 1, 2] rfl ?_
    exact W_X11_set_0 X Tt hR hV)
def V_X11_cut_0 (w : Wd) (sh : List Sh) (x0 : Nat) (x1 : Int32) (h : Hp)  (RET : Int32 → Hp → Prop) : Prop :=
  ((x1 < 0) → (RET (-2 : Int32) h)) ∧ ((¬ x1 < 0) → (shAt sh x0 = some (.inr 11) ∧ (shAt sh (h.2.1 x0 0) = some (.inr 8) ∧ (∃ P4 : Int32 → Hp → Prop, C_X8_length w sh (h.2.1 x0 0) h P4 ∧ (∀ (v8 : Int32) (h7 : Hp), P4 v8 h7 → (((x1 ≤ v8) → (shAt sh (h7.2.1 x0 0) = some (.inr 8) ∧ (∃ P11 : Int32 → Hp → Prop, C_X8_length w sh (h7.2.1 x0 0) h7 P11 ∧ (∀ (v15 : Int32) (h14 : Hp), P11 v15 h14 → (∀ y16 : Int32, y16 = v15 → (shAt sh (h14.2.1 x0 0) = some (.inr 8) ∧ (∃ P19 : Hp → Prop, C_X8_shorten w sh (h14.2.1 x0 0) x1 h14 P19 ∧ (∀ h22 : Hp, P19 h22 → (RET y16 h22))))))))) ∧ ((¬ x1 ≤ v8) → (RET (-2 : Int32) h7))))))))
set_option maxRecDepth 20000 in
set_option maxHeartbeats 4000000 in
theorem W_X11_cut_0 {w : Wd} {E : GE} {sh : List Sh} {x0 : Nat} {x1 : Int32} {h : Hp}  {RET : Int32 → Hp → Prop} (X : Cx w E cX11_cut 3 RX11) (Tt : Rt w E (some .int) sh.length 0 0 (fun q sh9 h9 => ∃ v : Int32, q = some (Value.int v) ∧ sh9 = sh ∧ RET v h9)) (hR : gR E = { frames := 1, cells := 0, slots := 0, locals := 21 }) (hV : V_X11_cut_0 w sh x0 x1 h RET) : G w E 3 0 [(0, rv w.2.2.2 x0), (1, Value.int x1)] [] sh h 0 0 := by
  unfold V_X11_cut_0 at hV
  refine g_iload_n (pc := 0) X 1 rfl rfl dX11_cut_0 ?_
  refine g_if_lt (pc := 1) X 15 dX11_cut_1 (by decide) (fun c1 => ?_) (fun c1 => ?_)
  · have hV := hV.1 c1
    refine g_bipush (pc := 15) (v := (-2 : Int32)) X dX11_cut_15 (by decide) ?_
    exact g_iret (pc := 17) X Tt ⟨_, rfl, rfl, hV⟩ dX11_cut_17
  · have hV := hV.2 c1
    refine g_iload_n (pc := 4) X 1 rfl rfl dX11_cut_4 ?_
    refine g_aload_n (pc := 5) X 0 rfl rfl dX11_cut_5 ?_
    obtain ⟨q2, hV⟩ := hV
    refine g_getR (pc := 6) X fl_X11_14 q2 dX11_cut_6 ?_
    obtain ⟨q3, hV⟩ := hV
    obtain ⟨P4, t5, hV⟩ := hV
    refine g_cVI (pc := 9) X (As := []) ml_X11_95 rfl q3 t5 (by rw [hR]; exact ⟨by decide, by decide, by decide, by decide⟩) rfl rfl (Nat.le_of_ble_eq_true rfl) dX11_cut_9 (fun v8 h7 p6 => ?_)
    have hV := hV v8 h7 p6
    refine g_icmp_le (pc := 12) X 18 dX11_cut_12 (by decide) (fun c9 => ?_) (fun c9 => ?_)
    · have hV := hV.1 c9
      refine g_aload_n (pc := 18) X 0 rfl rfl dX11_cut_18 ?_
      refine g_getR (pc := 19) X fl_X11_14 q2 dX11_cut_19 ?_
      obtain ⟨q10, hV⟩ := hV
      obtain ⟨P11, t12, hV⟩ := hV
      refine g_cVI (pc := 22) X (As := []) ml_X11_95 rfl q10 t12 (by rw [hR]; exact ⟨by decide, by decide, by decide, by decide⟩) rfl rfl (Nat.zero_le _) dX11_cut_22 (fun v15 h14 p13 => ?_)
      have hV := hV v15 h14 p13
      refine g_istore_n (pc := 25) X (i := 2) (rest := [(0, rv w.2.2.2 x0), (1, Value.int x1)]) rfl (by decide) rfl dX11_cut_25 (fun y16 e17 => ?_)
      have hV := hV y16 e17
      refine g_aload_n (pc := 26) X 1 rfl rfl dX11_cut_26 ?_
      refine g_getR (pc := 27) X fl_X11_14 q2 dX11_cut_27 ?_
      refine g_iload_n (pc := 30) X 2 rfl rfl dX11_cut_30 ?_
      obtain ⟨q18, hV⟩ := hV
      obtain ⟨P19, t20, hV⟩ := hV
      refine g_cVV (pc := 31) X (As := [Value.int x1]) ml_X11_118 rfl q18 t20 (by rw [hR]; exact ⟨by decide, by decide, by decide, by decide⟩) rfl rfl (Nat.zero_le _) dX11_cut_31 (fun h22 p21 => ?_)
      have hV := hV h22 p21
      refine g_iload_n (pc := 34) X 0 rfl rfl dX11_cut_34 ?_
      exact g_iret (pc := 35) X Tt ⟨_, rfl, rfl, hV⟩ dX11_cut_35
    · have hV := hV.2 c9
      refine g_bipush (pc := 15) (v := (-2 : Int32)) X dX11_cut_15 (by decide) ?_
      exact g_iret (pc := 17) X Tt ⟨_, rfl, rfl, hV⟩ dX11_cut_17
def C_X11_cut (w : Wd) (sh : List Sh) (x0 : Nat) (x1 : Int32) (h : Hp) (RET : Int32 → Hp → Prop) : Prop := CI w yX11_cut (.code yX11_cut cX11_cut 3 (some .int)) 1 21 [rv w.2.2.2 x0, Value.int x1] sh h RET
theorem K_X11_cut {w : Wd} {sh : List Sh} {x0 : Nat} {x1 : Int32} {h : Hp} {RET : Int32 → Hp → Prop} (hV : V_X11_cut_0 w sh x0 x1 h RET) : C_X11_cut w sh x0 x1 h RET :=
  Ct_of (by decide +kernel) (by simp [lg_sl, rv_cat, cat_int, cat_long]) (fun E X Tt hR _ => by
    rw [show lv_args 0 [rv w.2.2.2 x0, Value.int x1] = [(0, rv w.2.2.2 x0), (1, Value.int x1)] from by simp [lv_args, rv_cat, cat_int, cat_long]]
    refine g_lv [0, 1] rfl ?_
    exact W_X11_cut_0 X Tt hR hV)
def V_X11_swap_0 (w : Wd) (sh : List Sh) (x0 : Nat) (h : Hp)  (RET : Int32 → Hp → Prop) : Prop :=
  shAt sh x0 = some (.inr 11) ∧ (∀ y2 : Nat, y2 = (h.2.1 x0 0) → (∀ h4 : Hp, h4 = wR h x0 0 (h.2.1 x0 1) → (∀ h6 : Hp, h6 = wR h4 x0 1 y2 → (shAt sh (h6.2.1 x0 0) = some (.inr 8) ∧ (∃ P9 : Int32 → Hp → Prop, C_X8_length w sh (h6.2.1 x0 0) h6 P9 ∧ (∀ (v13 : Int32) (h12 : Hp), P9 v13 h12 → (RET v13 h12)))))))
set_option maxRecDepth 20000 in
set_option maxHeartbeats 4000000 in
theorem W_X11_swap_0 {w : Wd} {E : GE} {sh : List Sh} {x0 : Nat} {h : Hp}  {RET : Int32 → Hp → Prop} (X : Cx w E cX11_swap 2 RX11) (Tt : Rt w E (some .int) sh.length 0 0 (fun q sh9 h9 => ∃ v : Int32, q = some (Value.int v) ∧ sh9 = sh ∧ RET v h9)) (hR : gR E = { frames := 1, cells := 0, slots := 0, locals := 20 }) (hV : V_X11_swap_0 w sh x0 h RET) : G w E 2 0 [(0, rv w.2.2.2 x0)] [] sh h 0 0 := by
  unfold V_X11_swap_0 at hV
  refine g_aload_n (pc := 0) X 0 rfl rfl dX11_swap_0 ?_
  obtain ⟨q1, hV⟩ := hV
  refine g_getR (pc := 1) X fl_X11_14 q1 dX11_swap_1 ?_
  refine g_astore_n (pc := 4) X (i := 1) (rest := [(0, rv w.2.2.2 x0)]) rfl (by decide) (by simp [flt1, flt2, rv_cat, cat_int, cat_long]) dX11_swap_4 (fun y2 e3 => ?_)
  have hV := hV y2 e3
  refine g_aload_n (pc := 5) X 1 rfl rfl dX11_swap_5 ?_
  refine g_aload_n (pc := 6) X 1 rfl rfl dX11_swap_6 ?_
  refine g_getR (pc := 7) X fl_X11_18 q1 dX11_swap_7 ?_
  refine g_putR (pc := 10) X fl_X11_14 q1 rfl dX11_swap_10 (fun h4 e5 => ?_)
  have hV := hV h4 e5
  refine g_aload_n (pc := 13) X 1 rfl rfl dX11_swap_13 ?_
  refine g_aload_n (pc := 14) X 0 rfl rfl dX11_swap_14 ?_
  refine g_putR (pc := 15) X fl_X11_18 q1 rfl dX11_swap_15 (fun h6 e7 => ?_)
  have hV := hV h6 e7
  refine g_aload_n (pc := 18) X 1 rfl rfl dX11_swap_18 ?_
  refine g_getR (pc := 19) X fl_X11_14 q1 dX11_swap_19 ?_
  obtain ⟨q8, hV⟩ := hV
  obtain ⟨P9, t10, hV⟩ := hV
  refine g_cVI (pc := 22) X (As := []) ml_X11_95 rfl q8 t10 (by rw [hR]; exact ⟨by decide, by decide, by decide, by decide⟩) rfl rfl (Nat.zero_le _) dX11_swap_22 (fun v13 h12 p11 => ?_)
  have hV := hV v13 h12 p11
  exact g_iret (pc := 25) X Tt ⟨_, rfl, rfl, hV⟩ dX11_swap_25
def C_X11_swap (w : Wd) (sh : List Sh) (x0 : Nat) (h : Hp) (RET : Int32 → Hp → Prop) : Prop := CI w yX11_swap (.code yX11_swap cX11_swap 2 (some .int)) 1 20 [rv w.2.2.2 x0] sh h RET
theorem K_X11_swap {w : Wd} {sh : List Sh} {x0 : Nat} {h : Hp} {RET : Int32 → Hp → Prop} (hV : V_X11_swap_0 w sh x0 h RET) : C_X11_swap w sh x0 h RET :=
  Ct_of (by decide +kernel) (by simp [lg_sl, rv_cat, cat_int, cat_long]) (fun E X Tt hR _ => by
    rw [show lv_args 0 [rv w.2.2.2 x0] = [(0, rv w.2.2.2 x0)] from by simp [lv_args, rv_cat, cat_int, cat_long]]
    refine g_lv [0] rfl ?_
    exact W_X11_swap_0 X Tt hR hV)
def V_X11_differ_20 (w : Wd) (sh : List Sh) (x0 : Nat) (x1 : Int32) (x2 : Int32) (h : Hp) (L20 : Nat → Int32 → Int32 → Hp → Prop) (RET : Int32 → Hp → Prop) : Prop :=
  ((x1 ≤ x2) → (RET (-3 : Int32) h)) ∧ ((¬ x1 ≤ x2) → (shAt sh x0 = some (.inr 11) ∧ (shAt sh (h.2.1 x0 0) = some (.inr 8) ∧ (∃ P4 : Int32 → Hp → Prop, C_X8_at w sh (h.2.1 x0 0) x2 h P4 ∧ (∀ (v8 : Int32) (h7 : Hp), P4 v8 h7 → (shAt sh (h7.2.1 x0 1) = some (.inr 8) ∧ (∃ P10 : Int32 → Hp → Prop, C_X8_at w sh (h7.2.1 x0 1) x2 h7 P10 ∧ (∀ (v14 : Int32) (h13 : Hp), P10 v14 h13 → (((v8 = v14) → (∀ y16 : Int32, y16 = x2 + (1 : Int32) → (L20 x0 x1 y16 h13))) ∧ ((¬ v8 = v14) → (RET x2 h13)))))))))))
set_option maxRecDepth 20000 in
set_option maxHeartbeats 4000000 in
theorem W_X11_differ_20 {w : Wd} {E : GE} {sh : List Sh} {x0 : Nat} {x1 : Int32} {x2 : Int32} {h : Hp} {L20 : Nat → Int32 → Int32 → Hp → Prop} {RET : Int32 → Hp → Prop} (X : Cx w E cX11_differ 3 RX11) (Tt : Rt w E (some .int) sh.length 0 0 (fun q sh9 h9 => ∃ v : Int32, q = some (Value.int v) ∧ sh9 = sh ∧ RET v h9)) (hR : gR E = { frames := 1, cells := 0, slots := 0, locals := 21 }) (hL20 : ∀ (x0 : Nat) (x1 : Int32) (x2 : Int32) (h : Hp), L20 x0 x1 x2 h → G w E 3 20 [(0, rv w.2.2.2 x0), (1, Value.int x1), (2, Value.int x2)] [] sh h 0 0) (hV : V_X11_differ_20 w sh x0 x1 x2 h L20 RET) : G w E 3 20 [(0, rv w.2.2.2 x0), (1, Value.int x1), (2, Value.int x2)] [] sh h 0 0 := by
  unfold V_X11_differ_20 at hV
  refine g_iload_n (pc := 20) X 2 rfl rfl dX11_differ_20 ?_
  refine g_iload_n (pc := 21) X 1 rfl rfl dX11_differ_21 ?_
  refine g_icmp_ge (pc := 22) X 52 dX11_differ_22 (by decide) (fun c1 => ?_) (fun c1 => ?_)
  · have hV := hV.1 c1
    refine g_bipush (pc := 52) (v := (-3 : Int32)) X dX11_differ_52 (by decide) ?_
    exact g_iret (pc := 54) X Tt ⟨_, rfl, rfl, hV⟩ dX11_differ_54
  · have hV := hV.2 c1
    refine g_aload_n (pc := 25) X 0 rfl rfl dX11_differ_25 ?_
    obtain ⟨q2, hV⟩ := hV
    refine g_getR (pc := 26) X fl_X11_14 q2 dX11_differ_26 ?_
    refine g_iload_n (pc := 29) X 2 rfl rfl dX11_differ_29 ?_
    obtain ⟨q3, hV⟩ := hV
    obtain ⟨P4, t5, hV⟩ := hV
    refine g_cVI (pc := 30) X (As := [Value.int x2]) ml_X11_111 rfl q3 t5 (by rw [hR]; exact ⟨by decide, by decide, by decide, by decide⟩) rfl rfl (Nat.zero_le _) dX11_differ_30 (fun v8 h7 p6 => ?_)
    have hV := hV v8 h7 p6
    refine g_aload_n (pc := 33) X 0 rfl rfl dX11_differ_33 ?_
    refine g_getR (pc := 34) X fl_X11_18 q2 dX11_differ_34 ?_
    refine g_iload_n (pc := 37) X 2 rfl rfl dX11_differ_37 ?_
    obtain ⟨q9, hV⟩ := hV
    obtain ⟨P10, t11, hV⟩ := hV
    refine g_cVI (pc := 38) X (As := [Value.int x2]) ml_X11_111 rfl q9 t11 (by rw [hR]; exact ⟨by decide, by decide, by decide, by decide⟩) rfl rfl (Nat.le_of_ble_eq_true rfl) dX11_differ_38 (fun v14 h13 p12 => ?_)
    have hV := hV v14 h13 p12
    refine g_icmp_eq (pc := 41) X 46 dX11_differ_41 (by decide) (fun c15 => ?_) (fun c15 => ?_)
    · have hV := hV.1 c15
      refine g_iinc (pc := 46) X 2 (v := (1 : Int32)) (rest := [(0, rv w.2.2.2 x0), (1, Value.int x1)]) rfl (by decide) rfl (by decide) dX11_differ_46 (fun y16 e17 => ?_)
      have hV := hV y16 e17
      refine g_goto (pc := 49) X 20 dX11_differ_49 (by decide) ?_
      refine g_lv [1, 2, 0] rfl ?_
      exact hL20 x0 x1 y16 h13 hV
    · have hV := hV.2 c15
      refine g_iload_n (pc := 44) X 2 rfl rfl dX11_differ_44 ?_
      exact g_iret (pc := 45) X Tt ⟨_, rfl, rfl, hV⟩ dX11_differ_45
def V_X11_differ_0 (w : Wd) (sh : List Sh) (x0 : Nat) (h : Hp) (L20 : Nat → Int32 → Int32 → Hp → Prop) (RET : Int32 → Hp → Prop) : Prop :=
  shAt sh x0 = some (.inr 11) ∧ (shAt sh (h.2.1 x0 0) = some (.inr 8) ∧ (∃ P3 : Int32 → Hp → Prop, C_X8_length w sh (h.2.1 x0 0) h P3 ∧ (∀ (v7 : Int32) (h6 : Hp), P3 v7 h6 → (shAt sh (h6.2.1 x0 1) = some (.inr 8) ∧ (∃ P9 : Int32 → Hp → Prop, C_X8_length w sh (h6.2.1 x0 1) h6 P9 ∧ (∀ (v13 : Int32) (h12 : Hp), P9 v13 h12 → (∀ y14 : Int32, y14 = (if v7 < v13 then v13 else v7) → (∀ y16 : Int32, y16 = (0 : Int32) → (L20 x0 y14 y16 h12)))))))))
set_option maxRecDepth 20000 in
set_option maxHeartbeats 4000000 in
theorem W_X11_differ_0 {w : Wd} {E : GE} {sh : List Sh} {x0 : Nat} {h : Hp} {L20 : Nat → Int32 → Int32 → Hp → Prop} {RET : Int32 → Hp → Prop} (X : Cx w E cX11_differ 3 RX11) (Tt : Rt w E (some .int) sh.length 0 0 (fun q sh9 h9 => ∃ v : Int32, q = some (Value.int v) ∧ sh9 = sh ∧ RET v h9)) (hR : gR E = { frames := 1, cells := 0, slots := 0, locals := 21 }) (hL20 : ∀ (x0 : Nat) (x1 : Int32) (x2 : Int32) (h : Hp), L20 x0 x1 x2 h → G w E 3 20 [(0, rv w.2.2.2 x0), (1, Value.int x1), (2, Value.int x2)] [] sh h 0 0) (hV : V_X11_differ_0 w sh x0 h L20 RET) : G w E 3 0 [(0, rv w.2.2.2 x0)] [] sh h 0 0 := by
  unfold V_X11_differ_0 at hV
  refine g_aload_n (pc := 0) X 0 rfl rfl dX11_differ_0 ?_
  obtain ⟨q1, hV⟩ := hV
  refine g_getR (pc := 1) X fl_X11_14 q1 dX11_differ_1 ?_
  obtain ⟨q2, hV⟩ := hV
  obtain ⟨P3, t4, hV⟩ := hV
  refine g_cVI (pc := 4) X (As := []) ml_X11_95 rfl q2 t4 (by rw [hR]; exact ⟨by decide, by decide, by decide, by decide⟩) rfl rfl (Nat.zero_le _) dX11_differ_4 (fun v7 h6 p5 => ?_)
  have hV := hV v7 h6 p5
  refine g_aload_n (pc := 7) X 0 rfl rfl dX11_differ_7 ?_
  refine g_getR (pc := 8) X fl_X11_18 q1 dX11_differ_8 ?_
  obtain ⟨q8, hV⟩ := hV
  obtain ⟨P9, t10, hV⟩ := hV
  refine g_cVI (pc := 11) X (As := []) ml_X11_95 rfl q8 t10 (by rw [hR]; exact ⟨by decide, by decide, by decide, by decide⟩) rfl rfl (Nat.le_of_ble_eq_true rfl) dX11_differ_11 (fun v13 h12 p11 => ?_)
  have hV := hV v13 h12 p11
  refine g_mmax (pc := 14) X wm_X11_121 ws_max wi_Math wc_max (by rw [hR]; exact ⟨by decide, by simp [rv_cat, cat_int, cat_long], by decide, by decide⟩) dX11_differ_14 ?_
  refine g_istore_n (pc := 17) X (i := 1) (rest := [(0, rv w.2.2.2 x0)]) rfl (by decide) (by simp [flt1, flt2, rv_cat, cat_int, cat_long]) dX11_differ_17 (fun y14 e15 => ?_)
  have hV := hV y14 e15
  refine g_iconst (pc := 18) (v := (0 : Int32)) X dX11_differ_18 (by decide) ?_
  refine g_istore_n (pc := 19) X (i := 2) (rest := [(1, Value.int y14), (0, rv w.2.2.2 x0)]) rfl (by decide) rfl dX11_differ_19 (fun y16 e17 => ?_)
  have hV := hV y16 e17
  refine g_lv [2, 1, 0] rfl ?_
  exact hL20 x0 y14 y16 h12 hV
def C_X11_differ (w : Wd) (sh : List Sh) (x0 : Nat) (h : Hp) (RET : Int32 → Hp → Prop) : Prop := CI w yX11_differ (.code yX11_differ cX11_differ 3 (some .int)) 1 21 [rv w.2.2.2 x0] sh h RET
set_option maxRecDepth 20000 in
theorem K_X11_differ {w : Wd} {sh : List Sh} {x0 : Nat} {h : Hp} {RET : Int32 → Hp → Prop} {α : Type} {r : α → α → Prop} (wf : WellFounded r) (I20 : α → Nat → Int32 → Int32 → Hp → Prop) (hE : V_X11_differ_0 w sh x0 h (fun x0 x1 x2 h => ∃ a, I20 a x0 x1 x2 h) RET) (h20 : ∀ (b : α) (x0 : Nat) (x1 : Int32) (x2 : Int32) (h : Hp), I20 b x0 x1 x2 h → V_X11_differ_20 w sh x0 x1 x2 h (fun x0 x1 x2 h => ∃ a, r a b ∧ I20 a x0 x1 x2 h) RET) : C_X11_differ w sh x0 h RET :=
  Ct_of (by decide +kernel) (by simp [lg_sl, rv_cat, cat_int, cat_long]) (fun E X Tt hR _ => by
    have key : ∀ a : α, (∀ (x0 : Nat) (x1 : Int32) (x2 : Int32) (h : Hp), I20 a x0 x1 x2 h → G w E 3 20 [(0, rv w.2.2.2 x0), (1, Value.int x1), (2, Value.int x2)] [] sh h 0 0) := by
      intro a
      induction a using wf.induction with
      | _ a ih =>
        exact (fun x0 x1 x2 h hi => W_X11_differ_20 X Tt hR (fun x0 x1 x2 h hx => by obtain ⟨a2, ha, hi⟩ := hx; exact (ih a2 ha) x0 x1 x2 h hi) (h20 a x0 x1 x2 h hi))
    rw [show lv_args 0 [rv w.2.2.2 x0] = [(0, rv w.2.2.2 x0)] from by simp [lv_args, rv_cat, cat_int, cat_long]]
    refine g_lv [0] rfl ?_
    exact W_X11_differ_0 X Tt hR (fun x0 x1 x2 h hx => by obtain ⟨a2, hi⟩ := hx; exact (key a2) x0 x1 x2 h hi) hE)
def V_X11_out_0 (w : Wd) (sh : List Sh) (x0 : Nat) (x1 : Int32) (h : Hp)  (RET : Int32 → Hp → Prop) : Prop :=
  ((x1 < 0) → (RET (-2 : Int32) h)) ∧ ((¬ x1 < 0) → (shAt sh x0 = some (.inr 11) ∧ (shAt sh (h.2.1 x0 1) = some (.inr 8) ∧ (∃ P4 : Int32 → Hp → Prop, C_X8_length w sh (h.2.1 x0 1) h P4 ∧ (∀ (v8 : Int32) (h7 : Hp), P4 v8 h7 → (((x1 < v8) → (shAt sh (h7.2.1 x0 1) = some (.inr 8) ∧ (∃ P11 : Int32 → Hp → Prop, C_X8_at w sh (h7.2.1 x0 1) x1 h7 P11 ∧ (∀ (v15 : Int32) (h14 : Hp), P11 v15 h14 → (RET v15 h14))))) ∧ ((¬ x1 < v8) → (RET (-2 : Int32) h7))))))))
set_option maxRecDepth 20000 in
set_option maxHeartbeats 4000000 in
theorem W_X11_out_0 {w : Wd} {E : GE} {sh : List Sh} {x0 : Nat} {x1 : Int32} {h : Hp}  {RET : Int32 → Hp → Prop} (X : Cx w E cX11_out 2 RX11) (Tt : Rt w E (some .int) sh.length 0 0 (fun q sh9 h9 => ∃ v : Int32, q = some (Value.int v) ∧ sh9 = sh ∧ RET v h9)) (hR : gR E = { frames := 1, cells := 0, slots := 0, locals := 21 }) (hV : V_X11_out_0 w sh x0 x1 h RET) : G w E 2 0 [(0, rv w.2.2.2 x0), (1, Value.int x1)] [] sh h 0 0 := by
  unfold V_X11_out_0 at hV
  refine g_iload_n (pc := 0) X 1 rfl rfl dX11_out_0 ?_
  refine g_if_lt (pc := 1) X 15 dX11_out_1 (by decide) (fun c1 => ?_) (fun c1 => ?_)
  · have hV := hV.1 c1
    refine g_bipush (pc := 15) (v := (-2 : Int32)) X dX11_out_15 (by decide) ?_
    refine g_goto (pc := 17) X 28 dX11_out_17 (by decide) ?_
    exact g_iret (pc := 28) X Tt ⟨_, rfl, rfl, hV⟩ dX11_out_28
  · have hV := hV.2 c1
    refine g_iload_n (pc := 4) X 1 rfl rfl dX11_out_4 ?_
    refine g_aload_n (pc := 5) X 0 rfl rfl dX11_out_5 ?_
    obtain ⟨q2, hV⟩ := hV
    refine g_getR (pc := 6) X fl_X11_18 q2 dX11_out_6 ?_
    obtain ⟨q3, hV⟩ := hV
    obtain ⟨P4, t5, hV⟩ := hV
    refine g_cVI (pc := 9) X (As := []) ml_X11_95 rfl q3 t5 (by rw [hR]; exact ⟨by decide, by decide, by decide, by decide⟩) rfl rfl (Nat.le_of_ble_eq_true rfl) dX11_out_9 (fun v8 h7 p6 => ?_)
    have hV := hV v8 h7 p6
    refine g_icmp_lt (pc := 12) X 20 dX11_out_12 (by decide) (fun c9 => ?_) (fun c9 => ?_)
    · have hV := hV.1 c9
      refine g_aload_n (pc := 20) X 0 rfl rfl dX11_out_20 ?_
      refine g_getR (pc := 21) X fl_X11_18 q2 dX11_out_21 ?_
      refine g_iload_n (pc := 24) X 1 rfl rfl dX11_out_24 ?_
      obtain ⟨q10, hV⟩ := hV
      obtain ⟨P11, t12, hV⟩ := hV
      refine g_cVI (pc := 25) X (As := [Value.int x1]) ml_X11_111 rfl q10 t12 (by rw [hR]; exact ⟨by decide, by decide, by decide, by decide⟩) rfl rfl (Nat.zero_le _) dX11_out_25 (fun v15 h14 p13 => ?_)
      have hV := hV v15 h14 p13
      exact g_iret (pc := 28) X Tt ⟨_, rfl, rfl, hV⟩ dX11_out_28
    · have hV := hV.2 c9
      refine g_bipush (pc := 15) (v := (-2 : Int32)) X dX11_out_15 (by decide) ?_
      refine g_goto (pc := 17) X 28 dX11_out_17 (by decide) ?_
      exact g_iret (pc := 28) X Tt ⟨_, rfl, rfl, hV⟩ dX11_out_28
def C_X11_out (w : Wd) (sh : List Sh) (x0 : Nat) (x1 : Int32) (h : Hp) (RET : Int32 → Hp → Prop) : Prop := CI w yX11_out (.code yX11_out cX11_out 2 (some .int)) 1 21 [rv w.2.2.2 x0, Value.int x1] sh h RET
theorem K_X11_out {w : Wd} {sh : List Sh} {x0 : Nat} {x1 : Int32} {h : Hp} {RET : Int32 → Hp → Prop} (hV : V_X11_out_0 w sh x0 x1 h RET) : C_X11_out w sh x0 x1 h RET :=
  Ct_of (by decide +kernel) (by simp [lg_sl, rv_cat, cat_int, cat_long]) (fun E X Tt hR _ => by
    rw [show lv_args 0 [rv w.2.2.2 x0, Value.int x1] = [(0, rv w.2.2.2 x0), (1, Value.int x1)] from by simp [lv_args, rv_cat, cat_int, cat_long]]
    refine g_lv [0, 1] rfl ?_
    exact W_X11_out_0 X Tt hR hV)
def V_X11_old_0 (w : Wd) (sh : List Sh) (x0 : Nat) (h : Hp)  (RET : Int32 → Hp → Prop) : Prop :=
  shAt sh x0 = some (.inr 11) ∧ (shAt sh (h.2.1 x0 0) = some (.inr 8) ∧ (∃ P3 : Int32 → Hp → Prop, C_X8_length w sh (h.2.1 x0 0) h P3 ∧ (∀ (v7 : Int32) (h6 : Hp), P3 v7 h6 → (((v7 ≤ (4000 : Int32)) → (shAt sh (h6.2.1 x0 3) = some (.inr 8) ∧ (∃ P10 : Hp → Prop, C_X8_clear w sh (h6.2.1 x0 3) h6 P10 ∧ (∀ h13 : Hp, P10 h13 → (shAt sh (h13.2.1 x0 0) = some (.inr 8) ∧ (∃ P15 : Int32 → Hp → Prop, C_X8_length w sh (h13.2.1 x0 0) h13 P15 ∧ (∀ (v19 : Int32) (h18 : Hp), P15 v19 h18 → (shAt sh (h13.2.1 x0 3) = some (.inr 8) ∧ (∃ P21 : Hp → Prop, C_X8_append w sh (h13.2.1 x0 3) (h13.2.1 x0 0) (0 : Int32) v19 h18 P21 ∧ (∀ h24 : Hp, P21 h24 → (shAt sh (h24.2.1 x0 3) = some (.inr 8) ∧ (∃ P26 : Int32 → Hp → Prop, C_X8_length w sh (h24.2.1 x0 3) h24 P26 ∧ (∀ (v30 : Int32) (h29 : Hp), P26 v30 h29 → (RET v30 h29)))))))))))))) ∧ ((¬ v7 ≤ (4000 : Int32)) → (RET (-4 : Int32) h6))))))
set_option maxRecDepth 20000 in
set_option maxHeartbeats 4000000 in
theorem W_X11_old_0 {w : Wd} {E : GE} {sh : List Sh} {x0 : Nat} {h : Hp}  {RET : Int32 → Hp → Prop} (X : Cx w E cX11_old 1 RX11) (Tt : Rt w E (some .int) sh.length 0 0 (fun q sh9 h9 => ∃ v : Int32, q = some (Value.int v) ∧ sh9 = sh ∧ RET v h9)) (hR : gR E = { frames := 2, cells := 0, slots := 0, locals := 64 }) (hV : V_X11_old_0 w sh x0 h RET) : G w E 1 0 [(0, rv w.2.2.2 x0)] [] sh h 0 0 := by
  unfold V_X11_old_0 at hV
  refine g_aload_n (pc := 0) X 0 rfl rfl dX11_old_0 ?_
  obtain ⟨q1, hV⟩ := hV
  refine g_getR (pc := 1) X fl_X11_14 q1 dX11_old_1 ?_
  obtain ⟨q2, hV⟩ := hV
  obtain ⟨P3, t4, hV⟩ := hV
  refine g_cVI (pc := 4) X (As := []) ml_X11_95 rfl q2 t4 (by rw [hR]; exact ⟨by decide, by decide, by decide, by decide⟩) rfl rfl (Nat.zero_le _) dX11_old_4 (fun v7 h6 p5 => ?_)
  have hV := hV v7 h6 p5
  refine g_sipush (pc := 7) (v := (4000 : Int32)) X dX11_old_7 (by decide) ?_
  refine g_icmp_le (pc := 10) X 16 dX11_old_10 (by decide) (fun c8 => ?_) (fun c8 => ?_)
  · have hV := hV.1 c8
    refine g_aload_n (pc := 16) X 0 rfl rfl dX11_old_16 ?_
    refine g_getR (pc := 17) X fl_X11_24 q1 dX11_old_17 ?_
    obtain ⟨q9, hV⟩ := hV
    obtain ⟨P10, t11, hV⟩ := hV
    refine g_cVV (pc := 20) X (As := []) ml_X11_88 rfl q9 t11 (by rw [hR]; exact ⟨by decide, by decide, by decide, by decide⟩) rfl rfl (Nat.zero_le _) dX11_old_20 (fun h13 p12 => ?_)
    have hV := hV h13 p12
    refine g_aload_n (pc := 23) X 0 rfl rfl dX11_old_23 ?_
    refine g_getR (pc := 24) X fl_X11_24 q1 dX11_old_24 ?_
    refine g_aload_n (pc := 27) X 0 rfl rfl dX11_old_27 ?_
    refine g_getR (pc := 28) X fl_X11_14 q1 dX11_old_28 ?_
    refine g_iconst (pc := 31) (v := (0 : Int32)) X dX11_old_31 (by decide) ?_
    refine g_aload_n (pc := 32) X 0 rfl rfl dX11_old_32 ?_
    refine g_getR (pc := 33) X fl_X11_14 q1 dX11_old_33 ?_
    obtain ⟨q14, hV⟩ := hV
    obtain ⟨P15, t16, hV⟩ := hV
    refine g_cVI (pc := 36) X (As := []) ml_X11_95 rfl q14 t16 (by rw [hR]; exact ⟨by decide, by decide, by decide, by decide⟩) rfl rfl (by simp [rv_cat, cat_int, cat_long]) dX11_old_36 (fun v19 h18 p17 => ?_)
    have hV := hV v19 h18 p17
    obtain ⟨q20, hV⟩ := hV
    obtain ⟨P21, t22, hV⟩ := hV
    refine g_cVV (pc := 39) X (As := [rv w.2.2.2 (h13.2.1 x0 0), Value.int (0 : Int32), Value.int v19]) ml_X11_103 rfl q20 t22 (by rw [hR]; exact ⟨by decide, by decide, by decide, by decide⟩) rfl rfl (Nat.zero_le _) dX11_old_39 (fun h24 p23 => ?_)
    have hV := hV h24 p23
    refine g_aload_n (pc := 42) X 0 rfl rfl dX11_old_42 ?_
    refine g_getR (pc := 43) X fl_X11_24 q1 dX11_old_43 ?_
    obtain ⟨q25, hV⟩ := hV
    obtain ⟨P26, t27, hV⟩ := hV
    refine g_cVI (pc := 46) X (As := []) ml_X11_95 rfl q25 t27 (by rw [hR]; exact ⟨by decide, by decide, by decide, by decide⟩) rfl rfl (Nat.zero_le _) dX11_old_46 (fun v30 h29 p28 => ?_)
    have hV := hV v30 h29 p28
    exact g_iret (pc := 49) X Tt ⟨_, rfl, rfl, hV⟩ dX11_old_49
  · have hV := hV.2 c8
    refine g_bipush (pc := 13) (v := (-4 : Int32)) X dX11_old_13 (by decide) ?_
    exact g_iret (pc := 15) X Tt ⟨_, rfl, rfl, hV⟩ dX11_old_15
def C_X11_old (w : Wd) (sh : List Sh) (x0 : Nat) (h : Hp) (RET : Int32 → Hp → Prop) : Prop := CI w yX11_old (.code yX11_old cX11_old 1 (some .int)) 2 64 [rv w.2.2.2 x0] sh h RET
theorem K_X11_old {w : Wd} {sh : List Sh} {x0 : Nat} {h : Hp} {RET : Int32 → Hp → Prop} (hV : V_X11_old_0 w sh x0 h RET) : C_X11_old w sh x0 h RET :=
  Ct_of (by decide +kernel) (by simp [lg_sl, rv_cat, cat_int, cat_long]) (fun E X Tt hR _ => by
    rw [show lv_args 0 [rv w.2.2.2 x0] = [(0, rv w.2.2.2 x0)] from by simp [lv_args, rv_cat, cat_int, cat_long]]
    refine g_lv [0] rfl ?_
    exact W_X11_old_0 X Tt hR hV)
def V_X11_given_0 (w : Wd) (sh : List Sh) (x0 : Nat) (x1 : Int32) (x2 : Int32) (h : Hp)  (RET : Int32 → Hp → Prop) : Prop :=
  ((x1 < 0) → (RET (-2 : Int32) h)) ∧ ((¬ x1 < 0) → ((((32 : Int32) < x1) → (RET (-2 : Int32) h)) ∧ ((¬ (32 : Int32) < x1) → (((x2 < 0) → (RET (-2 : Int32) h)) ∧ ((¬ x2 < 0) → (((x2 ≤ (16 : Int32)) → (shAt sh x0 = some (.inr 11) ∧ (shAt sh (h.2.1 x0 5) = some (.inr 10) ∧ (shAt sh (h.2.1 x0 6) = some (.inr 10) ∧ (∃ P8 : Hp → Prop, C_X10_become w sh (h.2.1 x0 6) (h.2.1 (h.2.1 x0 5) 0) x1 x2 h P8 ∧ (∀ h11 : Hp, P8 h11 → (RET (256 : Int32) h11))))))) ∧ ((¬ x2 ≤ (16 : Int32)) → (RET (-2 : Int32) h))))))))
set_option maxRecDepth 20000 in
set_option maxHeartbeats 4000000 in
theorem W_X11_given_0 {w : Wd} {E : GE} {sh : List Sh} {x0 : Nat} {x1 : Int32} {x2 : Int32} {h : Hp}  {RET : Int32 → Hp → Prop} (X : Cx w E cX11_given 3 RX11) (Tt : Rt w E (some .int) sh.length 0 0 (fun q sh9 h9 => ∃ v : Int32, q = some (Value.int v) ∧ sh9 = sh ∧ RET v h9)) (hR : gR E = { frames := 3, cells := 0, slots := 0, locals := 87 }) (hV : V_X11_given_0 w sh x0 x1 x2 h RET) : G w E 3 0 [(0, rv w.2.2.2 x0), (1, Value.int x1), (2, Value.int x2)] [] sh h 0 0 := by
  unfold V_X11_given_0 at hV
  refine g_iload_n (pc := 0) X 1 rfl rfl dX11_given_0 ?_
  refine g_if_lt (pc := 1) X 20 dX11_given_1 (by decide) (fun c1 => ?_) (fun c1 => ?_)
  · have hV := hV.1 c1
    refine g_bipush (pc := 20) (v := (-2 : Int32)) X dX11_given_20 (by decide) ?_
    exact g_iret (pc := 22) X Tt ⟨_, rfl, rfl, hV⟩ dX11_given_22
  · have hV := hV.2 c1
    refine g_iload_n (pc := 4) X 1 rfl rfl dX11_given_4 ?_
    refine g_bipush (pc := 5) (v := (32 : Int32)) X dX11_given_5 (by decide) ?_
    refine g_icmp_gt (pc := 7) X 20 dX11_given_7 (by decide) (fun c2 => ?_) (fun c2 => ?_)
    · have hV := hV.1 c2
      refine g_bipush (pc := 20) (v := (-2 : Int32)) X dX11_given_20 (by decide) ?_
      exact g_iret (pc := 22) X Tt ⟨_, rfl, rfl, hV⟩ dX11_given_22
    · have hV := hV.2 c2
      refine g_iload_n (pc := 10) X 2 rfl rfl dX11_given_10 ?_
      refine g_if_lt (pc := 11) X 20 dX11_given_11 (by decide) (fun c3 => ?_) (fun c3 => ?_)
      · have hV := hV.1 c3
        refine g_bipush (pc := 20) (v := (-2 : Int32)) X dX11_given_20 (by decide) ?_
        exact g_iret (pc := 22) X Tt ⟨_, rfl, rfl, hV⟩ dX11_given_22
      · have hV := hV.2 c3
        refine g_iload_n (pc := 14) X 2 rfl rfl dX11_given_14 ?_
        refine g_bipush (pc := 15) (v := (16 : Int32)) X dX11_given_15 (by decide) ?_
        refine g_icmp_le (pc := 17) X 23 dX11_given_17 (by decide) (fun c4 => ?_) (fun c4 => ?_)
        · have hV := hV.1 c4
          refine g_aload_n (pc := 23) X 0 rfl rfl dX11_given_23 ?_
          obtain ⟨q5, hV⟩ := hV
          refine g_getR (pc := 24) X fl_X11_37 q5 dX11_given_24 ?_
          refine g_aload_n (pc := 27) X 0 rfl rfl dX11_given_27 ?_
          refine g_getR (pc := 28) X fl_X11_33 q5 dX11_given_28 ?_
          obtain ⟨q6, hV⟩ := hV
          refine g_getR (pc := 31) X fl_X11_127 q6 dX11_given_31 ?_
          refine g_iload_n (pc := 34) X 1 rfl rfl dX11_given_34 ?_
          refine g_iload_n (pc := 35) X 2 rfl rfl dX11_given_35 ?_
          obtain ⟨q7, hV⟩ := hV
          obtain ⟨P8, t9, hV⟩ := hV
          refine g_cVV (pc := 36) X (As := [rv w.2.2.2 (h.2.1 (h.2.1 x0 5) 0), Value.int x1, Value.int x2]) ml_X11_130 rfl q7 t9 (by rw [hR]; exact ⟨by decide, by decide, by decide, by decide⟩) rfl rfl (Nat.zero_le _) dX11_given_36 (fun h11 p10 => ?_)
          have hV := hV h11 p10
          refine g_sipush (pc := 39) (v := (256 : Int32)) X dX11_given_39 (by decide) ?_
          exact g_iret (pc := 42) X Tt ⟨_, rfl, rfl, hV⟩ dX11_given_42
        · have hV := hV.2 c4
          refine g_bipush (pc := 20) (v := (-2 : Int32)) X dX11_given_20 (by decide) ?_
          exact g_iret (pc := 22) X Tt ⟨_, rfl, rfl, hV⟩ dX11_given_22
def C_X11_given (w : Wd) (sh : List Sh) (x0 : Nat) (x1 : Int32) (x2 : Int32) (h : Hp) (RET : Int32 → Hp → Prop) : Prop := CI w yX11_given (.code yX11_given cX11_given 3 (some .int)) 3 87 [rv w.2.2.2 x0, Value.int x1, Value.int x2] sh h RET
theorem K_X11_given {w : Wd} {sh : List Sh} {x0 : Nat} {x1 : Int32} {x2 : Int32} {h : Hp} {RET : Int32 → Hp → Prop} (hV : V_X11_given_0 w sh x0 x1 x2 h RET) : C_X11_given w sh x0 x1 x2 h RET :=
  Ct_of (by decide +kernel) (by simp [lg_sl, rv_cat, cat_int, cat_long]) (fun E X Tt hR _ => by
    rw [show lv_args 0 [rv w.2.2.2 x0, Value.int x1, Value.int x2] = [(0, rv w.2.2.2 x0), (1, Value.int x1), (2, Value.int x2)] from by simp [lv_args, rv_cat, cat_int, cat_long]]
    refine g_lv [0, 1, 2] rfl ?_
    exact W_X11_given_0 X Tt hR hV)
def V_X11_entry_0 (w : Wd) (sh : List Sh) (x0 : Nat) (x1 : Int32) (x2 : Int32) (x3 : Int32) (h : Hp)  (RET : Int32 → Hp → Prop) : Prop :=
  ∃ P1 : Int32 → Hp → Prop, C_X11_isEntry w sh x1 x2 h P1 ∧ (∀ (v5 : Int32) (h4 : Hp), P1 v5 h4 → (((v5 = 0) → (RET (-2 : Int32) h4)) ∧ ((¬ v5 = 0) → (∃ P7 : Int32 → Hp → Prop, C_X11_isByte w sh x3 h4 P7 ∧ (∀ (v11 : Int32) (h10 : Hp), P7 v11 h10 → (((¬ v11 = 0) → (shAt sh x0 = some (.inr 11) ∧ (shAt sh (h10.2.1 x0 6) = some (.inr 10) ∧ (∃ P15 : Int32 → Hp → Prop, C_X10_get w sh (h10.2.1 x0 6) x1 x2 h10 P15 ∧ (∀ (v19 : Int32) (h18 : Hp), P15 v19 h18 → (∀ y20 : Int32, y20 = v19 → (shAt sh (h18.2.1 x0 6) = some (.inr 10) ∧ (∃ P23 : Hp → Prop, C_X10_put w sh (h18.2.1 x0 6) x1 x2 x3 h18 P23 ∧ (∀ h26 : Hp, P23 h26 → (RET y20 h26)))))))))) ∧ ((v11 = 0) → (RET (-2 : Int32) h10))))))))
set_option maxRecDepth 20000 in
set_option maxHeartbeats 4000000 in
theorem W_X11_entry_0 {w : Wd} {E : GE} {sh : List Sh} {x0 : Nat} {x1 : Int32} {x2 : Int32} {x3 : Int32} {h : Hp}  {RET : Int32 → Hp → Prop} (X : Cx w E cX11_entry 5 RX11) (Tt : Rt w E (some .int) sh.length 0 0 (fun q sh9 h9 => ∃ v : Int32, q = some (Value.int v) ∧ sh9 = sh ∧ RET v h9)) (hR : gR E = { frames := 2, cells := 0, slots := 0, locals := 45 }) (hV : V_X11_entry_0 w sh x0 x1 x2 x3 h RET) : G w E 5 0 [(0, rv w.2.2.2 x0), (1, Value.int x1), (2, Value.int x2), (3, Value.int x3)] [] sh h 0 0 := by
  unfold V_X11_entry_0 at hV
  refine g_iload_n (pc := 0) X 1 rfl rfl dX11_entry_0 ?_
  refine g_iload_n (pc := 1) X 2 rfl rfl dX11_entry_1 ?_
  obtain ⟨P1, t2, hV⟩ := hV
  refine g_cSI (pc := 2) X (As := [Value.int x1, Value.int x2]) ml_X11_133 t2 (by rw [hR]; exact ⟨by decide, by decide, by decide, by decide⟩) rfl rfl (Nat.zero_le _) dX11_entry_2 (fun v5 h4 p3 => ?_)
  have hV := hV v5 h4 p3
  refine g_if_eq (pc := 5) X 15 dX11_entry_5 (by decide) (fun c6 => ?_) (fun c6 => ?_)
  · have hV := hV.1 c6
    refine g_bipush (pc := 15) (v := (-2 : Int32)) X dX11_entry_15 (by decide) ?_
    exact g_iret (pc := 17) X Tt ⟨_, rfl, rfl, hV⟩ dX11_entry_17
  · have hV := hV.2 c6
    refine g_iload_n (pc := 8) X 3 rfl rfl dX11_entry_8 ?_
    obtain ⟨P7, t8, hV⟩ := hV
    refine g_cSI (pc := 9) X (As := [Value.int x3]) ml_X11_107 t8 (by rw [hR]; exact ⟨by decide, by decide, by decide, by decide⟩) rfl rfl (Nat.zero_le _) dX11_entry_9 (fun v11 h10 p9 => ?_)
    have hV := hV v11 h10 p9
    refine g_if_ne (pc := 12) X 18 dX11_entry_12 (by decide) (fun c12 => ?_) (fun c12 => ?_)
    · have hV := hV.1 c12
      refine g_aload_n (pc := 18) X 0 rfl rfl dX11_entry_18 ?_
      obtain ⟨q13, hV⟩ := hV
      refine g_getR (pc := 19) X fl_X11_37 q13 dX11_entry_19 ?_
      refine g_iload_n (pc := 22) X 1 rfl rfl dX11_entry_22 ?_
      refine g_iload_n (pc := 23) X 2 rfl rfl dX11_entry_23 ?_
      obtain ⟨q14, hV⟩ := hV
      obtain ⟨P15, t16, hV⟩ := hV
      refine g_cVI (pc := 24) X (As := [Value.int x1, Value.int x2]) ml_X11_137 rfl q14 t16 (by rw [hR]; exact ⟨by decide, by decide, by decide, by decide⟩) rfl rfl (Nat.zero_le _) dX11_entry_24 (fun v19 h18 p17 => ?_)
      have hV := hV v19 h18 p17
      refine g_istore (pc := 27) X (i := 4) (rest := [(0, rv w.2.2.2 x0), (1, Value.int x1), (2, Value.int x2), (3, Value.int x3)]) (by decide) rfl dX11_entry_27 (fun y20 e21 => ?_)
      have hV := hV y20 e21
      refine g_aload_n (pc := 29) X 1 rfl rfl dX11_entry_29 ?_
      refine g_getR (pc := 30) X fl_X11_37 q13 dX11_entry_30 ?_
      refine g_iload_n (pc := 33) X 2 rfl rfl dX11_entry_33 ?_
      refine g_iload_n (pc := 34) X 3 rfl rfl dX11_entry_34 ?_
      refine g_iload_n (pc := 35) X 4 rfl rfl dX11_entry_35 ?_
      obtain ⟨q22, hV⟩ := hV
      obtain ⟨P23, t24, hV⟩ := hV
      refine g_cVV (pc := 36) X (As := [Value.int x1, Value.int x2, Value.int x3]) ml_X11_140 rfl q22 t24 (by rw [hR]; exact ⟨by decide, by decide, by decide, by decide⟩) rfl rfl (Nat.zero_le _) dX11_entry_36 (fun h26 p25 => ?_)
      have hV := hV h26 p25
      refine g_iload (pc := 39) X 0 rfl dX11_entry_39 ?_
      exact g_iret (pc := 41) X Tt ⟨_, rfl, rfl, hV⟩ dX11_entry_41
    · have hV := hV.2 c12
      refine g_bipush (pc := 15) (v := (-2 : Int32)) X dX11_entry_15 (by decide) ?_
      exact g_iret (pc := 17) X Tt ⟨_, rfl, rfl, hV⟩ dX11_entry_17
def C_X11_entry (w : Wd) (sh : List Sh) (x0 : Nat) (x1 : Int32) (x2 : Int32) (x3 : Int32) (h : Hp) (RET : Int32 → Hp → Prop) : Prop := CI w yX11_entry (.code yX11_entry cX11_entry 5 (some .int)) 2 45 [rv w.2.2.2 x0, Value.int x1, Value.int x2, Value.int x3] sh h RET
theorem K_X11_entry {w : Wd} {sh : List Sh} {x0 : Nat} {x1 : Int32} {x2 : Int32} {x3 : Int32} {h : Hp} {RET : Int32 → Hp → Prop} (hV : V_X11_entry_0 w sh x0 x1 x2 x3 h RET) : C_X11_entry w sh x0 x1 x2 x3 h RET :=
  Ct_of (by decide +kernel) (by simp [lg_sl, rv_cat, cat_int, cat_long]) (fun E X Tt hR _ => by
    rw [show lv_args 0 [rv w.2.2.2 x0, Value.int x1, Value.int x2, Value.int x3] = [(0, rv w.2.2.2 x0), (1, Value.int x1), (2, Value.int x2), (3, Value.int x3)] from by simp [lv_args, rv_cat, cat_int, cat_long]]
    refine g_lv [0, 1, 2, 3] rfl ?_
    exact W_X11_entry_0 X Tt hR hV)
def V_X11_startFile_0 (w : Wd) (sh : List Sh) (x0 : Nat) (x1 : Int32) (h : Hp)  (RET : Hp → Prop) : Prop :=
  shAt sh x0 = some (.inr 8) ∧ (∃ P2 : Hp → Prop, C_X8_clear w sh x0 h P2 ∧ (∀ h5 : Hp, P2 h5 → (∃ P6 : Hp → Prop, C_X8_pushLowest w sh x0 (3603153920 : Int64) (4 : Int32) h5 P6 ∧ (∀ h9 : Hp, P6 h9 → (∃ P10 : Hp → Prop, C_X8_push w sh x0 x1 h9 P10 ∧ (∀ h13 : Hp, P10 h13 → (RET h13)))))))
set_option maxRecDepth 20000 in
set_option maxHeartbeats 4000000 in
theorem W_X11_startFile_0 {w : Wd} {E : GE} {sh : List Sh} {x0 : Nat} {x1 : Int32} {h : Hp}  {RET : Hp → Prop} (X : Cx w E cX11_startFile 2 RX11) (Tt : Rt w E none sh.length 0 0 (fun q sh9 h9 => q = none ∧ sh9 = sh ∧ RET h9)) (hR : gR E = { frames := 2, cells := 0, slots := 0, locals := 45 }) (hV : V_X11_startFile_0 w sh x0 x1 h RET) : G w E 2 0 [(0, rv w.2.2.2 x0), (1, Value.int x1)] [] sh h 0 0 := by
  unfold V_X11_startFile_0 at hV
  refine g_aload_n (pc := 0) X 0 rfl rfl dX11_startFile_0 ?_
  obtain ⟨q1, hV⟩ := hV
  obtain ⟨P2, t3, hV⟩ := hV
  refine g_cVV (pc := 1) X (As := []) ml_X11_88 rfl q1 t3 (by rw [hR]; exact ⟨by decide, by decide, by decide, by decide⟩) rfl rfl (Nat.zero_le _) dX11_startFile_1 (fun h5 p4 => ?_)
  have hV := hV h5 p4
  refine g_aload_n (pc := 4) X 0 rfl rfl dX11_startFile_4 ?_
  refine g_ldc2 (pc := 5) X kc_X11_222 dX11_startFile_5 ?_
  refine g_iconst (pc := 8) (v := (4 : Int32)) X dX11_startFile_8 (by decide) ?_
  obtain ⟨P6, t7, hV⟩ := hV
  refine g_cVV (pc := 9) X (As := [Value.long (3603153920 : Int64), Value.int (4 : Int32)]) ml_X11_91 rfl q1 t7 (by rw [hR]; exact ⟨by decide, by decide, by decide, by decide⟩) rfl rfl (Nat.zero_le _) dX11_startFile_9 (fun h9 p8 => ?_)
  have hV := hV h9 p8
  refine g_aload_n (pc := 12) X 0 rfl rfl dX11_startFile_12 ?_
  refine g_iload_n (pc := 13) X 1 rfl rfl dX11_startFile_13 ?_
  obtain ⟨P10, t11, hV⟩ := hV
  refine g_cVV (pc := 14) X (As := [Value.int x1]) ml_X11_100 rfl q1 t11 (by rw [hR]; exact ⟨by decide, by decide, by decide, by decide⟩) rfl rfl (Nat.zero_le _) dX11_startFile_14 (fun h13 p12 => ?_)
  have hV := hV h13 p12
  exact g_vret (pc := 17) X Tt ⟨rfl, rfl, hV⟩ dX11_startFile_17
def C_X11_startFile (w : Wd) (sh : List Sh) (x0 : Nat) (x1 : Int32) (h : Hp) (RET : Hp → Prop) : Prop := CV w yX11_startFile (.code yX11_startFile cX11_startFile 2 none) 2 45 [rv w.2.2.2 x0, Value.int x1] sh h RET
theorem K_X11_startFile {w : Wd} {sh : List Sh} {x0 : Nat} {x1 : Int32} {h : Hp} {RET : Hp → Prop} (hV : V_X11_startFile_0 w sh x0 x1 h RET) : C_X11_startFile w sh x0 x1 h RET :=
  Ct_of (by decide +kernel) (by simp [lg_sl, rv_cat, cat_int, cat_long]) (fun E X Tt hR _ => by
    rw [show lv_args 0 [rv w.2.2.2 x0, Value.int x1] = [(0, rv w.2.2.2 x0), (1, Value.int x1)] from by simp [lv_args, rv_cat, cat_int, cat_long]]
    refine g_lv [0, 1] rfl ?_
    exact W_X11_startFile_0 X Tt hR hV)
def V_X11_tellTable_0 (w : Wd) (sh : List Sh) (x0 : Nat) (h : Hp)  (RET : Hp → Prop) : Prop :=
  shAt sh x0 = some (.inr 11) ∧ (shAt sh (h.2.1 x0 4) = some (.inr 8) ∧ (∃ P3 : Int32 → Hp → Prop, C_X8_length w sh (h.2.1 x0 4) h P3 ∧ (∀ (v7 : Int32) (h6 : Hp), P3 v7 h6 → (shAt sh (h.2.1 x0 2) = some (.inr 8) ∧ (∃ P9 : Hp → Prop, C_X8_pushBig w sh (h.2.1 x0 2) (((2 : Int32) + v7).toInt64) h6 P9 ∧ (∀ h12 : Hp, P9 h12 → (shAt sh (h12.2.1 x0 6) = some (.inr 10) ∧ (shAt sh (h12.2.1 x0 2) = some (.inr 8) ∧ (∃ P15 : Hp → Prop, C_X8_push w sh (h12.2.1 x0 2) (h12.1 (h12.2.1 x0 6) 1) h12 P15 ∧ (∀ h18 : Hp, P15 h18 → (shAt sh (h18.2.1 x0 6) = some (.inr 10) ∧ (shAt sh (h18.2.1 x0 2) = some (.inr 8) ∧ (∃ P21 : Hp → Prop, C_X8_push w sh (h18.2.1 x0 2) (h18.1 (h18.2.1 x0 6) 2) h18 P21 ∧ (∀ h24 : Hp, P21 h24 → (shAt sh (h24.2.1 x0 4) = some (.inr 8) ∧ (∃ P26 : Int32 → Hp → Prop, C_X8_length w sh (h24.2.1 x0 4) h24 P26 ∧ (∀ (v30 : Int32) (h29 : Hp), P26 v30 h29 → (shAt sh (h24.2.1 x0 2) = some (.inr 8) ∧ (∃ P32 : Hp → Prop, C_X8_append w sh (h24.2.1 x0 2) (h24.2.1 x0 4) (0 : Int32) v30 h29 P32 ∧ (∀ h35 : Hp, P32 h35 → (RET h35)))))))))))))))))))))
set_option maxRecDepth 20000 in
set_option maxHeartbeats 4000000 in
theorem W_X11_tellTable_0 {w : Wd} {E : GE} {sh : List Sh} {x0 : Nat} {h : Hp}  {RET : Hp → Prop} (X : Cx w E cX11_tellTable 1 RX11) (Tt : Rt w E none sh.length 0 0 (fun q sh9 h9 => q = none ∧ sh9 = sh ∧ RET h9)) (hR : gR E = { frames := 2, cells := 0, slots := 0, locals := 64 }) (hV : V_X11_tellTable_0 w sh x0 h RET) : G w E 1 0 [(0, rv w.2.2.2 x0)] [] sh h 0 0 := by
  unfold V_X11_tellTable_0 at hV
  refine g_aload_n (pc := 0) X 0 rfl rfl dX11_tellTable_0 ?_
  obtain ⟨q1, hV⟩ := hV
  refine g_getR (pc := 1) X fl_X11_21 q1 dX11_tellTable_1 ?_
  refine g_iconst (pc := 4) (v := (2 : Int32)) X dX11_tellTable_4 (by decide) ?_
  refine g_aload_n (pc := 5) X 0 rfl rfl dX11_tellTable_5 ?_
  refine g_getR (pc := 6) X fl_X11_27 q1 dX11_tellTable_6 ?_
  obtain ⟨q2, hV⟩ := hV
  obtain ⟨P3, t4, hV⟩ := hV
  refine g_cVI (pc := 9) X (As := []) ml_X11_95 rfl q2 t4 (by rw [hR]; exact ⟨by decide, by decide, by decide, by decide⟩) rfl rfl (by simp [rv_cat, cat_int, cat_long]) dX11_tellTable_9 (fun v7 h6 p5 => ?_)
  have hV := hV v7 h6 p5
  refine g_iadd (pc := 12) X dX11_tellTable_12 ?_
  refine g_i2l (pc := 13) X dX11_tellTable_13 ?_
  obtain ⟨q8, hV⟩ := hV
  obtain ⟨P9, t10, hV⟩ := hV
  refine g_cVV (pc := 14) X (As := [Value.long (((2 : Int32) + v7).toInt64)]) ml_X11_224 rfl q8 t10 (by rw [hR]; exact ⟨by decide, by decide, by decide, by decide⟩) rfl rfl (Nat.zero_le _) dX11_tellTable_14 (fun h12 p11 => ?_)
  have hV := hV h12 p11
  refine g_aload_n (pc := 17) X 0 rfl rfl dX11_tellTable_17 ?_
  refine g_getR (pc := 18) X fl_X11_21 q1 dX11_tellTable_18 ?_
  refine g_aload_n (pc := 21) X 0 rfl rfl dX11_tellTable_21 ?_
  refine g_getR (pc := 22) X fl_X11_37 q1 dX11_tellTable_22 ?_
  obtain ⟨q13, hV⟩ := hV
  refine g_getI (pc := 25) X fl_X11_196 q13 dX11_tellTable_25 ?_
  obtain ⟨q14, hV⟩ := hV
  obtain ⟨P15, t16, hV⟩ := hV
  refine g_cVV (pc := 28) X (As := [Value.int (h12.1 (h12.2.1 x0 6) 1)]) ml_X11_100 rfl q14 t16 (by rw [hR]; exact ⟨by decide, by decide, by decide, by decide⟩) rfl rfl (Nat.zero_le _) dX11_tellTable_28 (fun h18 p17 => ?_)
  have hV := hV h18 p17
  refine g_aload_n (pc := 31) X 0 rfl rfl dX11_tellTable_31 ?_
  refine g_getR (pc := 32) X fl_X11_21 q1 dX11_tellTable_32 ?_
  refine g_aload_n (pc := 35) X 0 rfl rfl dX11_tellTable_35 ?_
  refine g_getR (pc := 36) X fl_X11_37 q1 dX11_tellTable_36 ?_
  obtain ⟨q19, hV⟩ := hV
  refine g_getI (pc := 39) X fl_X11_200 q19 dX11_tellTable_39 ?_
  obtain ⟨q20, hV⟩ := hV
  obtain ⟨P21, t22, hV⟩ := hV
  refine g_cVV (pc := 42) X (As := [Value.int (h18.1 (h18.2.1 x0 6) 2)]) ml_X11_100 rfl q20 t22 (by rw [hR]; exact ⟨by decide, by decide, by decide, by decide⟩) rfl rfl (Nat.zero_le _) dX11_tellTable_42 (fun h24 p23 => ?_)
  have hV := hV h24 p23
  refine g_aload_n (pc := 45) X 0 rfl rfl dX11_tellTable_45 ?_
  refine g_getR (pc := 46) X fl_X11_21 q1 dX11_tellTable_46 ?_
  refine g_aload_n (pc := 49) X 0 rfl rfl dX11_tellTable_49 ?_
  refine g_getR (pc := 50) X fl_X11_27 q1 dX11_tellTable_50 ?_
  refine g_iconst (pc := 53) (v := (0 : Int32)) X dX11_tellTable_53 (by decide) ?_
  refine g_aload_n (pc := 54) X 0 rfl rfl dX11_tellTable_54 ?_
  refine g_getR (pc := 55) X fl_X11_27 q1 dX11_tellTable_55 ?_
  obtain ⟨q25, hV⟩ := hV
  obtain ⟨P26, t27, hV⟩ := hV
  refine g_cVI (pc := 58) X (As := []) ml_X11_95 rfl q25 t27 (by rw [hR]; exact ⟨by decide, by decide, by decide, by decide⟩) rfl rfl (by simp [rv_cat, cat_int, cat_long]) dX11_tellTable_58 (fun v30 h29 p28 => ?_)
  have hV := hV v30 h29 p28
  obtain ⟨q31, hV⟩ := hV
  obtain ⟨P32, t33, hV⟩ := hV
  refine g_cVV (pc := 61) X (As := [rv w.2.2.2 (h24.2.1 x0 4), Value.int (0 : Int32), Value.int v30]) ml_X11_103 rfl q31 t33 (by rw [hR]; exact ⟨by decide, by decide, by decide, by decide⟩) rfl rfl (Nat.zero_le _) dX11_tellTable_61 (fun h35 p34 => ?_)
  have hV := hV h35 p34
  exact g_vret (pc := 64) X Tt ⟨rfl, rfl, hV⟩ dX11_tellTable_64
def C_X11_tellTable (w : Wd) (sh : List Sh) (x0 : Nat) (h : Hp) (RET : Hp → Prop) : Prop := CV w yX11_tellTable (.code yX11_tellTable cX11_tellTable 1 none) 2 64 [rv w.2.2.2 x0] sh h RET
theorem K_X11_tellTable {w : Wd} {sh : List Sh} {x0 : Nat} {h : Hp} {RET : Hp → Prop} (hV : V_X11_tellTable_0 w sh x0 h RET) : C_X11_tellTable w sh x0 h RET :=
  Ct_of (by decide +kernel) (by simp [lg_sl, rv_cat, cat_int, cat_long]) (fun E X Tt hR _ => by
    rw [show lv_args 0 [rv w.2.2.2 x0] = [(0, rv w.2.2.2 x0)] from by simp [lv_args, rv_cat, cat_int, cat_long]]
    refine g_lv [0] rfl ?_
    exact W_X11_tellTable_0 X Tt hR hV)
def V_X11_letOut_0 (w : Wd) (sh : List Sh) (x0 : Nat) (h : Hp)  (RET : Hp → Prop) : Prop :=
  shAt sh x0 = some (.inr 11) ∧ (∀ y2 : Nat, y2 = (h.2.1 x0 1) → (∀ h4 : Hp, h4 = wR h x0 1 (h.2.1 x0 2) → (∀ h6 : Hp, h6 = wR h4 x0 2 y2 → (RET h6))))
set_option maxRecDepth 20000 in
set_option maxHeartbeats 4000000 in
theorem W_X11_letOut_0 {w : Wd} {E : GE} {sh : List Sh} {x0 : Nat} {h : Hp}  {RET : Hp → Prop} (X : Cx w E cX11_letOut 2 RX11) (Tt : Rt w E none sh.length 0 0 (fun q sh9 h9 => q = none ∧ sh9 = sh ∧ RET h9)) (hR : gR E = { frames := 0, cells := 0, slots := 0, locals := 0 }) (hV : V_X11_letOut_0 w sh x0 h RET) : G w E 2 0 [(0, rv w.2.2.2 x0)] [] sh h 0 0 := by
  unfold V_X11_letOut_0 at hV
  refine g_aload_n (pc := 0) X 0 rfl rfl dX11_letOut_0 ?_
  obtain ⟨q1, hV⟩ := hV
  refine g_getR (pc := 1) X fl_X11_18 q1 dX11_letOut_1 ?_
  refine g_astore_n (pc := 4) X (i := 1) (rest := [(0, rv w.2.2.2 x0)]) rfl (by decide) (by simp [flt1, flt2, rv_cat, cat_int, cat_long]) dX11_letOut_4 (fun y2 e3 => ?_)
  have hV := hV y2 e3
  refine g_aload_n (pc := 5) X 1 rfl rfl dX11_letOut_5 ?_
  refine g_aload_n (pc := 6) X 1 rfl rfl dX11_letOut_6 ?_
  refine g_getR (pc := 7) X fl_X11_21 q1 dX11_letOut_7 ?_
  refine g_putR (pc := 10) X fl_X11_18 q1 rfl dX11_letOut_10 (fun h4 e5 => ?_)
  have hV := hV h4 e5
  refine g_aload_n (pc := 13) X 1 rfl rfl dX11_letOut_13 ?_
  refine g_aload_n (pc := 14) X 0 rfl rfl dX11_letOut_14 ?_
  refine g_putR (pc := 15) X fl_X11_21 q1 rfl dX11_letOut_15 (fun h6 e7 => ?_)
  have hV := hV h6 e7
  exact g_vret (pc := 18) X Tt ⟨rfl, rfl, hV⟩ dX11_letOut_18
def C_X11_letOut (w : Wd) (sh : List Sh) (x0 : Nat) (h : Hp) (RET : Hp → Prop) : Prop := CV w yX11_letOut (.code yX11_letOut cX11_letOut 2 none) 0 0 [rv w.2.2.2 x0] sh h RET
theorem K_X11_letOut {w : Wd} {sh : List Sh} {x0 : Nat} {h : Hp} {RET : Hp → Prop} (hV : V_X11_letOut_0 w sh x0 h RET) : C_X11_letOut w sh x0 h RET :=
  Ct_of (by decide +kernel) (by simp [lg_sl, rv_cat, cat_int, cat_long]) (fun E X Tt hR _ => by
    rw [show lv_args 0 [rv w.2.2.2 x0] = [(0, rv w.2.2.2 x0)] from by simp [lv_args, rv_cat, cat_int, cat_long]]
    refine g_lv [0] rfl ?_
    exact W_X11_letOut_0 X Tt hR hV)
def V_X11_make_148 (w : Wd) (sh : List Sh) (x0 : Nat) (x1 : Int32) (s0 : Nat) (s1 : Nat) (s2 : Nat) (s3 : Nat) (h : Hp)  (RET : Int32 → Hp → Prop) : Prop :=
  shAt sh x0 = some (.inr 11) ∧ (shAt sh s3 = some (.inr 5) ∧ (∃ P3 : Int32 → Hp → Prop, C_X5_makeWindows w sh s3 s2 s1 s0 x1 (h.2.1 x0 2) h P3 ∧ (∀ (v7 : Int32) (h6 : Hp), P3 v7 h6 → (∀ y8 : Int32, y8 = v7 → (((¬ y8 = 0) → (shAt sh (h6.2.1 x0 2) = some (.inr 8) ∧ (∃ P12 : Int32 → Hp → Prop, C_X8_hasLost w sh (h6.2.1 x0 2) h6 P12 ∧ (∀ (v16 : Int32) (h15 : Hp), P12 v16 h15 → (((v16 = 0) → (∃ P18 : Hp → Prop, C_X11_letOut w sh x0 h15 P18 ∧ (∀ h21 : Hp, P18 h21 → (shAt sh (h21.2.1 x0 1) = some (.inr 8) ∧ (∃ P23 : Int32 → Hp → Prop, C_X8_length w sh (h21.2.1 x0 1) h21 P23 ∧ (∀ (v27 : Int32) (h26 : Hp), P23 v27 h26 → (RET v27 h26))))))) ∧ ((¬ v16 = 0) → (RET (-4 : Int32) h15))))))) ∧ ((y8 = 0) → (RET (-3 : Int32) h6)))))))
set_option maxRecDepth 20000 in
set_option maxHeartbeats 4000000 in
theorem W_X11_make_148 {w : Wd} {E : GE} {sh : List Sh} {x0 : Nat} {x1 : Int32} {s0 : Nat} {s1 : Nat} {s2 : Nat} {s3 : Nat} {h : Hp}  {RET : Int32 → Hp → Prop} (X : Cx w E cX11_make 4 RX11) (Tt : Rt w E (some .int) sh.length 0 0 (fun q sh9 h9 => ∃ v : Int32, q = some (Value.int v) ∧ sh9 = sh ∧ RET v h9)) (hR : gR E = { frames := 7, cells := 0, slots := 0, locals := 178 }) (hV : V_X11_make_148 w sh x0 x1 s0 s1 s2 s3 h RET) : G w E 4 148 [(0, rv w.2.2.2 x0), (1, Value.int x1)] [rv w.2.2.2 s0, rv w.2.2.2 s1, rv w.2.2.2 s2, rv w.2.2.2 s3] sh h 0 0 := by
  unfold V_X11_make_148 at hV
  refine g_iload_n (pc := 148) X 1 rfl rfl dX11_make_148 ?_
  refine g_aload_n (pc := 149) X 0 rfl rfl dX11_make_149 ?_
  obtain ⟨q1, hV⟩ := hV
  refine g_getR (pc := 150) X fl_X11_21 q1 dX11_make_150 ?_
  obtain ⟨q2, hV⟩ := hV
  obtain ⟨P3, t4, hV⟩ := hV
  refine g_cVI (pc := 153) X (As := [rv w.2.2.2 s2, rv w.2.2.2 s1, rv w.2.2.2 s0, Value.int x1, rv w.2.2.2 (h.2.1 x0 2)]) ml_X11_151 rfl q2 t4 (by rw [hR]; exact ⟨by decide, by decide, by decide, by decide⟩) rfl rfl (Nat.zero_le _) dX11_make_153 (fun v7 h6 p5 => ?_)
  have hV := hV v7 h6 p5
  refine g_istore_n (pc := 156) X (i := 3) (rest := [(0, rv w.2.2.2 x0), (1, Value.int x1)]) rfl (by decide) rfl dX11_make_156 (fun y8 e9 => ?_)
  have hV := hV y8 e9
  refine g_iload_n (pc := 157) X 0 rfl rfl dX11_make_157 ?_
  refine g_if_ne (pc := 158) X 164 dX11_make_158 (by decide) (fun c10 => ?_) (fun c10 => ?_)
  · have hV := hV.1 c10
    refine g_aload_n (pc := 164) X 1 rfl rfl dX11_make_164 ?_
    refine g_getR (pc := 165) X fl_X11_21 q1 dX11_make_165 ?_
    obtain ⟨q11, hV⟩ := hV
    obtain ⟨P12, t13, hV⟩ := hV
    refine g_cVI (pc := 168) X (As := []) ml_X11_158 rfl q11 t13 (by rw [hR]; exact ⟨by decide, by decide, by decide, by decide⟩) rfl rfl (Nat.zero_le _) dX11_make_168 (fun v16 h15 p14 => ?_)
    have hV := hV v16 h15 p14
    refine g_if_eq (pc := 171) X 177 dX11_make_171 (by decide) (fun c17 => ?_) (fun c17 => ?_)
    · have hV := hV.1 c17
      refine g_aload_n (pc := 177) X 1 rfl rfl dX11_make_177 ?_
      obtain ⟨P18, t19, hV⟩ := hV
      refine g_cVV (pc := 178) X (As := []) ml_X11_161 rfl q1 t19 (by rw [hR]; exact ⟨by decide, by decide, by decide, by decide⟩) rfl rfl (Nat.zero_le _) dX11_make_178 (fun h21 p20 => ?_)
      have hV := hV h21 p20
      refine g_aload_n (pc := 181) X 1 rfl rfl dX11_make_181 ?_
      refine g_getR (pc := 182) X fl_X11_18 q1 dX11_make_182 ?_
      obtain ⟨q22, hV⟩ := hV
      obtain ⟨P23, t24, hV⟩ := hV
      refine g_cVI (pc := 185) X (As := []) ml_X11_95 rfl q22 t24 (by rw [hR]; exact ⟨by decide, by decide, by decide, by decide⟩) rfl rfl (Nat.zero_le _) dX11_make_185 (fun v27 h26 p25 => ?_)
      have hV := hV v27 h26 p25
      exact g_iret (pc := 188) X Tt ⟨_, rfl, rfl, hV⟩ dX11_make_188
    · have hV := hV.2 c17
      refine g_bipush (pc := 174) (v := (-4 : Int32)) X dX11_make_174 (by decide) ?_
      exact g_iret (pc := 176) X Tt ⟨_, rfl, rfl, hV⟩ dX11_make_176
  · have hV := hV.2 c10
    refine g_bipush (pc := 161) (v := (-3 : Int32)) X dX11_make_161 (by decide) ?_
    exact g_iret (pc := 163) X Tt ⟨_, rfl, rfl, hV⟩ dX11_make_163
def V_X11_make_121 (w : Wd) (sh : List Sh) (x0 : Nat) (x1 : Int32) (x2 : Int32) (h : Hp)  (RET : Int32 → Hp → Prop) : Prop :=
  shAt sh x0 = some (.inr 11) ∧ (((x2 = 0) → (V_X11_make_148 w sh x0 x1 (h.2.1 x0 5) (h.2.1 x0 3) (h.2.1 x0 0) (h.2.1 x0 12) h RET)) ∧ ((¬ x2 = 0) → (V_X11_make_148 w sh x0 x1 (h.2.1 x0 6) (h.2.1 x0 3) (h.2.1 x0 0) (h.2.1 x0 12) h RET)))
set_option maxRecDepth 20000 in
set_option maxHeartbeats 4000000 in
theorem W_X11_make_121 {w : Wd} {E : GE} {sh : List Sh} {x0 : Nat} {x1 : Int32} {x2 : Int32} {h : Hp}  {RET : Int32 → Hp → Prop} (X : Cx w E cX11_make 4 RX11) (Tt : Rt w E (some .int) sh.length 0 0 (fun q sh9 h9 => ∃ v : Int32, q = some (Value.int v) ∧ sh9 = sh ∧ RET v h9)) (hR : gR E = { frames := 7, cells := 0, slots := 0, locals := 178 }) (hV : V_X11_make_121 w sh x0 x1 x2 h RET) : G w E 4 121 [(0, rv w.2.2.2 x0), (1, Value.int x1), (2, Value.int x2)] [] sh h 0 0 := by
  unfold V_X11_make_121 at hV
  refine g_aload_n (pc := 121) X 0 rfl rfl dX11_make_121 ?_
  obtain ⟨q1, hV⟩ := hV
  refine g_getR (pc := 122) X fl_X11_62 q1 dX11_make_122 ?_
  refine g_aload_n (pc := 125) X 0 rfl rfl dX11_make_125 ?_
  refine g_getR (pc := 126) X fl_X11_14 q1 dX11_make_126 ?_
  refine g_aload_n (pc := 129) X 0 rfl rfl dX11_make_129 ?_
  refine g_getR (pc := 130) X fl_X11_24 q1 dX11_make_130 ?_
  refine g_iload_n (pc := 133) X 2 rfl rfl dX11_make_133 ?_
  refine g_if_eq (pc := 134) X 144 dX11_make_134 (by decide) (fun c2 => ?_) (fun c2 => ?_)
  · have hV := hV.1 c2
    refine g_aload_n (pc := 144) X 0 rfl rfl dX11_make_144 ?_
    refine g_getR (pc := 145) X fl_X11_33 q1 dX11_make_145 ?_
    refine g_lv [0, 1] rfl ?_
    exact W_X11_make_148 X Tt hR hV
  · have hV := hV.2 c2
    refine g_aload_n (pc := 137) X 0 rfl rfl dX11_make_137 ?_
    refine g_getR (pc := 138) X fl_X11_37 q1 dX11_make_138 ?_
    refine g_goto (pc := 141) X 148 dX11_make_141 (by decide) ?_
    refine g_lv [0, 1] rfl ?_
    exact W_X11_make_148 X Tt hR hV
def V_X11_make_71 (w : Wd) (sh : List Sh) (x0 : Nat) (x1 : Int32) (x2 : Int32) (s0 : Int32) (s1 : Nat) (h : Hp)  (RET : Int32 → Hp → Prop) : Prop :=
  ∃ P1 : Hp → Prop, C_X11_startFile w sh s1 s0 h P1 ∧ (∀ h4 : Hp, P1 h4 → (((x2 = 0) → (V_X11_make_121 w sh x0 x1 x2 h4 RET)) ∧ ((¬ x2 = 0) → (shAt sh x0 = some (.inr 11) ∧ (∃ P7 : Hp → Prop, C_X11_startFile w sh (h4.2.1 x0 4) (0 : Int32) h4 P7 ∧ (∀ h10 : Hp, P7 h10 → (shAt sh (h10.2.1 x0 6) = some (.inr 10) ∧ (shAt sh (h10.2.1 x0 5) = some (.inr 10) ∧ (shAt sh (h10.2.1 x0 12) = some (.inr 5) ∧ (∃ P14 : Int32 → Hp → Prop, C_X5_makeWindows w sh (h10.2.1 x0 12) (h10.2.1 (h10.2.1 x0 6) 0) (h10.2.1 (h10.2.1 x0 5) 0) (h10.2.1 x0 5) (0 : Int32) (h10.2.1 x0 4) h10 P14 ∧ (∀ (v18 : Int32) (h17 : Hp), P14 v18 h17 → (∃ P19 : Hp → Prop, C_X11_tellTable w sh x0 h17 P19 ∧ (∀ h22 : Hp, P19 h22 → (V_X11_make_121 w sh x0 x1 x2 h22 RET))))))))))))))
set_option maxRecDepth 20000 in
set_option maxHeartbeats 4000000 in
theorem W_X11_make_71 {w : Wd} {E : GE} {sh : List Sh} {x0 : Nat} {x1 : Int32} {x2 : Int32} {s0 : Int32} {s1 : Nat} {h : Hp}  {RET : Int32 → Hp → Prop} (X : Cx w E cX11_make 4 RX11) (Tt : Rt w E (some .int) sh.length 0 0 (fun q sh9 h9 => ∃ v : Int32, q = some (Value.int v) ∧ sh9 = sh ∧ RET v h9)) (hR : gR E = { frames := 7, cells := 0, slots := 0, locals := 178 }) (hV : V_X11_make_71 w sh x0 x1 x2 s0 s1 h RET) : G w E 4 71 [(0, rv w.2.2.2 x0), (1, Value.int x1), (2, Value.int x2)] [Value.int s0, rv w.2.2.2 s1] sh h 0 0 := by
  unfold V_X11_make_71 at hV
  obtain ⟨P1, t2, hV⟩ := hV
  refine g_cSV (pc := 71) X (As := [rv w.2.2.2 s1, Value.int s0]) ml_X11_147 t2 (by rw [hR]; exact ⟨by decide, by decide, by decide, by decide⟩) rfl rfl (Nat.zero_le _) dX11_make_71 (fun h4 p3 => ?_)
  have hV := hV h4 p3
  refine g_iload_n (pc := 74) X 2 rfl rfl dX11_make_74 ?_
  refine g_if_eq (pc := 75) X 121 dX11_make_75 (by decide) (fun c5 => ?_) (fun c5 => ?_)
  · have hV := hV.1 c5
    exact W_X11_make_121 X Tt hR hV
  · have hV := hV.2 c5
    refine g_aload_n (pc := 78) X 0 rfl rfl dX11_make_78 ?_
    obtain ⟨q6, hV⟩ := hV
    refine g_getR (pc := 79) X fl_X11_27 q6 dX11_make_79 ?_
    refine g_iconst (pc := 82) (v := (0 : Int32)) X dX11_make_82 (by decide) ?_
    obtain ⟨P7, t8, hV⟩ := hV
    refine g_cSV (pc := 83) X (As := [rv w.2.2.2 (h4.2.1 x0 4), Value.int (0 : Int32)]) ml_X11_147 t8 (by rw [hR]; exact ⟨by decide, by decide, by decide, by decide⟩) rfl rfl (Nat.zero_le _) dX11_make_83 (fun h10 p9 => ?_)
    have hV := hV h10 p9
    refine g_aload_n (pc := 86) X 0 rfl rfl dX11_make_86 ?_
    refine g_getR (pc := 87) X fl_X11_62 q6 dX11_make_87 ?_
    refine g_aload_n (pc := 90) X 0 rfl rfl dX11_make_90 ?_
    refine g_getR (pc := 91) X fl_X11_37 q6 dX11_make_91 ?_
    obtain ⟨q11, hV⟩ := hV
    refine g_getR (pc := 94) X fl_X11_127 q11 dX11_make_94 ?_
    refine g_aload_n (pc := 97) X 0 rfl rfl dX11_make_97 ?_
    refine g_getR (pc := 98) X fl_X11_33 q6 dX11_make_98 ?_
    obtain ⟨q12, hV⟩ := hV
    refine g_getR (pc := 101) X fl_X11_127 q12 dX11_make_101 ?_
    refine g_aload_n (pc := 104) X 0 rfl rfl dX11_make_104 ?_
    refine g_getR (pc := 105) X fl_X11_33 q6 dX11_make_105 ?_
    refine g_iconst (pc := 108) (v := (0 : Int32)) X dX11_make_108 (by decide) ?_
    refine g_aload_n (pc := 109) X 0 rfl rfl dX11_make_109 ?_
    refine g_getR (pc := 110) X fl_X11_27 q6 dX11_make_110 ?_
    obtain ⟨q13, hV⟩ := hV
    obtain ⟨P14, t15, hV⟩ := hV
    refine g_cVI (pc := 113) X (As := [rv w.2.2.2 (h10.2.1 (h10.2.1 x0 6) 0), rv w.2.2.2 (h10.2.1 (h10.2.1 x0 5) 0), rv w.2.2.2 (h10.2.1 x0 5), Value.int (0 : Int32), rv w.2.2.2 (h10.2.1 x0 4)]) ml_X11_151 rfl q13 t15 (by rw [hR]; exact ⟨by decide, by decide, by decide, by decide⟩) rfl rfl (Nat.zero_le _) dX11_make_113 (fun v18 h17 p16 => ?_)
    have hV := hV v18 h17 p16
    refine g_pop (pc := 116) X dX11_make_116 (rfl) ?_
    refine g_aload_n (pc := 117) X 0 rfl rfl dX11_make_117 ?_
    obtain ⟨P19, t20, hV⟩ := hV
    refine g_cVV (pc := 118) X (As := []) ml_X11_155 rfl q6 t20 (by rw [hR]; exact ⟨by decide, by decide, by decide, by decide⟩) rfl rfl (Nat.zero_le _) dX11_make_118 (fun h22 p21 => ?_)
    have hV := hV h22 p21
    exact W_X11_make_121 X Tt hR hV
def V_X11_make_42 (w : Wd) (sh : List Sh) (x0 : Nat) (x1 : Int32) (x2 : Int32) (h : Hp)  (RET : Int32 → Hp → Prop) : Prop :=
  shAt sh x0 = some (.inr 11) ∧ (shAt sh (h.2.1 x0 0) = some (.inr 8) ∧ (∃ P3 : Int32 → Hp → Prop, C_X8_length w sh (h.2.1 x0 0) h P3 ∧ (∀ (v7 : Int32) (h6 : Hp), P3 v7 h6 → (((v7 ≤ (6000 : Int32)) → (((x2 = 0) → (V_X11_make_71 w sh x0 x1 x2 (0 : Int32) (h6.2.1 x0 2) h6 RET)) ∧ ((¬ x2 = 0) → (V_X11_make_71 w sh x0 x1 x2 (2 : Int32) (h6.2.1 x0 2) h6 RET)))) ∧ ((¬ v7 ≤ (6000 : Int32)) → (RET (-4 : Int32) h6))))))
set_option maxRecDepth 20000 in
set_option maxHeartbeats 4000000 in
theorem W_X11_make_42 {w : Wd} {E : GE} {sh : List Sh} {x0 : Nat} {x1 : Int32} {x2 : Int32} {h : Hp}  {RET : Int32 → Hp → Prop} (X : Cx w E cX11_make 4 RX11) (Tt : Rt w E (some .int) sh.length 0 0 (fun q sh9 h9 => ∃ v : Int32, q = some (Value.int v) ∧ sh9 = sh ∧ RET v h9)) (hR : gR E = { frames := 7, cells := 0, slots := 0, locals := 178 }) (hV : V_X11_make_42 w sh x0 x1 x2 h RET) : G w E 4 42 [(0, rv w.2.2.2 x0), (1, Value.int x1), (2, Value.int x2)] [] sh h 0 0 := by
  unfold V_X11_make_42 at hV
  refine g_aload_n (pc := 42) X 0 rfl rfl dX11_make_42 ?_
  obtain ⟨q1, hV⟩ := hV
  refine g_getR (pc := 43) X fl_X11_14 q1 dX11_make_43 ?_
  obtain ⟨q2, hV⟩ := hV
  obtain ⟨P3, t4, hV⟩ := hV
  refine g_cVI (pc := 46) X (As := []) ml_X11_95 rfl q2 t4 (by rw [hR]; exact ⟨by decide, by decide, by decide, by decide⟩) rfl rfl (Nat.zero_le _) dX11_make_46 (fun v7 h6 p5 => ?_)
  have hV := hV v7 h6 p5
  refine g_sipush (pc := 49) (v := (6000 : Int32)) X dX11_make_49 (by decide) ?_
  refine g_icmp_le (pc := 52) X 58 dX11_make_52 (by decide) (fun c8 => ?_) (fun c8 => ?_)
  · have hV := hV.1 c8
    refine g_aload_n (pc := 58) X 0 rfl rfl dX11_make_58 ?_
    refine g_getR (pc := 59) X fl_X11_21 q1 dX11_make_59 ?_
    refine g_iload_n (pc := 62) X 2 rfl rfl dX11_make_62 ?_
    refine g_if_eq (pc := 63) X 70 dX11_make_63 (by decide) (fun c9 => ?_) (fun c9 => ?_)
    · have hV := hV.1 c9
      refine g_iconst (pc := 70) (v := (0 : Int32)) X dX11_make_70 (by decide) ?_
      exact W_X11_make_71 X Tt hR hV
    · have hV := hV.2 c9
      refine g_iconst (pc := 66) (v := (2 : Int32)) X dX11_make_66 (by decide) ?_
      refine g_goto (pc := 67) X 71 dX11_make_67 (by decide) ?_
      exact W_X11_make_71 X Tt hR hV
  · have hV := hV.2 c8
    refine g_bipush (pc := 55) (v := (-4 : Int32)) X dX11_make_55 (by decide) ?_
    exact g_iret (pc := 57) X Tt ⟨_, rfl, rfl, hV⟩ dX11_make_57
def V_X11_make_24 (w : Wd) (sh : List Sh) (x0 : Nat) (x1 : Int32) (s0 : Int32) (h : Hp)  (RET : Int32 → Hp → Prop) : Prop :=
  ∀ y1 : Int32, y1 = s0 → (((y1 = 0) → (V_X11_make_42 w sh x0 x1 y1 h RET)) ∧ ((¬ y1 = 0) → (shAt sh x0 = some (.inr 11) ∧ (shAt sh (h.2.1 x0 6) = some (.inr 10) ∧ (∃ P6 : Int32 → Hp → Prop, C_X10_isGood w sh (h.2.1 x0 6) h P6 ∧ (∀ (v10 : Int32) (h9 : Hp), P6 v10 h9 → (((¬ v10 = 0) → (V_X11_make_42 w sh x0 x1 y1 h9 RET)) ∧ ((v10 = 0) → (RET (-3 : Int32) h9)))))))))
set_option maxRecDepth 20000 in
set_option maxHeartbeats 4000000 in
theorem W_X11_make_24 {w : Wd} {E : GE} {sh : List Sh} {x0 : Nat} {x1 : Int32} {s0 : Int32} {h : Hp}  {RET : Int32 → Hp → Prop} (X : Cx w E cX11_make 4 RX11) (Tt : Rt w E (some .int) sh.length 0 0 (fun q sh9 h9 => ∃ v : Int32, q = some (Value.int v) ∧ sh9 = sh ∧ RET v h9)) (hR : gR E = { frames := 7, cells := 0, slots := 0, locals := 178 }) (hV : V_X11_make_24 w sh x0 x1 s0 h RET) : G w E 4 24 [(0, rv w.2.2.2 x0), (1, Value.int x1)] [Value.int s0] sh h 0 0 := by
  unfold V_X11_make_24 at hV
  refine g_istore_n (pc := 24) X (i := 2) (rest := [(0, rv w.2.2.2 x0), (1, Value.int x1)]) rfl (by decide) rfl dX11_make_24 (fun y1 e2 => ?_)
  have hV := hV y1 e2
  refine g_iload_n (pc := 25) X 0 rfl rfl dX11_make_25 ?_
  refine g_if_eq (pc := 26) X 42 dX11_make_26 (by decide) (fun c3 => ?_) (fun c3 => ?_)
  · have hV := hV.1 c3
    refine g_lv [1, 2, 0] rfl ?_
    exact W_X11_make_42 X Tt hR hV
  · have hV := hV.2 c3
    refine g_aload_n (pc := 29) X 1 rfl rfl dX11_make_29 ?_
    obtain ⟨q4, hV⟩ := hV
    refine g_getR (pc := 30) X fl_X11_37 q4 dX11_make_30 ?_
    obtain ⟨q5, hV⟩ := hV
    obtain ⟨P6, t7, hV⟩ := hV
    refine g_cVI (pc := 33) X (As := []) ml_X11_143 rfl q5 t7 (by rw [hR]; exact ⟨by decide, by decide, by decide, by decide⟩) rfl rfl (Nat.zero_le _) dX11_make_33 (fun v10 h9 p8 => ?_)
    have hV := hV v10 h9 p8
    refine g_if_ne (pc := 36) X 42 dX11_make_36 (by decide) (fun c11 => ?_) (fun c11 => ?_)
    · have hV := hV.1 c11
      refine g_lv [1, 2, 0] rfl ?_
      exact W_X11_make_42 X Tt hR hV
    · have hV := hV.2 c11
      refine g_bipush (pc := 39) (v := (-3 : Int32)) X dX11_make_39 (by decide) ?_
      exact g_iret (pc := 41) X Tt ⟨_, rfl, rfl, hV⟩ dX11_make_41
def V_X11_make_0 (w : Wd) (sh : List Sh) (x0 : Nat) (x1 : Int32) (h : Hp)  (RET : Int32 → Hp → Prop) : Prop :=
  ((x1 < 0) → (RET (-2 : Int32) h)) ∧ ((¬ x1 < 0) → (((x1 ≤ (7 : Int32)) → ((((x1 &&& (2 : Int32)) = 0) → (V_X11_make_24 w sh x0 x1 (0 : Int32) h RET)) ∧ ((¬ (x1 &&& (2 : Int32)) = 0) → (V_X11_make_24 w sh x0 x1 (1 : Int32) h RET)))) ∧ ((¬ x1 ≤ (7 : Int32)) → (RET (-2 : Int32) h))))
set_option maxRecDepth 20000 in
set_option maxHeartbeats 4000000 in
theorem W_X11_make_0 {w : Wd} {E : GE} {sh : List Sh} {x0 : Nat} {x1 : Int32} {h : Hp}  {RET : Int32 → Hp → Prop} (X : Cx w E cX11_make 4 RX11) (Tt : Rt w E (some .int) sh.length 0 0 (fun q sh9 h9 => ∃ v : Int32, q = some (Value.int v) ∧ sh9 = sh ∧ RET v h9)) (hR : gR E = { frames := 7, cells := 0, slots := 0, locals := 178 }) (hV : V_X11_make_0 w sh x0 x1 h RET) : G w E 4 0 [(0, rv w.2.2.2 x0), (1, Value.int x1)] [] sh h 0 0 := by
  unfold V_X11_make_0 at hV
  refine g_iload_n (pc := 0) X 1 rfl rfl dX11_make_0 ?_
  refine g_if_lt (pc := 1) X 10 dX11_make_1 (by decide) (fun c1 => ?_) (fun c1 => ?_)
  · have hV := hV.1 c1
    refine g_bipush (pc := 10) (v := (-2 : Int32)) X dX11_make_10 (by decide) ?_
    exact g_iret (pc := 12) X Tt ⟨_, rfl, rfl, hV⟩ dX11_make_12
  · have hV := hV.2 c1
    refine g_iload_n (pc := 4) X 1 rfl rfl dX11_make_4 ?_
    refine g_bipush (pc := 5) (v := (7 : Int32)) X dX11_make_5 (by decide) ?_
    refine g_icmp_le (pc := 7) X 13 dX11_make_7 (by decide) (fun c2 => ?_) (fun c2 => ?_)
    · have hV := hV.1 c2
      refine g_iload_n (pc := 13) X 1 rfl rfl dX11_make_13 ?_
      refine g_iconst (pc := 14) (v := (2 : Int32)) X dX11_make_14 (by decide) ?_
      refine g_iand (pc := 15) X dX11_make_15 ?_
      refine g_if_eq (pc := 16) X 23 dX11_make_16 (by decide) (fun c3 => ?_) (fun c3 => ?_)
      · have hV := hV.1 c3
        refine g_iconst (pc := 23) (v := (0 : Int32)) X dX11_make_23 (by decide) ?_
        exact W_X11_make_24 X Tt hR hV
      · have hV := hV.2 c3
        refine g_iconst (pc := 19) (v := (1 : Int32)) X dX11_make_19 (by decide) ?_
        refine g_goto (pc := 20) X 24 dX11_make_20 (by decide) ?_
        exact W_X11_make_24 X Tt hR hV
    · have hV := hV.2 c2
      refine g_bipush (pc := 10) (v := (-2 : Int32)) X dX11_make_10 (by decide) ?_
      exact g_iret (pc := 12) X Tt ⟨_, rfl, rfl, hV⟩ dX11_make_12
def C_X11_make (w : Wd) (sh : List Sh) (x0 : Nat) (x1 : Int32) (h : Hp) (RET : Int32 → Hp → Prop) : Prop := CI w yX11_make (.code yX11_make cX11_make 4 (some .int)) 7 178 [rv w.2.2.2 x0, Value.int x1] sh h RET
theorem K_X11_make {w : Wd} {sh : List Sh} {x0 : Nat} {x1 : Int32} {h : Hp} {RET : Int32 → Hp → Prop} (hV : V_X11_make_0 w sh x0 x1 h RET) : C_X11_make w sh x0 x1 h RET :=
  Ct_of (by decide +kernel) (by simp [lg_sl, rv_cat, cat_int, cat_long]) (fun E X Tt hR _ => by
    rw [show lv_args 0 [rv w.2.2.2 x0, Value.int x1] = [(0, rv w.2.2.2 x0), (1, Value.int x1)] from by simp [lv_args, rv_cat, cat_int, cat_long]]
    refine g_lv [0, 1] rfl ?_
    exact W_X11_make_0 X Tt hR hV)
def V_X11_open_139 (w : Wd) (sh : List Sh) (x0 : Nat) (h : Hp)  (RET : Int32 → Hp → Prop) : Prop :=
  shAt sh x0 = some (.inr 11) ∧ (shAt sh (h.2.1 x0 10) = some (.inr 7) ∧ (∃ P3 : Hp → Prop, C_X7_readAppendix w sh (h.2.1 x0 10) h P3 ∧ (∀ h6 : Hp, P3 h6 → (shAt sh (h6.2.1 x0 10) = some (.inr 7) ∧ (∃ P8 : Hp → Prop, C_X7_readWindows w sh (h6.2.1 x0 10) h6 P8 ∧ (∀ h11 : Hp, P8 h11 → (shAt sh (h11.2.1 x0 10) = some (.inr 7) ∧ (∃ P13 : Int32 → Hp → Prop, C_X7_faultFound w sh (h11.2.1 x0 10) h11 P13 ∧ (∀ (v17 : Int32) (h16 : Hp), P13 v17 h16 → (((v17 = 0) → (∃ P19 : Hp → Prop, C_X11_letOut w sh x0 h16 P19 ∧ (∀ h22 : Hp, P19 h22 → (shAt sh (h22.2.1 x0 1) = some (.inr 8) ∧ (∃ P24 : Int32 → Hp → Prop, C_X8_length w sh (h22.2.1 x0 1) h22 P24 ∧ (∀ (v28 : Int32) (h27 : Hp), P24 v28 h27 → (RET v28 h27))))))) ∧ ((¬ v17 = 0) → (shAt sh (h16.2.1 x0 10) = some (.inr 7) ∧ (∃ P30 : Int32 → Hp → Prop, C_X7_faultFound w sh (h16.2.1 x0 10) h16 P30 ∧ (∀ (v34 : Int32) (h33 : Hp), P30 v34 h33 → (RET ((-10 : Int32) - v34) h33)))))))))))))))
set_option maxRecDepth 20000 in
set_option maxHeartbeats 4000000 in
theorem W_X11_open_139 {w : Wd} {E : GE} {sh : List Sh} {x0 : Nat} {h : Hp}  {RET : Int32 → Hp → Prop} (X : Cx w E cX11_open 1 RX11) (Tt : Rt w E (some .int) sh.length 0 0 (fun q sh9 h9 => ∃ v : Int32, q = some (Value.int v) ∧ sh9 = sh ∧ RET v h9)) (hR : gR E = { frames := 7, cells := 0, slots := 0, locals := 167 }) (hV : V_X11_open_139 w sh x0 h RET) : G w E 1 139 [(0, rv w.2.2.2 x0)] [] sh h 0 0 := by
  unfold V_X11_open_139 at hV
  refine g_aload_n (pc := 139) X 0 rfl rfl dX11_open_139 ?_
  obtain ⟨q1, hV⟩ := hV
  refine g_getR (pc := 140) X fl_X11_77 q1 dX11_open_140 ?_
  obtain ⟨q2, hV⟩ := hV
  obtain ⟨P3, t4, hV⟩ := hV
  refine g_cVV (pc := 143) X (As := []) ml_X11_180 rfl q2 t4 (by rw [hR]; exact ⟨by decide, by decide, by decide, by decide⟩) rfl rfl (Nat.zero_le _) dX11_open_143 (fun h6 p5 => ?_)
  have hV := hV h6 p5
  refine g_aload_n (pc := 146) X 0 rfl rfl dX11_open_146 ?_
  refine g_getR (pc := 147) X fl_X11_77 q1 dX11_open_147 ?_
  obtain ⟨q7, hV⟩ := hV
  obtain ⟨P8, t9, hV⟩ := hV
  refine g_cVV (pc := 150) X (As := []) ml_X11_183 rfl q7 t9 (by rw [hR]; exact ⟨by decide, by decide, by decide, by decide⟩) rfl rfl (Nat.zero_le _) dX11_open_150 (fun h11 p10 => ?_)
  have hV := hV h11 p10
  refine g_aload_n (pc := 153) X 0 rfl rfl dX11_open_153 ?_
  refine g_getR (pc := 154) X fl_X11_77 q1 dX11_open_154 ?_
  obtain ⟨q12, hV⟩ := hV
  obtain ⟨P13, t14, hV⟩ := hV
  refine g_cVI (pc := 157) X (As := []) ml_X11_186 rfl q12 t14 (by rw [hR]; exact ⟨by decide, by decide, by decide, by decide⟩) rfl rfl (Nat.zero_le _) dX11_open_157 (fun v17 h16 p15 => ?_)
  have hV := hV v17 h16 p15
  refine g_if_eq (pc := 160) X 174 dX11_open_160 (by decide) (fun c18 => ?_) (fun c18 => ?_)
  · have hV := hV.1 c18
    refine g_aload_n (pc := 174) X 0 rfl rfl dX11_open_174 ?_
    obtain ⟨P19, t20, hV⟩ := hV
    refine g_cVV (pc := 175) X (As := []) ml_X11_161 rfl q1 t20 (by rw [hR]; exact ⟨by decide, by decide, by decide, by decide⟩) rfl rfl (Nat.zero_le _) dX11_open_175 (fun h22 p21 => ?_)
    have hV := hV h22 p21
    refine g_aload_n (pc := 178) X 0 rfl rfl dX11_open_178 ?_
    refine g_getR (pc := 179) X fl_X11_18 q1 dX11_open_179 ?_
    obtain ⟨q23, hV⟩ := hV
    obtain ⟨P24, t25, hV⟩ := hV
    refine g_cVI (pc := 182) X (As := []) ml_X11_95 rfl q23 t25 (by rw [hR]; exact ⟨by decide, by decide, by decide, by decide⟩) rfl rfl (Nat.zero_le _) dX11_open_182 (fun v28 h27 p26 => ?_)
    have hV := hV v28 h27 p26
    exact g_iret (pc := 185) X Tt ⟨_, rfl, rfl, hV⟩ dX11_open_185
  · have hV := hV.2 c18
    refine g_bipush (pc := 163) (v := (-10 : Int32)) X dX11_open_163 (by decide) ?_
    refine g_aload_n (pc := 165) X 0 rfl rfl dX11_open_165 ?_
    refine g_getR (pc := 166) X fl_X11_77 q1 dX11_open_166 ?_
    obtain ⟨q29, hV⟩ := hV
    obtain ⟨P30, t31, hV⟩ := hV
    refine g_cVI (pc := 169) X (As := []) ml_X11_186 rfl q29 t31 (by rw [hR]; exact ⟨by decide, by decide, by decide, by decide⟩) rfl rfl (Nat.le_of_ble_eq_true rfl) dX11_open_169 (fun v34 h33 p32 => ?_)
    have hV := hV v34 h33 p32
    refine g_isub (pc := 172) X dX11_open_172 ?_
    exact g_iret (pc := 173) X Tt ⟨_, rfl, rfl, hV⟩ dX11_open_173
def V_X11_open_136 (w : Wd) (sh : List Sh) (x0 : Nat) (s0 : Int32) (s1 : Nat) (h : Hp)  (RET : Int32 → Hp → Prop) : Prop :=
  shAt sh s1 = some (.inr 7) ∧ (∃ P2 : Hp → Prop, C_X7_takeTable w sh s1 s0 h P2 ∧ (∀ h5 : Hp, P2 h5 → (V_X11_open_139 w sh x0 h5 RET)))
set_option maxRecDepth 20000 in
set_option maxHeartbeats 4000000 in
theorem W_X11_open_136 {w : Wd} {E : GE} {sh : List Sh} {x0 : Nat} {s0 : Int32} {s1 : Nat} {h : Hp}  {RET : Int32 → Hp → Prop} (X : Cx w E cX11_open 1 RX11) (Tt : Rt w E (some .int) sh.length 0 0 (fun q sh9 h9 => ∃ v : Int32, q = some (Value.int v) ∧ sh9 = sh ∧ RET v h9)) (hR : gR E = { frames := 7, cells := 0, slots := 0, locals := 167 }) (hV : V_X11_open_136 w sh x0 s0 s1 h RET) : G w E 1 136 [(0, rv w.2.2.2 x0)] [Value.int s0, rv w.2.2.2 s1] sh h 0 0 := by
  unfold V_X11_open_136 at hV
  obtain ⟨q1, hV⟩ := hV
  obtain ⟨P2, t3, hV⟩ := hV
  refine g_cVV (pc := 136) X (As := [Value.int s0]) ml_X11_189 rfl q1 t3 (by rw [hR]; exact ⟨by decide, by decide, by decide, by decide⟩) rfl rfl (Nat.zero_le _) dX11_open_136 (fun h5 p4 => ?_)
  have hV := hV h5 p4
  exact W_X11_open_139 X Tt hR hV
def V_X11_open_0 (w : Wd) (sh : List Sh) (x0 : Nat) (h : Hp)  (RET : Int32 → Hp → Prop) : Prop :=
  shAt sh x0 = some (.inr 11) ∧ (shAt sh (h.2.1 x0 5) = some (.inr 10) ∧ (shAt sh (h.2.1 x0 7) = some (.inr 10) ∧ (∃ P4 : Hp → Prop, C_X10_become w sh (h.2.1 x0 7) (h.2.1 (h.2.1 x0 5) 0) (4 : Int32) (3 : Int32) h P4 ∧ (∀ h7 : Hp, P4 h7 → (shAt sh (h7.2.1 x0 0) = some (.inr 8) ∧ (∃ P9 : Int32 → Hp → Prop, C_X8_length w sh (h7.2.1 x0 0) h7 P9 ∧ (∀ (v13 : Int32) (h12 : Hp), P9 v13 h12 → (shAt sh (h7.2.1 x0 10) = some (.inr 7) ∧ (∃ P15 : Hp → Prop, C_X7_begin w sh (h7.2.1 x0 10) (h7.2.1 x0 0) (0 : Int32) v13 (h12.2.1 x0 3) (h12.2.1 x0 2) h12 P15 ∧ (∀ h18 : Hp, P15 h18 → (shAt sh (h18.2.1 x0 10) = some (.inr 7) ∧ (∃ P20 : Hp → Prop, C_X7_readHead w sh (h18.2.1 x0 10) h18 P20 ∧ (∀ h23 : Hp, P20 h23 → (shAt sh (h23.2.1 x0 10) = some (.inr 7) ∧ (∃ P25 : Int32 → Hp → Prop, C_X7_wantsTable w sh (h23.2.1 x0 10) h23 P25 ∧ (∀ (v29 : Int32) (h28 : Hp), P25 v29 h28 → (((v29 = 0) → (V_X11_open_139 w sh x0 h28 RET)) ∧ ((¬ v29 = 0) → (shAt sh (h28.2.1 x0 10) = some (.inr 7) ∧ (∃ P32 : Int32 → Hp → Prop, C_X7_reached w sh (h28.2.1 x0 10) h28 P32 ∧ (∀ (v36 : Int32) (h35 : Hp), P32 v36 h35 → (shAt sh (h35.2.1 x0 10) = some (.inr 7) ∧ (∃ P38 : Int32 → Hp → Prop, C_X7_tableEnd w sh (h35.2.1 x0 10) h35 P38 ∧ (∀ (v42 : Int32) (h41 : Hp), P38 v42 h41 → (shAt sh (h41.2.1 x0 5) = some (.inr 10) ∧ (shAt sh (h28.2.1 x0 11) = some (.inr 7) ∧ (∃ P45 : Hp → Prop, C_X7_begin w sh (h28.2.1 x0 11) (h28.2.1 x0 0) v36 v42 (h41.2.1 (h41.2.1 x0 5) 0) (h41.2.1 x0 2) h41 P45 ∧ (∀ h48 : Hp, P45 h48 → (shAt sh (h48.2.1 x0 11) = some (.inr 7) ∧ (∃ P50 : Hp → Prop, C_X7_readHead w sh (h48.2.1 x0 11) h48 P50 ∧ (∀ h53 : Hp, P50 h53 → (shAt sh (h53.2.1 x0 11) = some (.inr 7) ∧ (∃ P55 : Hp → Prop, C_X7_readAppendix w sh (h53.2.1 x0 11) h53 P55 ∧ (∀ h58 : Hp, P55 h58 → (shAt sh (h58.2.1 x0 11) = some (.inr 7) ∧ (∃ P60 : Hp → Prop, C_X7_readWindows w sh (h58.2.1 x0 11) h58 P60 ∧ (∀ h63 : Hp, P60 h63 → (shAt sh (h63.2.1 x0 11) = some (.inr 7) ∧ (∃ P65 : Int32 → Hp → Prop, C_X7_faultFound w sh (h63.2.1 x0 11) h63 P65 ∧ (∀ (v69 : Int32) (h68 : Hp), P65 v69 h68 → (((¬ v69 = 0) → (V_X11_open_136 w sh x0 (0 : Int32) (h63.2.1 x0 10) h68 RET)) ∧ ((v69 = 0) → (V_X11_open_136 w sh x0 (1 : Int32) (h63.2.1 x0 10) h68 RET)))))))))))))))))))))))))))))))))))))))))))
set_option maxRecDepth 20000 in
set_option maxHeartbeats 4000000 in
theorem W_X11_open_0 {w : Wd} {E : GE} {sh : List Sh} {x0 : Nat} {h : Hp}  {RET : Int32 → Hp → Prop} (X : Cx w E cX11_open 1 RX11) (Tt : Rt w E (some .int) sh.length 0 0 (fun q sh9 h9 => ∃ v : Int32, q = some (Value.int v) ∧ sh9 = sh ∧ RET v h9)) (hR : gR E = { frames := 7, cells := 0, slots := 0, locals := 167 }) (hV : V_X11_open_0 w sh x0 h RET) : G w E 1 0 [(0, rv w.2.2.2 x0)] [] sh h 0 0 := by
  unfold V_X11_open_0 at hV
  refine g_aload_n (pc := 0) X 0 rfl rfl dX11_open_0 ?_
  obtain ⟨q1, hV⟩ := hV
  refine g_getR (pc := 1) X fl_X11_40 q1 dX11_open_1 ?_
  refine g_aload_n (pc := 4) X 0 rfl rfl dX11_open_4 ?_
  refine g_getR (pc := 5) X fl_X11_33 q1 dX11_open_5 ?_
  obtain ⟨q2, hV⟩ := hV
  refine g_getR (pc := 8) X fl_X11_127 q2 dX11_open_8 ?_
  refine g_iconst (pc := 11) (v := (4 : Int32)) X dX11_open_11 (by decide) ?_
  refine g_iconst (pc := 12) (v := (3 : Int32)) X dX11_open_12 (by decide) ?_
  obtain ⟨q3, hV⟩ := hV
  obtain ⟨P4, t5, hV⟩ := hV
  refine g_cVV (pc := 13) X (As := [rv w.2.2.2 (h.2.1 (h.2.1 x0 5) 0), Value.int (4 : Int32), Value.int (3 : Int32)]) ml_X11_130 rfl q3 t5 (by rw [hR]; exact ⟨by decide, by decide, by decide, by decide⟩) rfl rfl (Nat.zero_le _) dX11_open_13 (fun h7 p6 => ?_)
  have hV := hV h7 p6
  refine g_aload_n (pc := 16) X 0 rfl rfl dX11_open_16 ?_
  refine g_getR (pc := 17) X fl_X11_77 q1 dX11_open_17 ?_
  refine g_aload_n (pc := 20) X 0 rfl rfl dX11_open_20 ?_
  refine g_getR (pc := 21) X fl_X11_14 q1 dX11_open_21 ?_
  refine g_iconst (pc := 24) (v := (0 : Int32)) X dX11_open_24 (by decide) ?_
  refine g_aload_n (pc := 25) X 0 rfl rfl dX11_open_25 ?_
  refine g_getR (pc := 26) X fl_X11_14 q1 dX11_open_26 ?_
  obtain ⟨q8, hV⟩ := hV
  obtain ⟨P9, t10, hV⟩ := hV
  refine g_cVI (pc := 29) X (As := []) ml_X11_95 rfl q8 t10 (by rw [hR]; exact ⟨by decide, by decide, by decide, by decide⟩) rfl rfl (by simp [rv_cat, cat_int, cat_long]) dX11_open_29 (fun v13 h12 p11 => ?_)
  have hV := hV v13 h12 p11
  refine g_aload_n (pc := 32) X 0 rfl rfl dX11_open_32 ?_
  refine g_getR (pc := 33) X fl_X11_24 q1 dX11_open_33 ?_
  refine g_aload_n (pc := 36) X 0 rfl rfl dX11_open_36 ?_
  refine g_getR (pc := 37) X fl_X11_21 q1 dX11_open_37 ?_
  obtain ⟨q14, hV⟩ := hV
  obtain ⟨P15, t16, hV⟩ := hV
  refine g_cVV (pc := 40) X (As := [rv w.2.2.2 (h7.2.1 x0 0), Value.int (0 : Int32), Value.int v13, rv w.2.2.2 (h12.2.1 x0 3), rv w.2.2.2 (h12.2.1 x0 2)]) ml_X11_164 rfl q14 t16 (by rw [hR]; exact ⟨by decide, by decide, by decide, by decide⟩) rfl rfl (Nat.zero_le _) dX11_open_40 (fun h18 p17 => ?_)
  have hV := hV h18 p17
  refine g_aload_n (pc := 43) X 0 rfl rfl dX11_open_43 ?_
  refine g_getR (pc := 44) X fl_X11_77 q1 dX11_open_44 ?_
  obtain ⟨q19, hV⟩ := hV
  obtain ⟨P20, t21, hV⟩ := hV
  refine g_cVV (pc := 47) X (As := []) ml_X11_168 rfl q19 t21 (by rw [hR]; exact ⟨by decide, by decide, by decide, by decide⟩) rfl rfl (Nat.zero_le _) dX11_open_47 (fun h23 p22 => ?_)
  have hV := hV h23 p22
  refine g_aload_n (pc := 50) X 0 rfl rfl dX11_open_50 ?_
  refine g_getR (pc := 51) X fl_X11_77 q1 dX11_open_51 ?_
  obtain ⟨q24, hV⟩ := hV
  obtain ⟨P25, t26, hV⟩ := hV
  refine g_cVI (pc := 54) X (As := []) ml_X11_171 rfl q24 t26 (by rw [hR]; exact ⟨by decide, by decide, by decide, by decide⟩) rfl rfl (Nat.zero_le _) dX11_open_54 (fun v29 h28 p27 => ?_)
  have hV := hV v29 h28 p27
  refine g_if_eq (pc := 57) X 139 dX11_open_57 (by decide) (fun c30 => ?_) (fun c30 => ?_)
  · have hV := hV.1 c30
    exact W_X11_open_139 X Tt hR hV
  · have hV := hV.2 c30
    refine g_aload_n (pc := 60) X 0 rfl rfl dX11_open_60 ?_
    refine g_getR (pc := 61) X fl_X11_81 q1 dX11_open_61 ?_
    refine g_aload_n (pc := 64) X 0 rfl rfl dX11_open_64 ?_
    refine g_getR (pc := 65) X fl_X11_14 q1 dX11_open_65 ?_
    refine g_aload_n (pc := 68) X 0 rfl rfl dX11_open_68 ?_
    refine g_getR (pc := 69) X fl_X11_77 q1 dX11_open_69 ?_
    obtain ⟨q31, hV⟩ := hV
    obtain ⟨P32, t33, hV⟩ := hV
    refine g_cVI (pc := 72) X (As := []) ml_X11_174 rfl q31 t33 (by rw [hR]; exact ⟨by decide, by decide, by decide, by decide⟩) rfl rfl (by simp [rv_cat, cat_int, cat_long]) dX11_open_72 (fun v36 h35 p34 => ?_)
    have hV := hV v36 h35 p34
    refine g_aload_n (pc := 75) X 0 rfl rfl dX11_open_75 ?_
    refine g_getR (pc := 76) X fl_X11_77 q1 dX11_open_76 ?_
    obtain ⟨q37, hV⟩ := hV
    obtain ⟨P38, t39, hV⟩ := hV
    refine g_cVI (pc := 79) X (As := []) ml_X11_177 rfl q37 t39 (by rw [hR]; exact ⟨by decide, by decide, by decide, by decide⟩) rfl rfl (by simp [rv_cat, cat_int, cat_long]) dX11_open_79 (fun v42 h41 p40 => ?_)
    have hV := hV v42 h41 p40
    refine g_aload_n (pc := 82) X 0 rfl rfl dX11_open_82 ?_
    refine g_getR (pc := 83) X fl_X11_33 q1 dX11_open_83 ?_
    obtain ⟨q43, hV⟩ := hV
    refine g_getR (pc := 86) X fl_X11_127 q43 dX11_open_86 ?_
    refine g_aload_n (pc := 89) X 0 rfl rfl dX11_open_89 ?_
    refine g_getR (pc := 90) X fl_X11_21 q1 dX11_open_90 ?_
    obtain ⟨q44, hV⟩ := hV
    obtain ⟨P45, t46, hV⟩ := hV
    refine g_cVV (pc := 93) X (As := [rv w.2.2.2 (h28.2.1 x0 0), Value.int v36, Value.int v42, rv w.2.2.2 (h41.2.1 (h41.2.1 x0 5) 0), rv w.2.2.2 (h41.2.1 x0 2)]) ml_X11_164 rfl q44 t46 (by rw [hR]; exact ⟨by decide, by decide, by decide, by decide⟩) rfl rfl (Nat.zero_le _) dX11_open_93 (fun h48 p47 => ?_)
    have hV := hV h48 p47
    refine g_aload_n (pc := 96) X 0 rfl rfl dX11_open_96 ?_
    refine g_getR (pc := 97) X fl_X11_81 q1 dX11_open_97 ?_
    obtain ⟨q49, hV⟩ := hV
    obtain ⟨P50, t51, hV⟩ := hV
    refine g_cVV (pc := 100) X (As := []) ml_X11_168 rfl q49 t51 (by rw [hR]; exact ⟨by decide, by decide, by decide, by decide⟩) rfl rfl (Nat.zero_le _) dX11_open_100 (fun h53 p52 => ?_)
    have hV := hV h53 p52
    refine g_aload_n (pc := 103) X 0 rfl rfl dX11_open_103 ?_
    refine g_getR (pc := 104) X fl_X11_81 q1 dX11_open_104 ?_
    obtain ⟨q54, hV⟩ := hV
    obtain ⟨P55, t56, hV⟩ := hV
    refine g_cVV (pc := 107) X (As := []) ml_X11_180 rfl q54 t56 (by rw [hR]; exact ⟨by decide, by decide, by decide, by decide⟩) rfl rfl (Nat.zero_le _) dX11_open_107 (fun h58 p57 => ?_)
    have hV := hV h58 p57
    refine g_aload_n (pc := 110) X 0 rfl rfl dX11_open_110 ?_
    refine g_getR (pc := 111) X fl_X11_81 q1 dX11_open_111 ?_
    obtain ⟨q59, hV⟩ := hV
    obtain ⟨P60, t61, hV⟩ := hV
    refine g_cVV (pc := 114) X (As := []) ml_X11_183 rfl q59 t61 (by rw [hR]; exact ⟨by decide, by decide, by decide, by decide⟩) rfl rfl (Nat.zero_le _) dX11_open_114 (fun h63 p62 => ?_)
    have hV := hV h63 p62
    refine g_aload_n (pc := 117) X 0 rfl rfl dX11_open_117 ?_
    refine g_getR (pc := 118) X fl_X11_77 q1 dX11_open_118 ?_
    refine g_aload_n (pc := 121) X 0 rfl rfl dX11_open_121 ?_
    refine g_getR (pc := 122) X fl_X11_81 q1 dX11_open_122 ?_
    obtain ⟨q64, hV⟩ := hV
    obtain ⟨P65, t66, hV⟩ := hV
    refine g_cVI (pc := 125) X (As := []) ml_X11_186 rfl q64 t66 (by rw [hR]; exact ⟨by decide, by decide, by decide, by decide⟩) rfl rfl (by simp [rv_cat, cat_int, cat_long]) dX11_open_125 (fun v69 h68 p67 => ?_)
    have hV := hV v69 h68 p67
    refine g_if_ne (pc := 128) X 135 dX11_open_128 (by decide) (fun c70 => ?_) (fun c70 => ?_)
    · have hV := hV.1 c70
      refine g_iconst (pc := 135) (v := (0 : Int32)) X dX11_open_135 (by decide) ?_
      exact W_X11_open_136 X Tt hR hV
    · have hV := hV.2 c70
      refine g_iconst (pc := 131) (v := (1 : Int32)) X dX11_open_131 (by decide) ?_
      refine g_goto (pc := 132) X 136 dX11_open_132 (by decide) ?_
      exact W_X11_open_136 X Tt hR hV
def C_X11_open (w : Wd) (sh : List Sh) (x0 : Nat) (h : Hp) (RET : Int32 → Hp → Prop) : Prop := CI w yX11_open (.code yX11_open cX11_open 1 (some .int)) 7 167 [rv w.2.2.2 x0] sh h RET
theorem K_X11_open {w : Wd} {sh : List Sh} {x0 : Nat} {h : Hp} {RET : Int32 → Hp → Prop} (hV : V_X11_open_0 w sh x0 h RET) : C_X11_open w sh x0 h RET :=
  Ct_of (by decide +kernel) (by simp [lg_sl, rv_cat, cat_int, cat_long]) (fun E X Tt hR _ => by
    rw [show lv_args 0 [rv w.2.2.2 x0] = [(0, rv w.2.2.2 x0)] from by simp [lv_args, rv_cat, cat_int, cat_long]]
    refine g_lv [0] rfl ?_
    exact W_X11_open_0 X Tt hR hV)
def V_X11_place_0 (w : Wd) (sh : List Sh) (x0 : Nat) (h : Hp)  (RET : Int32 → Hp → Prop) : Prop :=
  shAt sh x0 = some (.inr 11) ∧ (shAt sh (h.2.1 x0 10) = some (.inr 7) ∧ (∃ P3 : Int32 → Hp → Prop, C_X7_faultPlace w sh (h.2.1 x0 10) h P3 ∧ (∀ (v7 : Int32) (h6 : Hp), P3 v7 h6 → (RET v7 h6))))
set_option maxRecDepth 20000 in
set_option maxHeartbeats 4000000 in
theorem W_X11_place_0 {w : Wd} {E : GE} {sh : List Sh} {x0 : Nat} {h : Hp}  {RET : Int32 → Hp → Prop} (X : Cx w E cX11_place 1 RX11) (Tt : Rt w E (some .int) sh.length 0 0 (fun q sh9 h9 => ∃ v : Int32, q = some (Value.int v) ∧ sh9 = sh ∧ RET v h9)) (hR : gR E = { frames := 1, cells := 0, slots := 0, locals := 20 }) (hV : V_X11_place_0 w sh x0 h RET) : G w E 1 0 [(0, rv w.2.2.2 x0)] [] sh h 0 0 := by
  unfold V_X11_place_0 at hV
  refine g_aload_n (pc := 0) X 0 rfl rfl dX11_place_0 ?_
  obtain ⟨q1, hV⟩ := hV
  refine g_getR (pc := 1) X fl_X11_77 q1 dX11_place_1 ?_
  obtain ⟨q2, hV⟩ := hV
  obtain ⟨P3, t4, hV⟩ := hV
  refine g_cVI (pc := 4) X (As := []) ml_X11_193 rfl q2 t4 (by rw [hR]; exact ⟨by decide, by decide, by decide, by decide⟩) rfl rfl (Nat.zero_le _) dX11_place_4 (fun v7 h6 p5 => ?_)
  have hV := hV v7 h6 p5
  exact g_iret (pc := 7) X Tt ⟨_, rfl, rfl, hV⟩ dX11_place_7
def C_X11_place (w : Wd) (sh : List Sh) (x0 : Nat) (h : Hp) (RET : Int32 → Hp → Prop) : Prop := CI w yX11_place (.code yX11_place cX11_place 1 (some .int)) 1 20 [rv w.2.2.2 x0] sh h RET
theorem K_X11_place {w : Wd} {sh : List Sh} {x0 : Nat} {h : Hp} {RET : Int32 → Hp → Prop} (hV : V_X11_place_0 w sh x0 h RET) : C_X11_place w sh x0 h RET :=
  Ct_of (by decide +kernel) (by simp [lg_sl, rv_cat, cat_int, cat_long]) (fun E X Tt hR _ => by
    rw [show lv_args 0 [rv w.2.2.2 x0] = [(0, rv w.2.2.2 x0)] from by simp [lv_args, rv_cat, cat_int, cat_long]]
    refine g_lv [0] rfl ?_
    exact W_X11_place_0 X Tt hR hV)
def V_X11_told_0 (w : Wd) (sh : List Sh) (x0 : Nat) (x1 : Int32) (h : Hp)  (RET : Int32 → Hp → Prop) : Prop :=
  ((¬ x1 = (8 : Int32)) → (((¬ x1 = (9 : Int32)) → (((x1 < 0) → (RET (-2 : Int32) h)) ∧ ((¬ x1 < 0) → (((x1 < (8 : Int32)) → (shAt sh x0 = some (.inr 11) ∧ (shAt sh (h.2.1 x0 8) = some (.inr 4) ∧ (∃ P7 : Int32 → Hp → Prop, C_X4_countOf w sh (h.2.1 x0 8) x1 h P7 ∧ (∀ (v11 : Int32) (h10 : Hp), P7 v11 h10 → (RET v11 h10)))))) ∧ ((¬ x1 < (8 : Int32)) → (RET (-2 : Int32) h)))))) ∧ ((x1 = (9 : Int32)) → (shAt sh x0 = some (.inr 11) ∧ (shAt sh (h.2.1 x0 7) = some (.inr 10) ∧ (RET (h.1 (h.2.1 x0 7) 2) h)))))) ∧ ((x1 = (8 : Int32)) → (shAt sh x0 = some (.inr 11) ∧ (shAt sh (h.2.1 x0 7) = some (.inr 10) ∧ (RET (h.1 (h.2.1 x0 7) 1) h))))
set_option maxRecDepth 20000 in
set_option maxHeartbeats 4000000 in
theorem W_X11_told_0 {w : Wd} {E : GE} {sh : List Sh} {x0 : Nat} {x1 : Int32} {h : Hp}  {RET : Int32 → Hp → Prop} (X : Cx w E cX11_told 2 RX11) (Tt : Rt w E (some .int) sh.length 0 0 (fun q sh9 h9 => ∃ v : Int32, q = some (Value.int v) ∧ sh9 = sh ∧ RET v h9)) (hR : gR E = { frames := 1, cells := 0, slots := 0, locals := 21 }) (hV : V_X11_told_0 w sh x0 x1 h RET) : G w E 2 0 [(0, rv w.2.2.2 x0), (1, Value.int x1)] [] sh h 0 0 := by
  unfold V_X11_told_0 at hV
  refine g_iload_n (pc := 0) X 1 rfl rfl dX11_told_0 ?_
  refine g_bipush (pc := 1) (v := (8 : Int32)) X dX11_told_1 (by decide) ?_
  refine g_icmp_ne (pc := 3) X 14 dX11_told_3 (by decide) (fun c1 => ?_) (fun c1 => ?_)
  · have hV := hV.1 c1
    refine g_iload_n (pc := 14) X 1 rfl rfl dX11_told_14 ?_
    refine g_bipush (pc := 15) (v := (9 : Int32)) X dX11_told_15 (by decide) ?_
    refine g_icmp_ne (pc := 17) X 28 dX11_told_17 (by decide) (fun c2 => ?_) (fun c2 => ?_)
    · have hV := hV.1 c2
      refine g_iload_n (pc := 28) X 1 rfl rfl dX11_told_28 ?_
      refine g_if_lt (pc := 29) X 38 dX11_told_29 (by decide) (fun c3 => ?_) (fun c3 => ?_)
      · have hV := hV.1 c3
        refine g_bipush (pc := 38) (v := (-2 : Int32)) X dX11_told_38 (by decide) ?_
        refine g_goto (pc := 40) X 51 dX11_told_40 (by decide) ?_
        exact g_iret (pc := 51) X Tt ⟨_, rfl, rfl, hV⟩ dX11_told_51
      · have hV := hV.2 c3
        refine g_iload_n (pc := 32) X 1 rfl rfl dX11_told_32 ?_
        refine g_bipush (pc := 33) (v := (8 : Int32)) X dX11_told_33 (by decide) ?_
        refine g_icmp_lt (pc := 35) X 43 dX11_told_35 (by decide) (fun c4 => ?_) (fun c4 => ?_)
        · have hV := hV.1 c4
          refine g_aload_n (pc := 43) X 0 rfl rfl dX11_told_43 ?_
          obtain ⟨q5, hV⟩ := hV
          refine g_getR (pc := 44) X fl_X11_46 q5 dX11_told_44 ?_
          refine g_iload_n (pc := 47) X 1 rfl rfl dX11_told_47 ?_
          obtain ⟨q6, hV⟩ := hV
          obtain ⟨P7, t8, hV⟩ := hV
          refine g_cVI (pc := 48) X (As := [Value.int x1]) ml_X11_203 rfl q6 t8 (by rw [hR]; exact ⟨by decide, by decide, by decide, by decide⟩) rfl rfl (Nat.zero_le _) dX11_told_48 (fun v11 h10 p9 => ?_)
          have hV := hV v11 h10 p9
          exact g_iret (pc := 51) X Tt ⟨_, rfl, rfl, hV⟩ dX11_told_51
        · have hV := hV.2 c4
          refine g_bipush (pc := 38) (v := (-2 : Int32)) X dX11_told_38 (by decide) ?_
          refine g_goto (pc := 40) X 51 dX11_told_40 (by decide) ?_
          exact g_iret (pc := 51) X Tt ⟨_, rfl, rfl, hV⟩ dX11_told_51
    · have hV := hV.2 c2
      refine g_aload_n (pc := 20) X 0 rfl rfl dX11_told_20 ?_
      obtain ⟨q12, hV⟩ := hV
      refine g_getR (pc := 21) X fl_X11_40 q12 dX11_told_21 ?_
      obtain ⟨q13, hV⟩ := hV
      refine g_getI (pc := 24) X fl_X11_200 q13 dX11_told_24 ?_
      exact g_iret (pc := 27) X Tt ⟨_, rfl, rfl, hV⟩ dX11_told_27
  · have hV := hV.2 c1
    refine g_aload_n (pc := 6) X 0 rfl rfl dX11_told_6 ?_
    obtain ⟨q14, hV⟩ := hV
    refine g_getR (pc := 7) X fl_X11_40 q14 dX11_told_7 ?_
    obtain ⟨q15, hV⟩ := hV
    refine g_getI (pc := 10) X fl_X11_196 q15 dX11_told_10 ?_
    exact g_iret (pc := 13) X Tt ⟨_, rfl, rfl, hV⟩ dX11_told_13
def C_X11_told (w : Wd) (sh : List Sh) (x0 : Nat) (x1 : Int32) (h : Hp) (RET : Int32 → Hp → Prop) : Prop := CI w yX11_told (.code yX11_told cX11_told 2 (some .int)) 1 21 [rv w.2.2.2 x0, Value.int x1] sh h RET
theorem K_X11_told {w : Wd} {sh : List Sh} {x0 : Nat} {x1 : Int32} {h : Hp} {RET : Int32 → Hp → Prop} (hV : V_X11_told_0 w sh x0 x1 h RET) : C_X11_told w sh x0 x1 h RET :=
  Ct_of (by decide +kernel) (by simp [lg_sl, rv_cat, cat_int, cat_long]) (fun E X Tt hR _ => by
    rw [show lv_args 0 [rv w.2.2.2 x0, Value.int x1] = [(0, rv w.2.2.2 x0), (1, Value.int x1)] from by simp [lv_args, rv_cat, cat_int, cat_long]]
    refine g_lv [0, 1] rfl ?_
    exact W_X11_told_0 X Tt hR hV)
def V_X11_instruction_0 (w : Wd) (sh : List Sh) (x0 : Nat) (x1 : Int32) (x2 : Int32) (h : Hp)  (RET : Int32 → Hp → Prop) : Prop :=
  ((x1 < 0) → (RET (-2 : Int32) h)) ∧ ((¬ x1 < 0) → (shAt sh x0 = some (.inr 11) ∧ (shAt sh (h.2.1 x0 8) = some (.inr 4) ∧ (∃ P4 : Int32 → Hp → Prop, C_X4_length w sh (h.2.1 x0 8) h P4 ∧ (∀ (v8 : Int32) (h7 : Hp), P4 v8 h7 → (((v8 ≤ x1) → (RET (-2 : Int32) h7)) ∧ ((¬ v8 ≤ x1) → (((x2 < 0) → (RET (-2 : Int32) h7)) ∧ ((¬ x2 < 0) → (((x2 < (4 : Int32)) → (shAt sh (h7.2.1 x0 8) = some (.inr 4) ∧ (∃ P13 : Int32 → Hp → Prop, C_X4_detail w sh (h7.2.1 x0 8) x1 x2 h7 P13 ∧ (∀ (v17 : Int32) (h16 : Hp), P13 v17 h16 → (RET v17 h16))))) ∧ ((¬ x2 < (4 : Int32)) → (RET (-2 : Int32) h7))))))))))))
set_option maxRecDepth 20000 in
set_option maxHeartbeats 4000000 in
theorem W_X11_instruction_0 {w : Wd} {E : GE} {sh : List Sh} {x0 : Nat} {x1 : Int32} {x2 : Int32} {h : Hp}  {RET : Int32 → Hp → Prop} (X : Cx w E cX11_instruction 3 RX11) (Tt : Rt w E (some .int) sh.length 0 0 (fun q sh9 h9 => ∃ v : Int32, q = some (Value.int v) ∧ sh9 = sh ∧ RET v h9)) (hR : gR E = { frames := 1, cells := 0, slots := 0, locals := 23 }) (hV : V_X11_instruction_0 w sh x0 x1 x2 h RET) : G w E 3 0 [(0, rv w.2.2.2 x0), (1, Value.int x1), (2, Value.int x2)] [] sh h 0 0 := by
  unfold V_X11_instruction_0 at hV
  refine g_iload_n (pc := 0) X 1 rfl rfl dX11_instruction_0 ?_
  refine g_if_lt (pc := 1) X 24 dX11_instruction_1 (by decide) (fun c1 => ?_) (fun c1 => ?_)
  · have hV := hV.1 c1
    refine g_bipush (pc := 24) (v := (-2 : Int32)) X dX11_instruction_24 (by decide) ?_
    exact g_iret (pc := 26) X Tt ⟨_, rfl, rfl, hV⟩ dX11_instruction_26
  · have hV := hV.2 c1
    refine g_iload_n (pc := 4) X 1 rfl rfl dX11_instruction_4 ?_
    refine g_aload_n (pc := 5) X 0 rfl rfl dX11_instruction_5 ?_
    obtain ⟨q2, hV⟩ := hV
    refine g_getR (pc := 6) X fl_X11_46 q2 dX11_instruction_6 ?_
    obtain ⟨q3, hV⟩ := hV
    obtain ⟨P4, t5, hV⟩ := hV
    refine g_cVI (pc := 9) X (As := []) ml_X11_206 rfl q3 t5 (by rw [hR]; exact ⟨by decide, by decide, by decide, by decide⟩) rfl rfl (Nat.le_of_ble_eq_true rfl) dX11_instruction_9 (fun v8 h7 p6 => ?_)
    have hV := hV v8 h7 p6
    refine g_icmp_ge (pc := 12) X 24 dX11_instruction_12 (by decide) (fun c9 => ?_) (fun c9 => ?_)
    · have hV := hV.1 c9
      refine g_bipush (pc := 24) (v := (-2 : Int32)) X dX11_instruction_24 (by decide) ?_
      exact g_iret (pc := 26) X Tt ⟨_, rfl, rfl, hV⟩ dX11_instruction_26
    · have hV := hV.2 c9
      refine g_iload_n (pc := 15) X 2 rfl rfl dX11_instruction_15 ?_
      refine g_if_lt (pc := 16) X 24 dX11_instruction_16 (by decide) (fun c10 => ?_) (fun c10 => ?_)
      · have hV := hV.1 c10
        refine g_bipush (pc := 24) (v := (-2 : Int32)) X dX11_instruction_24 (by decide) ?_
        exact g_iret (pc := 26) X Tt ⟨_, rfl, rfl, hV⟩ dX11_instruction_26
      · have hV := hV.2 c10
        refine g_iload_n (pc := 19) X 2 rfl rfl dX11_instruction_19 ?_
        refine g_iconst (pc := 20) (v := (4 : Int32)) X dX11_instruction_20 (by decide) ?_
        refine g_icmp_lt (pc := 21) X 27 dX11_instruction_21 (by decide) (fun c11 => ?_) (fun c11 => ?_)
        · have hV := hV.1 c11
          refine g_aload_n (pc := 27) X 0 rfl rfl dX11_instruction_27 ?_
          refine g_getR (pc := 28) X fl_X11_46 q2 dX11_instruction_28 ?_
          refine g_iload_n (pc := 31) X 1 rfl rfl dX11_instruction_31 ?_
          refine g_iload_n (pc := 32) X 2 rfl rfl dX11_instruction_32 ?_
          obtain ⟨q12, hV⟩ := hV
          obtain ⟨P13, t14, hV⟩ := hV
          refine g_cVI (pc := 33) X (As := [Value.int x1, Value.int x2]) ml_X11_207 rfl q12 t14 (by rw [hR]; exact ⟨by decide, by decide, by decide, by decide⟩) rfl rfl (Nat.zero_le _) dX11_instruction_33 (fun v17 h16 p15 => ?_)
          have hV := hV v17 h16 p15
          exact g_iret (pc := 36) X Tt ⟨_, rfl, rfl, hV⟩ dX11_instruction_36
        · have hV := hV.2 c11
          refine g_bipush (pc := 24) (v := (-2 : Int32)) X dX11_instruction_24 (by decide) ?_
          exact g_iret (pc := 26) X Tt ⟨_, rfl, rfl, hV⟩ dX11_instruction_26
def C_X11_instruction (w : Wd) (sh : List Sh) (x0 : Nat) (x1 : Int32) (x2 : Int32) (h : Hp) (RET : Int32 → Hp → Prop) : Prop := CI w yX11_instruction (.code yX11_instruction cX11_instruction 3 (some .int)) 1 23 [rv w.2.2.2 x0, Value.int x1, Value.int x2] sh h RET
theorem K_X11_instruction {w : Wd} {sh : List Sh} {x0 : Nat} {x1 : Int32} {x2 : Int32} {h : Hp} {RET : Int32 → Hp → Prop} (hV : V_X11_instruction_0 w sh x0 x1 x2 h RET) : C_X11_instruction w sh x0 x1 x2 h RET :=
  Ct_of (by decide +kernel) (by simp [lg_sl, rv_cat, cat_int, cat_long]) (fun E X Tt hR _ => by
    rw [show lv_args 0 [rv w.2.2.2 x0, Value.int x1, Value.int x2] = [(0, rv w.2.2.2 x0), (1, Value.int x1), (2, Value.int x2)] from by simp [lv_args, rv_cat, cat_int, cat_long]]
    refine g_lv [0, 1, 2] rfl ?_
    exact W_X11_instruction_0 X Tt hR hV)
def V_X11_table_0 (w : Wd) (sh : List Sh) (x0 : Nat) (x1 : Int32) (x2 : Int32) (h : Hp)  (RET : Int32 → Hp → Prop) : Prop :=
  ∃ P1 : Int32 → Hp → Prop, C_X11_isEntry w sh x1 x2 h P1 ∧ (∀ (v5 : Int32) (h4 : Hp), P1 v5 h4 → (((v5 = 0) → (RET (-2 : Int32) h4)) ∧ ((¬ v5 = 0) → (shAt sh x0 = some (.inr 11) ∧ (shAt sh (h4.2.1 x0 7) = some (.inr 10) ∧ (∃ P9 : Int32 → Hp → Prop, C_X10_get w sh (h4.2.1 x0 7) x1 x2 h4 P9 ∧ (∀ (v13 : Int32) (h12 : Hp), P9 v13 h12 → (RET v13 h12))))))))
set_option maxRecDepth 20000 in
set_option maxHeartbeats 4000000 in
theorem W_X11_table_0 {w : Wd} {E : GE} {sh : List Sh} {x0 : Nat} {x1 : Int32} {x2 : Int32} {h : Hp}  {RET : Int32 → Hp → Prop} (X : Cx w E cX11_table 3 RX11) (Tt : Rt w E (some .int) sh.length 0 0 (fun q sh9 h9 => ∃ v : Int32, q = some (Value.int v) ∧ sh9 = sh ∧ RET v h9)) (hR : gR E = { frames := 2, cells := 0, slots := 0, locals := 43 }) (hV : V_X11_table_0 w sh x0 x1 x2 h RET) : G w E 3 0 [(0, rv w.2.2.2 x0), (1, Value.int x1), (2, Value.int x2)] [] sh h 0 0 := by
  unfold V_X11_table_0 at hV
  refine g_iload_n (pc := 0) X 1 rfl rfl dX11_table_0 ?_
  refine g_iload_n (pc := 1) X 2 rfl rfl dX11_table_1 ?_
  obtain ⟨P1, t2, hV⟩ := hV
  refine g_cSI (pc := 2) X (As := [Value.int x1, Value.int x2]) ml_X11_133 t2 (by rw [hR]; exact ⟨by decide, by decide, by decide, by decide⟩) rfl rfl (Nat.zero_le _) dX11_table_2 (fun v5 h4 p3 => ?_)
  have hV := hV v5 h4 p3
  refine g_if_eq (pc := 5) X 20 dX11_table_5 (by decide) (fun c6 => ?_) (fun c6 => ?_)
  · have hV := hV.1 c6
    refine g_bipush (pc := 20) (v := (-2 : Int32)) X dX11_table_20 (by decide) ?_
    exact g_iret (pc := 22) X Tt ⟨_, rfl, rfl, hV⟩ dX11_table_22
  · have hV := hV.2 c6
    refine g_aload_n (pc := 8) X 0 rfl rfl dX11_table_8 ?_
    obtain ⟨q7, hV⟩ := hV
    refine g_getR (pc := 9) X fl_X11_40 q7 dX11_table_9 ?_
    refine g_iload_n (pc := 12) X 1 rfl rfl dX11_table_12 ?_
    refine g_iload_n (pc := 13) X 2 rfl rfl dX11_table_13 ?_
    obtain ⟨q8, hV⟩ := hV
    obtain ⟨P9, t10, hV⟩ := hV
    refine g_cVI (pc := 14) X (As := [Value.int x1, Value.int x2]) ml_X11_137 rfl q8 t10 (by rw [hR]; exact ⟨by decide, by decide, by decide, by decide⟩) rfl rfl (Nat.zero_le _) dX11_table_14 (fun v13 h12 p11 => ?_)
    have hV := hV v13 h12 p11
    refine g_goto (pc := 17) X 22 dX11_table_17 (by decide) ?_
    exact g_iret (pc := 22) X Tt ⟨_, rfl, rfl, hV⟩ dX11_table_22
def C_X11_table (w : Wd) (sh : List Sh) (x0 : Nat) (x1 : Int32) (x2 : Int32) (h : Hp) (RET : Int32 → Hp → Prop) : Prop := CI w yX11_table (.code yX11_table cX11_table 3 (some .int)) 2 43 [rv w.2.2.2 x0, Value.int x1, Value.int x2] sh h RET
theorem K_X11_table {w : Wd} {sh : List Sh} {x0 : Nat} {x1 : Int32} {x2 : Int32} {h : Hp} {RET : Int32 → Hp → Prop} (hV : V_X11_table_0 w sh x0 x1 x2 h RET) : C_X11_table w sh x0 x1 x2 h RET :=
  Ct_of (by decide +kernel) (by simp [lg_sl, rv_cat, cat_int, cat_long]) (fun E X Tt hR _ => by
    rw [show lv_args 0 [rv w.2.2.2 x0, Value.int x1, Value.int x2] = [(0, rv w.2.2.2 x0), (1, Value.int x1), (2, Value.int x2)] from by simp [lv_args, rv_cat, cat_int, cat_long]]
    refine g_lv [0, 1, 2] rfl ?_
    exact W_X11_table_0 X Tt hR hV)
def V_X11_cache_28 (w : Wd) (sh : List Sh) (x0 : Nat) (x1 : Int32) (x2 : Int32) (h : Hp)  (RET : Int32 → Hp → Prop) : Prop :=
  ((¬ x1 = (1 : Int32)) → (RET (-2 : Int32) h)) ∧ ((x1 = (1 : Int32)) → (((x2 < 0) → (RET (-2 : Int32) h)) ∧ ((¬ x2 < 0) → (shAt sh x0 = some (.inr 11) ∧ (shAt sh (h.2.1 x0 9) = some (.inr 0) ∧ ((((h.1 (h.2.1 x0 9) 3) ≤ x2) → (RET (-2 : Int32) h)) ∧ ((¬ (h.1 (h.2.1 x0 9) 3) ≤ x2) → (∃ P6 : Int32 → Hp → Prop, C_X0_sameAt w sh (h.2.1 x0 9) x2 h P6 ∧ (∀ (v10 : Int32) (h9 : Hp), P6 v10 h9 → (RET v10 h9))))))))))
set_option maxRecDepth 20000 in
set_option maxHeartbeats 4000000 in
theorem W_X11_cache_28 {w : Wd} {E : GE} {sh : List Sh} {x0 : Nat} {x1 : Int32} {x2 : Int32} {h : Hp}  {RET : Int32 → Hp → Prop} (X : Cx w E cX11_cache 3 RX11) (Tt : Rt w E (some .int) sh.length 0 0 (fun q sh9 h9 => ∃ v : Int32, q = some (Value.int v) ∧ sh9 = sh ∧ RET v h9)) (hR : gR E = { frames := 1, cells := 0, slots := 0, locals := 21 }) (hV : V_X11_cache_28 w sh x0 x1 x2 h RET) : G w E 3 28 [(0, rv w.2.2.2 x0), (1, Value.int x1), (2, Value.int x2)] [] sh h 0 0 := by
  unfold V_X11_cache_28 at hV
  refine g_iload_n (pc := 28) X 1 rfl rfl dX11_cache_28 ?_
  refine g_iconst (pc := 29) (v := (1 : Int32)) X dX11_cache_29 (by decide) ?_
  refine g_icmp_ne (pc := 30) X 57 dX11_cache_30 (by decide) (fun c1 => ?_) (fun c1 => ?_)
  · have hV := hV.1 c1
    refine g_bipush (pc := 57) (v := (-2 : Int32)) X dX11_cache_57 (by decide) ?_
    exact g_iret (pc := 59) X Tt ⟨_, rfl, rfl, hV⟩ dX11_cache_59
  · have hV := hV.2 c1
    refine g_iload_n (pc := 33) X 2 rfl rfl dX11_cache_33 ?_
    refine g_if_lt (pc := 34) X 57 dX11_cache_34 (by decide) (fun c2 => ?_) (fun c2 => ?_)
    · have hV := hV.1 c2
      refine g_bipush (pc := 57) (v := (-2 : Int32)) X dX11_cache_57 (by decide) ?_
      exact g_iret (pc := 59) X Tt ⟨_, rfl, rfl, hV⟩ dX11_cache_59
    · have hV := hV.2 c2
      refine g_iload_n (pc := 37) X 2 rfl rfl dX11_cache_37 ?_
      refine g_aload_n (pc := 38) X 0 rfl rfl dX11_cache_38 ?_
      obtain ⟨q3, hV⟩ := hV
      refine g_getR (pc := 39) X fl_X11_55 q3 dX11_cache_39 ?_
      obtain ⟨q4, hV⟩ := hV
      refine g_getI (pc := 42) X fl_X11_216 q4 dX11_cache_42 ?_
      refine g_icmp_ge (pc := 45) X 57 dX11_cache_45 (by decide) (fun c5 => ?_) (fun c5 => ?_)
      · have hV := hV.1 c5
        refine g_bipush (pc := 57) (v := (-2 : Int32)) X dX11_cache_57 (by decide) ?_
        exact g_iret (pc := 59) X Tt ⟨_, rfl, rfl, hV⟩ dX11_cache_59
      · have hV := hV.2 c5
        refine g_aload_n (pc := 48) X 0 rfl rfl dX11_cache_48 ?_
        refine g_getR (pc := 49) X fl_X11_55 q3 dX11_cache_49 ?_
        refine g_iload_n (pc := 52) X 2 rfl rfl dX11_cache_52 ?_
        obtain ⟨P6, t7, hV⟩ := hV
        refine g_cVI (pc := 53) X (As := [Value.int x2]) ml_X11_219 rfl q4 t7 (by rw [hR]; exact ⟨by decide, by decide, by decide, by decide⟩) rfl rfl (Nat.zero_le _) dX11_cache_53 (fun v10 h9 p8 => ?_)
        have hV := hV v10 h9 p8
        exact g_iret (pc := 56) X Tt ⟨_, rfl, rfl, hV⟩ dX11_cache_56
def V_X11_cache_0 (w : Wd) (sh : List Sh) (x0 : Nat) (x1 : Int32) (x2 : Int32) (h : Hp)  (RET : Int32 → Hp → Prop) : Prop :=
  ((¬ x1 = 0) → (V_X11_cache_28 w sh x0 x1 x2 h RET)) ∧ ((x1 = 0) → (((x2 < 0) → (V_X11_cache_28 w sh x0 x1 x2 h RET)) ∧ ((¬ x2 < 0) → (shAt sh x0 = some (.inr 11) ∧ (shAt sh (h.2.1 x0 9) = some (.inr 0) ∧ ((((h.1 (h.2.1 x0 9) 2) ≤ x2) → (V_X11_cache_28 w sh x0 x1 x2 h RET)) ∧ ((¬ (h.1 (h.2.1 x0 9) 2) ≤ x2) → (∃ P6 : Int32 → Hp → Prop, C_X0_nearAt w sh (h.2.1 x0 9) x2 h P6 ∧ (∀ (v10 : Int32) (h9 : Hp), P6 v10 h9 → (RET v10 h9))))))))))
set_option maxRecDepth 20000 in
set_option maxHeartbeats 4000000 in
theorem W_X11_cache_0 {w : Wd} {E : GE} {sh : List Sh} {x0 : Nat} {x1 : Int32} {x2 : Int32} {h : Hp}  {RET : Int32 → Hp → Prop} (X : Cx w E cX11_cache 3 RX11) (Tt : Rt w E (some .int) sh.length 0 0 (fun q sh9 h9 => ∃ v : Int32, q = some (Value.int v) ∧ sh9 = sh ∧ RET v h9)) (hR : gR E = { frames := 1, cells := 0, slots := 0, locals := 21 }) (hV : V_X11_cache_0 w sh x0 x1 x2 h RET) : G w E 3 0 [(0, rv w.2.2.2 x0), (1, Value.int x1), (2, Value.int x2)] [] sh h 0 0 := by
  unfold V_X11_cache_0 at hV
  refine g_iload_n (pc := 0) X 1 rfl rfl dX11_cache_0 ?_
  refine g_if_ne (pc := 1) X 28 dX11_cache_1 (by decide) (fun c1 => ?_) (fun c1 => ?_)
  · have hV := hV.1 c1
    exact W_X11_cache_28 X Tt hR hV
  · have hV := hV.2 c1
    refine g_iload_n (pc := 4) X 2 rfl rfl dX11_cache_4 ?_
    refine g_if_lt (pc := 5) X 28 dX11_cache_5 (by decide) (fun c2 => ?_) (fun c2 => ?_)
    · have hV := hV.1 c2
      exact W_X11_cache_28 X Tt hR hV
    · have hV := hV.2 c2
      refine g_iload_n (pc := 8) X 2 rfl rfl dX11_cache_8 ?_
      refine g_aload_n (pc := 9) X 0 rfl rfl dX11_cache_9 ?_
      obtain ⟨q3, hV⟩ := hV
      refine g_getR (pc := 10) X fl_X11_55 q3 dX11_cache_10 ?_
      obtain ⟨q4, hV⟩ := hV
      refine g_getI (pc := 13) X fl_X11_210 q4 dX11_cache_13 ?_
      refine g_icmp_ge (pc := 16) X 28 dX11_cache_16 (by decide) (fun c5 => ?_) (fun c5 => ?_)
      · have hV := hV.1 c5
        exact W_X11_cache_28 X Tt hR hV
      · have hV := hV.2 c5
        refine g_aload_n (pc := 19) X 0 rfl rfl dX11_cache_19 ?_
        refine g_getR (pc := 20) X fl_X11_55 q3 dX11_cache_20 ?_
        refine g_iload_n (pc := 23) X 2 rfl rfl dX11_cache_23 ?_
        obtain ⟨P6, t7, hV⟩ := hV
        refine g_cVI (pc := 24) X (As := [Value.int x2]) ml_X11_213 rfl q4 t7 (by rw [hR]; exact ⟨by decide, by decide, by decide, by decide⟩) rfl rfl (Nat.zero_le _) dX11_cache_24 (fun v10 h9 p8 => ?_)
        have hV := hV v10 h9 p8
        exact g_iret (pc := 27) X Tt ⟨_, rfl, rfl, hV⟩ dX11_cache_27
def C_X11_cache (w : Wd) (sh : List Sh) (x0 : Nat) (x1 : Int32) (x2 : Int32) (h : Hp) (RET : Int32 → Hp → Prop) : Prop := CI w yX11_cache (.code yX11_cache cX11_cache 3 (some .int)) 1 21 [rv w.2.2.2 x0, Value.int x1, Value.int x2] sh h RET
theorem K_X11_cache {w : Wd} {sh : List Sh} {x0 : Nat} {x1 : Int32} {x2 : Int32} {h : Hp} {RET : Int32 → Hp → Prop} (hV : V_X11_cache_0 w sh x0 x1 x2 h RET) : C_X11_cache w sh x0 x1 x2 h RET :=
  Ct_of (by decide +kernel) (by simp [lg_sl, rv_cat, cat_int, cat_long]) (fun E X Tt hR _ => by
    rw [show lv_args 0 [rv w.2.2.2 x0, Value.int x1, Value.int x2] = [(0, rv w.2.2.2 x0), (1, Value.int x1), (2, Value.int x2)] from by simp [lv_args, rv_cat, cat_int, cat_long]]
    refine g_lv [0, 1, 2] rfl ?_
    exact W_X11_cache_0 X Tt hR hV)
