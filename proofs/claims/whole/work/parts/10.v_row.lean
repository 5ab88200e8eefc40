def V_X8_clear_0 (w : Wd) (sh : List Sh) (x0 : Nat) (h : Hp)  (RET : Hp → Prop) : Prop :=
  shAt sh x0 = some (.inr 8) ∧ (∀ h2 : Hp, h2 = wI h x0 1 (0 : Int32) → (∀ h4 : Hp, h4 = wI h2 x0 2 (0 : Int32) → (RET h4)))
set_option maxRecDepth 20000 in
set_option maxHeartbeats 4000000 in
theorem W_X8_clear_0 {w : Wd} {E : GE} {sh : List Sh} {x0 : Nat} {h : Hp}  {RET : Hp → Prop} (X : Cx w E cX8_clear 1 RX8) (Tt : Rt w E none sh.length 0 0 (fun q sh9 h9 => q = none ∧ sh9 = sh ∧ RET h9)) (hR : gR E = { frames := 0, cells := 0, slots := 0, locals := 0 }) (hV : V_X8_clear_0 w sh x0 h RET) : G w E 1 0 [(0, rv w.2.2.2 x0)] [] sh h 0 0 := by
  unfold V_X8_clear_0 at hV
  refine g_aload_n (pc := 0) X 0 rfl rfl dX8_clear_0 ?_
  refine g_iconst (pc := 1) (v := (0 : Int32)) X dX8_clear_1 (by decide) ?_
  obtain ⟨q1, hV⟩ := hV
  refine g_putI (pc := 2) X fl_X8_19 q1 rfl rfl dX8_clear_2 (fun h2 e3 => ?_)
  have hV := hV h2 e3
  refine g_aload_n (pc := 5) X 0 rfl rfl dX8_clear_5 ?_
  refine g_iconst (pc := 6) (v := (0 : Int32)) X dX8_clear_6 (by decide) ?_
  refine g_putI (pc := 7) X fl_X8_23 q1 rfl rfl dX8_clear_7 (fun h4 e5 => ?_)
  have hV := hV h4 e5
  exact g_vret (pc := 10) X Tt ⟨rfl, rfl, hV⟩ dX8_clear_10
def C_X8_clear (w : Wd) (sh : List Sh) (x0 : Nat) (h : Hp) (RET : Hp → Prop) : Prop := CV w yX8_clear (.code yX8_clear cX8_clear 1 none) 0 0 [rv w.2.2.2 x0] sh h RET
theorem K_X8_clear {w : Wd} {sh : List Sh} {x0 : Nat} {h : Hp} {RET : Hp → Prop} (hV : V_X8_clear_0 w sh x0 h RET) : C_X8_clear w sh x0 h RET :=
  Ct_of (by decide +kernel) (by simp [lg_sl, rv_cat, cat_int, cat_long]) (fun E X Tt hR _ => by
    rw [show lv_args 0 [rv w.2.2.2 x0] = [(0, rv w.2.2.2 x0)] from by simp [lv_args, rv_cat, cat_int, cat_long]]
    refine g_lv [0] rfl ?_
    exact W_X8_clear_0 X Tt hR hV)
def V_X8_push_0 (w : Wd) (sh : List Sh) (x0 : Nat) (x1 : Int32) (h : Hp)  (RET : Hp → Prop) : Prop :=
  shAt sh x0 = some (.inr 8) ∧ (∃ n3 : Nat, shAt sh (h.2.1 x0 0) = some (.inl (0, n3)) ∧ ((((Int32.ofNat n3) ≤ (h.1 x0 1)) → (∀ h5 : Hp, h5 = wI h x0 2 (1 : Int32) → (RET h5))) ∧ ((¬ (Int32.ofNat n3) ≤ (h.1 x0 1)) → (vp_in (h.1 x0 1) n3 ∧ (∀ h8 : Hp, h8 = wI h (h.2.1 x0 0) (h.1 x0 1).toNatClampNeg (b8 x1) → (∀ h10 : Hp, h10 = wI h8 x0 1 ((h8.1 x0 1) + (1 : Int32)) → (RET h10)))))))
set_option maxRecDepth 20000 in
set_option maxHeartbeats 4000000 in
theorem W_X8_push_0 {w : Wd} {E : GE} {sh : List Sh} {x0 : Nat} {x1 : Int32} {h : Hp}  {RET : Hp → Prop} (X : Cx w E cX8_push 2 RX8) (Tt : Rt w E none sh.length 0 0 (fun q sh9 h9 => q = none ∧ sh9 = sh ∧ RET h9)) (hR : gR E = { frames := 0, cells := 0, slots := 0, locals := 0 }) (hV : V_X8_push_0 w sh x0 x1 h RET) : G w E 2 0 [(0, rv w.2.2.2 x0), (1, Value.int x1)] [] sh h 0 0 := by
  unfold V_X8_push_0 at hV
  refine g_aload_n (pc := 0) X 0 rfl rfl dX8_push_0 ?_
  obtain ⟨q1, hV⟩ := hV
  refine g_getI (pc := 1) X fl_X8_19 q1 dX8_push_1 ?_
  refine g_aload_n (pc := 4) X 0 rfl rfl dX8_push_4 ?_
  refine g_getR (pc := 5) X fl_X8_13 q1 dX8_push_5 ?_
  obtain ⟨n3, q2, hV⟩ := hV
  refine g_len (pc := 8) X (t := 0) (by decide) q2 dX8_push_8 ?_
  refine g_icmp_ge (pc := 9) X 36 dX8_push_9 (by decide) (fun c4 => ?_) (fun c4 => ?_)
  · have hV := hV.1 c4
    refine g_aload_n (pc := 36) X 0 rfl rfl dX8_push_36 ?_
    refine g_iconst (pc := 37) (v := (1 : Int32)) X dX8_push_37 (by decide) ?_
    refine g_putI (pc := 38) X fl_X8_23 q1 rfl rfl dX8_push_38 (fun h5 e6 => ?_)
    have hV := hV h5 e6
    exact g_vret (pc := 41) X Tt ⟨rfl, rfl, hV⟩ dX8_push_41
  · have hV := hV.2 c4
    refine g_aload_n (pc := 12) X 0 rfl rfl dX8_push_12 ?_
    refine g_getR (pc := 13) X fl_X8_13 q1 dX8_push_13 ?_
    refine g_aload_n (pc := 16) X 0 rfl rfl dX8_push_16 ?_
    refine g_getI (pc := 17) X fl_X8_19 q1 dX8_push_17 ?_
    refine g_iload_n (pc := 20) X 1 rfl rfl dX8_push_20 ?_
    refine g_i2b (pc := 21) X dX8_push_21 ?_
    obtain ⟨q7, hV⟩ := hV
    refine g_bast (pc := 22) X q2 q7 dX8_push_22 (fun h8 e9 => ?_)
    have hV := hV h8 e9
    refine g_aload_n (pc := 23) X 0 rfl rfl dX8_push_23 ?_
    refine g_dup (pc := 24) X dX8_push_24 (rv_cat _ _) ?_
    refine g_getI (pc := 25) X fl_X8_19 q1 dX8_push_25 ?_
    refine g_iconst (pc := 28) (v := (1 : Int32)) X dX8_push_28 (by decide) ?_
    refine g_iadd (pc := 29) X dX8_push_29 ?_
    refine g_putI (pc := 30) X fl_X8_19 q1 rfl rfl dX8_push_30 (fun h10 e11 => ?_)
    have hV := hV h10 e11
    refine g_goto (pc := 33) X 41 dX8_push_33 (by decide) ?_
    exact g_vret (pc := 41) X Tt ⟨rfl, rfl, hV⟩ dX8_push_41
def C_X8_push (w : Wd) (sh : List Sh) (x0 : Nat) (x1 : Int32) (h : Hp) (RET : Hp → Prop) : Prop := CV w yX8_push (.code yX8_push cX8_push 2 none) 0 0 [rv w.2.2.2 x0, Value.int x1] sh h RET
theorem K_X8_push {w : Wd} {sh : List Sh} {x0 : Nat} {x1 : Int32} {h : Hp} {RET : Hp → Prop} (hV : V_X8_push_0 w sh x0 x1 h RET) : C_X8_push w sh x0 x1 h RET :=
  Ct_of (by decide +kernel) (by simp [lg_sl, rv_cat, cat_int, cat_long]) (fun E X Tt hR _ => by
    rw [show lv_args 0 [rv w.2.2.2 x0, Value.int x1] = [(0, rv w.2.2.2 x0), (1, Value.int x1)] from by simp [lv_args, rv_cat, cat_int, cat_long]]
    refine g_lv [0, 1] rfl ?_
    exact W_X8_push_0 X Tt hR hV)
def V_X8_put_0 (w : Wd) (sh : List Sh) (x0 : Nat) (x1 : Int32) (x2 : Int32) (h : Hp)  (RET : Hp → Prop) : Prop :=
  ((x1 < 0) → (RET h)) ∧ ((¬ x1 < 0) → (shAt sh x0 = some (.inr 8) ∧ ((((h.1 x0 1) ≤ x1) → (RET h)) ∧ ((¬ (h.1 x0 1) ≤ x1) → (∃ n5 : Nat, shAt sh (h.2.1 x0 0) = some (.inl (0, n5)) ∧ (vp_in x1 n5 ∧ (∀ h7 : Hp, h7 = wI h (h.2.1 x0 0) x1.toNatClampNeg (b8 x2) → (RET h7))))))))
set_option maxRecDepth 20000 in
set_option maxHeartbeats 4000000 in
theorem W_X8_put_0 {w : Wd} {E : GE} {sh : List Sh} {x0 : Nat} {x1 : Int32} {x2 : Int32} {h : Hp}  {RET : Hp → Prop} (X : Cx w E cX8_put 3 RX8) (Tt : Rt w E none sh.length 0 0 (fun q sh9 h9 => q = none ∧ sh9 = sh ∧ RET h9)) (hR : gR E = { frames := 0, cells := 0, slots := 0, locals := 0 }) (hV : V_X8_put_0 w sh x0 x1 x2 h RET) : G w E 3 0 [(0, rv w.2.2.2 x0), (1, Value.int x1), (2, Value.int x2)] [] sh h 0 0 := by
  unfold V_X8_put_0 at hV
  refine g_iload_n (pc := 0) X 1 rfl rfl dX8_put_0 ?_
  refine g_if_lt (pc := 1) X 20 dX8_put_1 (by decide) (fun c1 => ?_) (fun c1 => ?_)
  · have hV := hV.1 c1
    exact g_vret (pc := 20) X Tt ⟨rfl, rfl, hV⟩ dX8_put_20
  · have hV := hV.2 c1
    refine g_iload_n (pc := 4) X 1 rfl rfl dX8_put_4 ?_
    refine g_aload_n (pc := 5) X 0 rfl rfl dX8_put_5 ?_
    obtain ⟨q2, hV⟩ := hV
    refine g_getI (pc := 6) X fl_X8_19 q2 dX8_put_6 ?_
    refine g_icmp_ge (pc := 9) X 20 dX8_put_9 (by decide) (fun c3 => ?_) (fun c3 => ?_)
    · have hV := hV.1 c3
      exact g_vret (pc := 20) X Tt ⟨rfl, rfl, hV⟩ dX8_put_20
    · have hV := hV.2 c3
      refine g_aload_n (pc := 12) X 0 rfl rfl dX8_put_12 ?_
      refine g_getR (pc := 13) X fl_X8_13 q2 dX8_put_13 ?_
      refine g_iload_n (pc := 16) X 1 rfl rfl dX8_put_16 ?_
      refine g_iload_n (pc := 17) X 2 rfl rfl dX8_put_17 ?_
      refine g_i2b (pc := 18) X dX8_put_18 ?_
      obtain ⟨n5, q4, hV⟩ := hV
      obtain ⟨q6, hV⟩ := hV
      refine g_bast (pc := 19) X q4 q6 dX8_put_19 (fun h7 e8 => ?_)
      have hV := hV h7 e8
      exact g_vret (pc := 20) X Tt ⟨rfl, rfl, hV⟩ dX8_put_20
def C_X8_put (w : Wd) (sh : List Sh) (x0 : Nat) (x1 : Int32) (x2 : Int32) (h : Hp) (RET : Hp → Prop) : Prop := CV w yX8_put (.code yX8_put cX8_put 3 none) 0 0 [rv w.2.2.2 x0, Value.int x1, Value.int x2] sh h RET
theorem K_X8_put {w : Wd} {sh : List Sh} {x0 : Nat} {x1 : Int32} {x2 : Int32} {h : Hp} {RET : Hp → Prop} (hV : V_X8_put_0 w sh x0 x1 x2 h RET) : C_X8_put w sh x0 x1 x2 h RET :=
  Ct_of (by decide +kernel) (by simp [lg_sl, rv_cat, cat_int, cat_long]) (fun E X Tt hR _ => by
    rw [show lv_args 0 [rv w.2.2.2 x0, Value.int x1, Value.int x2] = [(0, rv w.2.2.2 x0), (1, Value.int x1), (2, Value.int x2)] from by simp [lv_args, rv_cat, cat_int, cat_long]]
    refine g_lv [0, 1, 2] rfl ?_
    exact W_X8_put_0 X Tt hR hV)
def V_J7_fill_53178_5 (w : Wd) (sh : List Sh) (x0 : Nat) (x1 : Int32) (x2 : Int32) (x3 : Int32) (h : Hp) (L5 : Nat → Int32 → Int32 → Int32 → Hp → Prop) (RET : Hp → Prop) : Prop :=
  ((x3 ≤ x2) → (RET h)) ∧ ((¬ x3 ≤ x2) → (∃ n3 : Nat, shAt sh x0 = some (.inl (1, n3)) ∧ (vp_in x2 n3 ∧ (∀ h5 : Hp, h5 = wI h x0 x2.toNatClampNeg x1 → (∀ y7 : Int32, y7 = x2 + (1 : Int32) → (L5 x0 x1 y7 x3 h5))))))
set_option maxRecDepth 20000 in
set_option maxHeartbeats 4000000 in
theorem W_J7_fill_53178_5 {w : Wd} {E : GE} {sh : List Sh} {x0 : Nat} {x1 : Int32} {x2 : Int32} {x3 : Int32} {h : Hp} {L5 : Nat → Int32 → Int32 → Int32 → Hp → Prop} {RET : Hp → Prop} (X : Cx w E cJ7_fill_53178 4 RJ7) (Tt : Rt w E none sh.length 0 0 (fun q sh9 h9 => q = none ∧ sh9 = sh ∧ RET h9)) (hR : gR E = { frames := 0, cells := 0, slots := 0, locals := 0 }) (hL5 : ∀ (x0 : Nat) (x1 : Int32) (x2 : Int32) (x3 : Int32) (h : Hp), L5 x0 x1 x2 x3 h → G w E 4 5 [(0, rv w.2.2.2 x0), (1, Value.int x1), (2, Value.int x2), (3, Value.int x3)] [] sh h 0 0) (hV : V_J7_fill_53178_5 w sh x0 x1 x2 x3 h L5 RET) : G w E 4 5 [(0, rv w.2.2.2 x0), (1, Value.int x1), (2, Value.int x2), (3, Value.int x3)] [] sh h 0 0 := by
  unfold V_J7_fill_53178_5 at hV
  refine g_iload_n (pc := 5) X 2 rfl rfl dJ7_fill_53178_5 ?_
  refine g_iload_n (pc := 6) X 3 rfl rfl dJ7_fill_53178_6 ?_
  refine g_icmp_ge (pc := 7) X 20 dJ7_fill_53178_7 (by decide) (fun c1 => ?_) (fun c1 => ?_)
  · have hV := hV.1 c1
    exact g_vret (pc := 20) X Tt ⟨rfl, rfl, hV⟩ dJ7_fill_53178_20
  · have hV := hV.2 c1
    refine g_aload_n (pc := 10) X 0 rfl rfl dJ7_fill_53178_10 ?_
    refine g_iload_n (pc := 11) X 2 rfl rfl dJ7_fill_53178_11 ?_
    refine g_iload_n (pc := 12) X 1 rfl rfl dJ7_fill_53178_12 ?_
    obtain ⟨n3, q2, hV⟩ := hV
    obtain ⟨q4, hV⟩ := hV
    refine g_iast (pc := 13) X q2 q4 dJ7_fill_53178_13 (fun h5 e6 => ?_)
    have hV := hV h5 e6
    refine g_iinc (pc := 14) X 2 (v := (1 : Int32)) (rest := [(0, rv w.2.2.2 x0), (1, Value.int x1), (3, Value.int x3)]) rfl (by decide) rfl (by decide) dJ7_fill_53178_14 (fun y7 e8 => ?_)
    have hV := hV y7 e8
    refine g_goto (pc := 17) X 5 dJ7_fill_53178_17 (by decide) ?_
    refine g_lv [1, 2, 0, 3] rfl ?_
    exact hL5 x0 x1 y7 x3 h5 hV
def V_J7_fill_53178_0 (w : Wd) (sh : List Sh) (x0 : Nat) (x1 : Int32) (h : Hp) (L5 : Nat → Int32 → Int32 → Int32 → Hp → Prop) (RET : Hp → Prop) : Prop :=
  ∀ y1 : Int32, y1 = (0 : Int32) → (∃ n4 : Nat, shAt sh x0 = some (.inl (1, n4)) ∧ (∀ y5 : Int32, y5 = (Int32.ofNat n4) → (L5 x0 x1 y1 y5 h)))
set_option maxRecDepth 20000 in
set_option maxHeartbeats 4000000 in
theorem W_J7_fill_53178_0 {w : Wd} {E : GE} {sh : List Sh} {x0 : Nat} {x1 : Int32} {h : Hp} {L5 : Nat → Int32 → Int32 → Int32 → Hp → Prop} {RET : Hp → Prop} (X : Cx w E cJ7_fill_53178 4 RJ7) (Tt : Rt w E none sh.length 0 0 (fun q sh9 h9 => q = none ∧ sh9 = sh ∧ RET h9)) (hR : gR E = { frames := 0, cells := 0, slots := 0, locals := 0 }) (hL5 : ∀ (x0 : Nat) (x1 : Int32) (x2 : Int32) (x3 : Int32) (h : Hp), L5 x0 x1 x2 x3 h → G w E 4 5 [(0, rv w.2.2.2 x0), (1, Value.int x1), (2, Value.int x2), (3, Value.int x3)] [] sh h 0 0) (hV : V_J7_fill_53178_0 w sh x0 x1 h L5 RET) : G w E 4 0 [(0, rv w.2.2.2 x0), (1, Value.int x1)] [] sh h 0 0 := by
  unfold V_J7_fill_53178_0 at hV
  refine g_iconst (pc := 0) (v := (0 : Int32)) X dJ7_fill_53178_0 (by decide) ?_
  refine g_istore_n (pc := 1) X (i := 2) (rest := [(0, rv w.2.2.2 x0), (1, Value.int x1)]) rfl (by decide) rfl dJ7_fill_53178_1 (fun y1 e2 => ?_)
  have hV := hV y1 e2
  refine g_aload_n (pc := 2) X 1 rfl rfl dJ7_fill_53178_2 ?_
  obtain ⟨n4, q3, hV⟩ := hV
  refine g_len (pc := 3) X (t := 1) (by decide) q3 dJ7_fill_53178_3 ?_
  refine g_istore_n (pc := 4) X (i := 3) (rest := [(2, Value.int y1), (0, rv w.2.2.2 x0), (1, Value.int x1)]) rfl (by decide) rfl dJ7_fill_53178_4 (fun y5 e6 => ?_)
  have hV := hV y5 e6
  refine g_lv [2, 3, 1, 0] rfl ?_
  exact hL5 x0 x1 y1 y5 h hV
def C_J7_fill_53178 (w : Wd) (sh : List Sh) (x0 : Nat) (x1 : Int32) (h : Hp) (RET : Hp → Prop) : Prop := CV w yJ7_fill_53178 (.code yJ7_fill_53178 cJ7_fill_53178 4 none) 0 0 [rv w.2.2.2 x0, Value.int x1] sh h RET
set_option maxRecDepth 20000 in
theorem K_J7_fill_53178 {w : Wd} {sh : List Sh} {x0 : Nat} {x1 : Int32} {h : Hp} {RET : Hp → Prop} {α : Type} {r : α → α → Prop} (wf : WellFounded r) (I5 : α → Nat → Int32 → Int32 → Int32 → Hp → Prop) (hE : V_J7_fill_53178_0 w sh x0 x1 h (fun x0 x1 x2 x3 h => ∃ a, I5 a x0 x1 x2 x3 h) RET) (h5 : ∀ (b : α) (x0 : Nat) (x1 : Int32) (x2 : Int32) (x3 : Int32) (h : Hp), I5 b x0 x1 x2 x3 h → V_J7_fill_53178_5 w sh x0 x1 x2 x3 h (fun x0 x1 x2 x3 h => ∃ a, r a b ∧ I5 a x0 x1 x2 x3 h) RET) : C_J7_fill_53178 w sh x0 x1 h RET :=
  Ct_of (by decide +kernel) (by simp [lg_sl, rv_cat, cat_int, cat_long]) (fun E X Tt hR _ => by
    have key : ∀ a : α, (∀ (x0 : Nat) (x1 : Int32) (x2 : Int32) (x3 : Int32) (h : Hp), I5 a x0 x1 x2 x3 h → G w E 4 5 [(0, rv w.2.2.2 x0), (1, Value.int x1), (2, Value.int x2), (3, Value.int x3)] [] sh h 0 0) := by
      intro a
      induction a using wf.induction with
      | _ a ih =>
        exact (fun x0 x1 x2 x3 h hi => W_J7_fill_53178_5 X Tt hR (fun x0 x1 x2 x3 h hx => by obtain ⟨a2, ha, hi⟩ := hx; exact (ih a2 ha) x0 x1 x2 x3 h hi) (h5 a x0 x1 x2 x3 h hi))
    rw [show lv_args 0 [rv w.2.2.2 x0, Value.int x1] = [(0, rv w.2.2.2 x0), (1, Value.int x1)] from by simp [lv_args, rv_cat, cat_int, cat_long]]
    refine g_lv [0, 1] rfl ?_
    exact W_J7_fill_53178_0 X Tt hR (fun x0 x1 x2 x3 h hx => by obtain ⟨a2, hi⟩ := hx; exact (key a2) x0 x1 x2 x3 h hi) hE)
def V_X8_room_0 (w : Wd) (sh : List Sh) (x0 : Nat) (h : Hp)  (RET : Int32 → Hp → Prop) : Prop :=
  shAt sh x0 = some (.inr 8) ∧ (∃ n3 : Nat, shAt sh (h.2.1 x0 0) = some (.inl (0, n3)) ∧ (RET ((Int32.ofNat n3) - (h.1 x0 1)) h))
set_option maxRecDepth 20000 in
set_option maxHeartbeats 4000000 in
theorem W_X8_room_0 {w : Wd} {E : GE} {sh : List Sh} {x0 : Nat} {h : Hp}  {RET : Int32 → Hp → Prop} (X : Cx w E cX8_room 1 RX8) (Tt : Rt w E (some .int) sh.length 0 0 (fun q sh9 h9 => ∃ v : Int32, q = some (Value.int v) ∧ sh9 = sh ∧ RET v h9)) (hR : gR E = { frames := 0, cells := 0, slots := 0, locals := 0 }) (hV : V_X8_room_0 w sh x0 h RET) : G w E 1 0 [(0, rv w.2.2.2 x0)] [] sh h 0 0 := by
  unfold V_X8_room_0 at hV
  refine g_aload_n (pc := 0) X 0 rfl rfl dX8_room_0 ?_
  obtain ⟨q1, hV⟩ := hV
  refine g_getR (pc := 1) X fl_X8_13 q1 dX8_room_1 ?_
  obtain ⟨n3, q2, hV⟩ := hV
  refine g_len (pc := 4) X (t := 0) (by decide) q2 dX8_room_4 ?_
  refine g_aload_n (pc := 5) X 0 rfl rfl dX8_room_5 ?_
  refine g_getI (pc := 6) X fl_X8_19 q1 dX8_room_6 ?_
  refine g_isub (pc := 9) X dX8_room_9 ?_
  exact g_iret (pc := 10) X Tt ⟨_, rfl, rfl, hV⟩ dX8_room_10
def C_X8_room (w : Wd) (sh : List Sh) (x0 : Nat) (h : Hp) (RET : Int32 → Hp → Prop) : Prop := CI w yX8_room (.code yX8_room cX8_room 1 (some .int)) 0 0 [rv w.2.2.2 x0] sh h RET
theorem K_X8_room {w : Wd} {sh : List Sh} {x0 : Nat} {h : Hp} {RET : Int32 → Hp → Prop} (hV : V_X8_room_0 w sh x0 h RET) : C_X8_room w sh x0 h RET :=
  Ct_of (by decide +kernel) (by simp [lg_sl, rv_cat, cat_int, cat_long]) (fun E X Tt hR _ => by
    rw [show lv_args 0 [rv w.2.2.2 x0] = [(0, rv w.2.2.2 x0)] from by simp [lv_args, rv_cat, cat_int, cat_long]]
    refine g_lv [0] rfl ?_
    exact W_X8_room_0 X Tt hR hV)
def V_X8_pushLowest_5 (w : Wd) (sh : List Sh) (x0 : Nat) (x1 : Int64) (x4 : Int32) (h : Hp) (L5 : Nat → Int64 → Int32 → Hp → Prop) (RET : Hp → Prop) : Prop :=
  ((x4 < 0) → (RET h)) ∧ ((¬ x4 < 0) → (shAt sh x0 = some (.inr 8) ∧ (∃ P3 : Hp → Prop, C_X8_push w sh x0 (((x1.toUInt64 >>> (((8 : Int32) * x4).toInt64.toUInt64 &&& Int64.toUInt64 63)).toInt64).toInt32) h P3 ∧ (∀ h6 : Hp, P3 h6 → (∀ y7 : Int32, y7 = x4 + (-1 : Int32) → (L5 x0 x1 y7 h6))))))
set_option maxRecDepth 20000 in
set_option maxHeartbeats 4000000 in
theorem W_X8_pushLowest_5 {w : Wd} {E : GE} {sh : List Sh} {x0 : Nat} {x1 : Int64} {x4 : Int32} {h : Hp} {L5 : Nat → Int64 → Int32 → Hp → Prop} {RET : Hp → Prop} (X : Cx w E cX8_pushLowest 5 RX8) (Tt : Rt w E none sh.length 0 0 (fun q sh9 h9 => q = none ∧ sh9 = sh ∧ RET h9)) (hR : gR E = { frames := 1, cells := 0, slots := 0, locals := 21 }) (hL5 : ∀ (x0 : Nat) (x1 : Int64) (x4 : Int32) (h : Hp), L5 x0 x1 x4 h → G w E 5 5 [(0, rv w.2.2.2 x0), (1, Value.long x1), (4, Value.int x4)] [] sh h 0 0) (hV : V_X8_pushLowest_5 w sh x0 x1 x4 h L5 RET) : G w E 5 5 [(0, rv w.2.2.2 x0), (1, Value.long x1), (4, Value.int x4)] [] sh h 0 0 := by
  unfold V_X8_pushLowest_5 at hV
  refine g_iload (pc := 5) X 2 rfl dX8_pushLowest_5 ?_
  refine g_if_lt (pc := 7) X 28 dX8_pushLowest_7 (by decide) (fun c1 => ?_) (fun c1 => ?_)
  · have hV := hV.1 c1
    exact g_vret (pc := 28) X Tt ⟨rfl, rfl, hV⟩ dX8_pushLowest_28
  · have hV := hV.2 c1
    refine g_aload_n (pc := 10) X 0 rfl rfl dX8_pushLowest_10 ?_
    refine g_lload_n (pc := 11) X 1 rfl rfl dX8_pushLowest_11 ?_
    refine g_bipush (pc := 12) (v := (8 : Int32)) X dX8_pushLowest_12 (by decide) ?_
    refine g_iload (pc := 14) X 2 rfl dX8_pushLowest_14 ?_
    refine g_imul (pc := 16) X dX8_pushLowest_16 ?_
    refine g_lushr (pc := 17) X dX8_pushLowest_17 ?_
    refine g_l2i (pc := 18) X dX8_pushLowest_18 ?_
    obtain ⟨q2, hV⟩ := hV
    obtain ⟨P3, t4, hV⟩ := hV
    refine g_cVV (pc := 19) X (As := [Value.int (((x1.toUInt64 >>> (((8 : Int32) * x4).toInt64.toUInt64 &&& Int64.toUInt64 63)).toInt64).toInt32)]) ml_X8_27 rfl q2 t4 (by rw [hR]; exact ⟨by decide, by decide, by decide, by decide⟩) rfl rfl (Nat.zero_le _) dX8_pushLowest_19 (fun h6 p5 => ?_)
    have hV := hV h6 p5
    refine g_iinc (pc := 22) X 2 (v := (-1 : Int32)) (rest := [(0, rv w.2.2.2 x0), (1, Value.long x1)]) rfl (by decide) rfl (by decide) dX8_pushLowest_22 (fun y7 e8 => ?_)
    have hV := hV y7 e8
    refine g_goto (pc := 25) X 5 dX8_pushLowest_25 (by decide) ?_
    refine g_lv [1, 2, 0] rfl ?_
    exact hL5 x0 x1 y7 h6 hV
def V_X8_pushLowest_0 (w : Wd) (sh : List Sh) (x0 : Nat) (x1 : Int64) (x3 : Int32) (h : Hp) (L5 : Nat → Int64 → Int32 → Hp → Prop) (RET : Hp → Prop) : Prop :=
  ∀ y1 : Int32, y1 = (x3 - (1 : Int32)) → (L5 x0 x1 y1 h)
set_option maxRecDepth 20000 in
set_option maxHeartbeats 4000000 in
theorem W_X8_pushLowest_0 {w : Wd} {E : GE} {sh : List Sh} {x0 : Nat} {x1 : Int64} {x3 : Int32} {h : Hp} {L5 : Nat → Int64 → Int32 → Hp → Prop} {RET : Hp → Prop} (X : Cx w E cX8_pushLowest 5 RX8) (Tt : Rt w E none sh.length 0 0 (fun q sh9 h9 => q = none ∧ sh9 = sh ∧ RET h9)) (hR : gR E = { frames := 1, cells := 0, slots := 0, locals := 21 }) (hL5 : ∀ (x0 : Nat) (x1 : Int64) (x4 : Int32) (h : Hp), L5 x0 x1 x4 h → G w E 5 5 [(0, rv w.2.2.2 x0), (1, Value.long x1), (4, Value.int x4)] [] sh h 0 0) (hV : V_X8_pushLowest_0 w sh x0 x1 x3 h L5 RET) : G w E 5 0 [(0, rv w.2.2.2 x0), (1, Value.long x1), (3, Value.int x3)] [] sh h 0 0 := by
  unfold V_X8_pushLowest_0 at hV
  refine g_iload_n (pc := 0) X 2 rfl rfl dX8_pushLowest_0 ?_
  refine g_iconst (pc := 1) (v := (1 : Int32)) X dX8_pushLowest_1 (by decide) ?_
  refine g_isub (pc := 2) X dX8_pushLowest_2 ?_
  refine g_istore (pc := 3) X (i := 4) (rest := [(0, rv w.2.2.2 x0), (1, Value.long x1), (3, Value.int x3)]) (by decide) rfl dX8_pushLowest_3 (fun y1 e2 => ?_)
  have hV := hV y1 e2
  refine g_lv [1, 2, 0] rfl ?_
  exact hL5 x0 x1 y1 h hV
def C_X8_pushLowest (w : Wd) (sh : List Sh) (x0 : Nat) (x1 : Int64) (x3 : Int32) (h : Hp) (RET : Hp → Prop) : Prop := CV w yX8_pushLowest (.code yX8_pushLowest cX8_pushLowest 5 none) 1 21 [rv w.2.2.2 x0, Value.long x1, Value.int x3] sh h RET
set_option maxRecDepth 20000 in
theorem K_X8_pushLowest {w : Wd} {sh : List Sh} {x0 : Nat} {x1 : Int64} {x3 : Int32} {h : Hp} {RET : Hp → Prop} {α : Type} {r : α → α → Prop} (wf : WellFounded r) (I5 : α → Nat → Int64 → Int32 → Hp → Prop) (hE : V_X8_pushLowest_0 w sh x0 x1 x3 h (fun x0 x1 x4 h => ∃ a, I5 a x0 x1 x4 h) RET) (h5 : ∀ (b : α) (x0 : Nat) (x1 : Int64) (x4 : Int32) (h : Hp), I5 b x0 x1 x4 h → V_X8_pushLowest_5 w sh x0 x1 x4 h (fun x0 x1 x4 h => ∃ a, r a b ∧ I5 a x0 x1 x4 h) RET) : C_X8_pushLowest w sh x0 x1 x3 h RET :=
  Ct_of (by decide +kernel) (by simp [lg_sl, rv_cat, cat_int, cat_long]) (fun E X Tt hR _ => by
    have key : ∀ a : α, (∀ (x0 : Nat) (x1 : Int64) (x4 : Int32) (h : Hp), I5 a x0 x1 x4 h → G w E 5 5 [(0, rv w.2.2.2 x0), (1, Value.long x1), (4, Value.int x4)] [] sh h 0 0) := by
      intro a
      induction a using wf.induction with
      | _ a ih =>
        exact (fun x0 x1 x4 h hi => W_X8_pushLowest_5 X Tt hR (fun x0 x1 x4 h hx => by obtain ⟨a2, ha, hi⟩ := hx; exact (ih a2 ha) x0 x1 x4 h hi) (h5 a x0 x1 x4 h hi))
    rw [show lv_args 0 [rv w.2.2.2 x0, Value.long x1, Value.int x3] = [(0, rv w.2.2.2 x0), (1, Value.long x1), (3, Value.int x3)] from by simp [lv_args, rv_cat, cat_int, cat_long]]
    refine g_lv [0, 1, 2] rfl ?_
    exact W_X8_pushLowest_0 X Tt hR (fun x0 x1 x4 h hx => by obtain ⟨a2, hi⟩ := hx; exact (key a2) x0 x1 x4 h hi) hE)
def V_X8_length_0 (w : Wd) (sh : List Sh) (x0 : Nat) (h : Hp)  (RET : Int32 → Hp → Prop) : Prop :=
  shAt sh x0 = some (.inr 8) ∧ (RET (h.1 x0 1) h)
set_option maxRecDepth 20000 in
set_option maxHeartbeats 4000000 in
theorem W_X8_length_0 {w : Wd} {E : GE} {sh : List Sh} {x0 : Nat} {h : Hp}  {RET : Int32 → Hp → Prop} (X : Cx w E cX8_length 1 RX8) (Tt : Rt w E (some .int) sh.length 0 0 (fun q sh9 h9 => ∃ v : Int32, q = some (Value.int v) ∧ sh9 = sh ∧ RET v h9)) (hR : gR E = { frames := 0, cells := 0, slots := 0, locals := 0 }) (hV : V_X8_length_0 w sh x0 h RET) : G w E 1 0 [(0, rv w.2.2.2 x0)] [] sh h 0 0 := by
  unfold V_X8_length_0 at hV
  refine g_aload_n (pc := 0) X 0 rfl rfl dX8_length_0 ?_
  obtain ⟨q1, hV⟩ := hV
  refine g_getI (pc := 1) X fl_X8_19 q1 dX8_length_1 ?_
  exact g_iret (pc := 4) X Tt ⟨_, rfl, rfl, hV⟩ dX8_length_4
def C_X8_length (w : Wd) (sh : List Sh) (x0 : Nat) (h : Hp) (RET : Int32 → Hp → Prop) : Prop := CI w yX8_length (.code yX8_length cX8_length 1 (some .int)) 0 0 [rv w.2.2.2 x0] sh h RET
theorem K_X8_length {w : Wd} {sh : List Sh} {x0 : Nat} {h : Hp} {RET : Int32 → Hp → Prop} (hV : V_X8_length_0 w sh x0 h RET) : C_X8_length w sh x0 h RET :=
  Ct_of (by decide +kernel) (by simp [lg_sl, rv_cat, cat_int, cat_long]) (fun E X Tt hR _ => by
    rw [show lv_args 0 [rv w.2.2.2 x0] = [(0, rv w.2.2.2 x0)] from by simp [lv_args, rv_cat, cat_int, cat_long]]
    refine g_lv [0] rfl ?_
    exact W_X8_length_0 X Tt hR hV)
def V_X8_append_0 (w : Wd) (sh : List Sh) (x0 : Nat) (x1 : Nat) (x2 : Int32) (x3 : Int32) (h : Hp)  (RET : Hp → Prop) : Prop :=
  ((x2 < 0) → (RET h)) ∧ ((¬ x2 < 0) → (((x3 < 0) → (RET h)) ∧ ((¬ x3 < 0) → (shAt sh x1 = some (.inr 8) ∧ ((((h.1 x1 1) < x3) → (RET h)) ∧ ((¬ (h.1 x1 1) < x3) → (((x2 ≤ ((h.1 x1 1) - x3)) → (shAt sh x0 = some (.inr 8) ∧ (∃ P7 : Int32 → Hp → Prop, C_X8_room w sh x0 h P7 ∧ (∀ (v11 : Int32) (h10 : Hp), P7 v11 h10 → (∀ y12 : Int32, y12 = (if v11 < x3 then v11 else x3) → (∃ n15 : Nat, shAt sh (h10.2.1 x1 0) = some (.inl (0, n15)) ∧ (∃ n17 : Nat, shAt sh (h10.2.1 x0 0) = some (.inl (0, n17)) ∧ ((¬ x2 < 0 ∧ ¬ (h10.1 x0 1) < 0 ∧ ¬ y12 < 0 ∧ x2.toNatClampNeg + y12.toNatClampNeg ≤ n15 ∧ (h10.1 x0 1).toNatClampNeg + y12.toNatClampNeg ≤ n17) ∧ (∀ h19 : Hp, h19 = wA h10 (h10.2.1 x0 0) (va_cpy (h10.1 (h10.2.1 x1 0)) (h10.1 (h10.2.1 x0 0)) x2.toNatClampNeg (h10.1 x0 1).toNatClampNeg y12.toNatClampNeg) → (∀ h21 : Hp, h21 = wI h19 x0 1 ((h19.1 x0 1) + y12) → (((¬ (h21.1 x0 2) = 0) → (∀ h24 : Hp, h24 = wI h21 x0 2 (1 : Int32) → (RET h24))) ∧ (((h21.1 x0 2) = 0) → (((x3 ≤ y12) → (∀ h27 : Hp, h27 = wI h21 x0 2 (0 : Int32) → (RET h27))) ∧ ((¬ x3 ≤ y12) → (∀ h29 : Hp, h29 = wI h21 x0 2 (1 : Int32) → (RET h29)))))))))))))))) ∧ ((¬ x2 ≤ ((h.1 x1 1) - x3)) → (RET h)))))))))
set_option maxRecDepth 20000 in
set_option maxHeartbeats 4000000 in
theorem W_X8_append_0 {w : Wd} {E : GE} {sh : List Sh} {x0 : Nat} {x1 : Nat} {x2 : Int32} {x3 : Int32} {h : Hp}  {RET : Hp → Prop} (X : Cx w E cX8_append 5 RX8) (Tt : Rt w E none sh.length 0 0 (fun q sh9 h9 => q = none ∧ sh9 = sh ∧ RET h9)) (hR : gR E = { frames := 1, cells := 0, slots := 0, locals := 40 }) (hV : V_X8_append_0 w sh x0 x1 x2 x3 h RET) : G w E 5 0 [(0, rv w.2.2.2 x0), (1, rv w.2.2.2 x1), (2, Value.int x2), (3, Value.int x3)] [] sh h 0 0 := by
  unfold V_X8_append_0 at hV
  refine g_iload_n (pc := 0) X 2 rfl rfl dX8_append_0 ?_
  refine g_if_lt (pc := 1) X 26 dX8_append_1 (by decide) (fun c1 => ?_) (fun c1 => ?_)
  · have hV := hV.1 c1
    exact g_vret (pc := 26) X Tt ⟨rfl, rfl, hV⟩ dX8_append_26
  · have hV := hV.2 c1
    refine g_iload_n (pc := 4) X 3 rfl rfl dX8_append_4 ?_
    refine g_if_lt (pc := 5) X 26 dX8_append_5 (by decide) (fun c2 => ?_) (fun c2 => ?_)
    · have hV := hV.1 c2
      exact g_vret (pc := 26) X Tt ⟨rfl, rfl, hV⟩ dX8_append_26
    · have hV := hV.2 c2
      refine g_iload_n (pc := 8) X 3 rfl rfl dX8_append_8 ?_
      refine g_aload_n (pc := 9) X 1 rfl rfl dX8_append_9 ?_
      obtain ⟨q3, hV⟩ := hV
      refine g_getI (pc := 10) X fl_X8_19 q3 dX8_append_10 ?_
      refine g_icmp_gt (pc := 13) X 26 dX8_append_13 (by decide) (fun c4 => ?_) (fun c4 => ?_)
      · have hV := hV.1 c4
        exact g_vret (pc := 26) X Tt ⟨rfl, rfl, hV⟩ dX8_append_26
      · have hV := hV.2 c4
        refine g_iload_n (pc := 16) X 2 rfl rfl dX8_append_16 ?_
        refine g_aload_n (pc := 17) X 1 rfl rfl dX8_append_17 ?_
        refine g_getI (pc := 18) X fl_X8_19 q3 dX8_append_18 ?_
        refine g_iload_n (pc := 21) X 3 rfl rfl dX8_append_21 ?_
        refine g_isub (pc := 22) X dX8_append_22 ?_
        refine g_icmp_le (pc := 23) X 27 dX8_append_23 (by decide) (fun c5 => ?_) (fun c5 => ?_)
        · have hV := hV.1 c5
          refine g_iload_n (pc := 27) X 3 rfl rfl dX8_append_27 ?_
          refine g_aload_n (pc := 28) X 0 rfl rfl dX8_append_28 ?_
          obtain ⟨q6, hV⟩ := hV
          obtain ⟨P7, t8, hV⟩ := hV
          refine g_cVI (pc := 29) X (As := []) ml_X8_37 rfl q6 t8 (by rw [hR]; exact ⟨by decide, by decide, by decide, by decide⟩) rfl rfl (Nat.le_of_ble_eq_true rfl) dX8_append_29 (fun v11 h10 p9 => ?_)
          have hV := hV v11 h10 p9
          refine g_mmin (pc := 32) X wm_X8_41 ws_min wi_Math wc_min (by rw [hR]; exact ⟨by decide, by simp [rv_cat, cat_int, cat_long], by decide, by decide⟩) dX8_append_32 ?_
          refine g_istore (pc := 35) X (i := 4) (rest := [(0, rv w.2.2.2 x0), (1, rv w.2.2.2 x1), (2, Value.int x2), (3, Value.int x3)]) (by decide) rfl dX8_append_35 (fun y12 e13 => ?_)
          have hV := hV y12 e13
          refine g_aload_n (pc := 37) X 2 rfl rfl dX8_append_37 ?_
          refine g_getR (pc := 38) X fl_X8_13 q3 dX8_append_38 ?_
          refine g_iload_n (pc := 41) X 3 rfl rfl dX8_append_41 ?_
          refine g_aload_n (pc := 42) X 1 rfl rfl dX8_append_42 ?_
          refine g_getR (pc := 43) X fl_X8_13 q6 dX8_append_43 ?_
          refine g_aload_n (pc := 46) X 1 rfl rfl dX8_append_46 ?_
          refine g_getI (pc := 47) X fl_X8_19 q6 dX8_append_47 ?_
          refine g_iload (pc := 50) X 0 rfl dX8_append_50 ?_
          obtain ⟨n15, q14, hV⟩ := hV
          obtain ⟨n17, q16, hV⟩ := hV
          obtain ⟨q18, hV⟩ := hV
          refine g_copyb (pc := 52) X wm_X8_44 wn_copy ws_copy wi_System q14 q16 q18.1 q18.2.1 q18.2.2.1 q18.2.2.2.1 q18.2.2.2.2 (by rw [hR]; exact ⟨by decide, by decide⟩) dX8_append_52 (fun h19 e20 => ?_)
          have hV := hV h19 e20
          refine g_aload_n (pc := 55) X 1 rfl rfl dX8_append_55 ?_
          refine g_dup (pc := 56) X dX8_append_56 (rv_cat _ _) ?_
          refine g_getI (pc := 57) X fl_X8_19 q6 dX8_append_57 ?_
          refine g_iload (pc := 60) X 0 rfl dX8_append_60 ?_
          refine g_iadd (pc := 62) X dX8_append_62 ?_
          refine g_putI (pc := 63) X fl_X8_19 q6 rfl rfl dX8_append_63 (fun h21 e22 => ?_)
          have hV := hV h21 e22
          refine g_aload_n (pc := 66) X 1 rfl rfl dX8_append_66 ?_
          refine g_aload_n (pc := 67) X 1 rfl rfl dX8_append_67 ?_
          refine g_getI (pc := 68) X fl_X8_23 q6 dX8_append_68 ?_
          refine g_if_ne (pc := 71) X 80 dX8_append_71 (by decide) (fun c23 => ?_) (fun c23 => ?_)
          · have hV := hV.1 c23
            refine g_iconst (pc := 80) (v := (1 : Int32)) X dX8_append_80 (by decide) ?_
            refine g_goto (pc := 81) X 85 dX8_append_81 (by decide) ?_
            refine g_putI (pc := 85) X fl_X8_23 q6 rfl rfl dX8_append_85 (fun h24 e25 => ?_)
            have hV := hV h24 e25
            exact g_vret (pc := 88) X Tt ⟨rfl, rfl, hV⟩ dX8_append_88
          · have hV := hV.2 c23
            refine g_iload (pc := 74) X 0 rfl dX8_append_74 ?_
            refine g_iload_n (pc := 76) X 4 rfl rfl dX8_append_76 ?_
            refine g_icmp_ge (pc := 77) X 84 dX8_append_77 (by decide) (fun c26 => ?_) (fun c26 => ?_)
            · have hV := hV.1 c26
              refine g_iconst (pc := 84) (v := (0 : Int32)) X dX8_append_84 (by decide) ?_
              refine g_putI (pc := 85) X fl_X8_23 q6 rfl rfl dX8_append_85 (fun h27 e28 => ?_)
              have hV := hV h27 e28
              exact g_vret (pc := 88) X Tt ⟨rfl, rfl, hV⟩ dX8_append_88
            · have hV := hV.2 c26
              refine g_iconst (pc := 80) (v := (1 : Int32)) X dX8_append_80 (by decide) ?_
              refine g_goto (pc := 81) X 85 dX8_append_81 (by decide) ?_
              refine g_putI (pc := 85) X fl_X8_23 q6 rfl rfl dX8_append_85 (fun h29 e30 => ?_)
              have hV := hV h29 e30
              exact g_vret (pc := 88) X Tt ⟨rfl, rfl, hV⟩ dX8_append_88
        · have hV := hV.2 c5
          exact g_vret (pc := 26) X Tt ⟨rfl, rfl, hV⟩ dX8_append_26
def C_X8_append (w : Wd) (sh : List Sh) (x0 : Nat) (x1 : Nat) (x2 : Int32) (x3 : Int32) (h : Hp) (RET : Hp → Prop) : Prop := CV w yX8_append (.code yX8_append cX8_append 5 none) 1 40 [rv w.2.2.2 x0, rv w.2.2.2 x1, Value.int x2, Value.int x3] sh h RET
theorem K_X8_append {w : Wd} {sh : List Sh} {x0 : Nat} {x1 : Nat} {x2 : Int32} {x3 : Int32} {h : Hp} {RET : Hp → Prop} (hV : V_X8_append_0 w sh x0 x1 x2 x3 h RET) : C_X8_append w sh x0 x1 x2 x3 h RET :=
  Ct_of (by decide +kernel) (by simp [lg_sl, rv_cat, cat_int, cat_long]) (fun E X Tt hR _ => by
    rw [show lv_args 0 [rv w.2.2.2 x0, rv w.2.2.2 x1, Value.int x2, Value.int x3] = [(0, rv w.2.2.2 x0), (1, rv w.2.2.2 x1), (2, Value.int x2), (3, Value.int x3)] from by simp [lv_args, rv_cat, cat_int, cat_long]]
    refine g_lv [0, 1, 2, 3] rfl ?_
    exact W_X8_append_0 X Tt hR hV)
def V_X11_isByte_0 (w : Wd) (sh : List Sh) (x0 : Int32) (h : Hp)  (RET : Int32 → Hp → Prop) : Prop :=
  ((x0 < 0) → (RET (0 : Int32) h)) ∧ ((¬ x0 < 0) → ((((255 : Int32) < x0) → (RET (0 : Int32) h)) ∧ ((¬ (255 : Int32) < x0) → (RET (1 : Int32) h))))
set_option maxRecDepth 20000 in
set_option maxHeartbeats 4000000 in
theorem W_X11_isByte_0 {w : Wd} {E : GE} {sh : List Sh} {x0 : Int32} {h : Hp}  {RET : Int32 → Hp → Prop} (X : Cx w E cX11_isByte 1 RX11) (Tt : Rt w E (some .boolean) sh.length 0 0 (fun q sh9 h9 => ∃ v : Int32, q = some (Value.int v) ∧ sh9 = sh ∧ RET v h9)) (hR : gR E = { frames := 0, cells := 0, slots := 0, locals := 0 }) (hV : V_X11_isByte_0 w sh x0 h RET) : G w E 1 0 [(0, Value.int x0)] [] sh h 0 0 := by
  unfold V_X11_isByte_0 at hV
  refine g_iload_n (pc := 0) X 0 rfl rfl dX11_isByte_0 ?_
  refine g_if_lt (pc := 1) X 15 dX11_isByte_1 (by decide) (fun c1 => ?_) (fun c1 => ?_)
  · have hV := hV.1 c1
    refine g_iconst (pc := 15) (v := (0 : Int32)) X dX11_isByte_15 (by decide) ?_
    exact g_zret (pc := 16) X Tt (by decide) ⟨_, rfl, rfl, hV⟩ dX11_isByte_16
  · have hV := hV.2 c1
    refine g_iload_n (pc := 4) X 0 rfl rfl dX11_isByte_4 ?_
    refine g_sipush (pc := 5) (v := (255 : Int32)) X dX11_isByte_5 (by decide) ?_
    refine g_icmp_gt (pc := 8) X 15 dX11_isByte_8 (by decide) (fun c2 => ?_) (fun c2 => ?_)
    · have hV := hV.1 c2
      refine g_iconst (pc := 15) (v := (0 : Int32)) X dX11_isByte_15 (by decide) ?_
      exact g_zret (pc := 16) X Tt (by decide) ⟨_, rfl, rfl, hV⟩ dX11_isByte_16
    · have hV := hV.2 c2
      refine g_iconst (pc := 11) (v := (1 : Int32)) X dX11_isByte_11 (by decide) ?_
      refine g_goto (pc := 12) X 16 dX11_isByte_12 (by decide) ?_
      exact g_zret (pc := 16) X Tt (by decide) ⟨_, rfl, rfl, hV⟩ dX11_isByte_16
def C_X11_isByte (w : Wd) (sh : List Sh) (x0 : Int32) (h : Hp) (RET : Int32 → Hp → Prop) : Prop := CI w yX11_isByte (.code yX11_isByte cX11_isByte 1 (some .boolean)) 0 0 [Value.int x0] sh h RET
theorem K_X11_isByte {w : Wd} {sh : List Sh} {x0 : Int32} {h : Hp} {RET : Int32 → Hp → Prop} (hV : V_X11_isByte_0 w sh x0 h RET) : C_X11_isByte w sh x0 h RET :=
  Ct_of (by decide +kernel) (by simp [lg_sl, rv_cat, cat_int, cat_long]) (fun E X Tt hR _ => by
    rw [show lv_args 0 [Value.int x0] = [(0, Value.int x0)] from by simp [lv_args, rv_cat, cat_int, cat_long]]
    refine g_lv [0] rfl ?_
    exact W_X11_isByte_0 X Tt hR hV)
def V_X8_at_0 (w : Wd) (sh : List Sh) (x0 : Nat) (x1 : Int32) (h : Hp)  (RET : Int32 → Hp → Prop) : Prop :=
  ((x1 < 0) → (RET (-1 : Int32) h)) ∧ ((¬ x1 < 0) → (shAt sh x0 = some (.inr 8) ∧ ((((h.1 x0 1) ≤ x1) → (RET (-1 : Int32) h)) ∧ ((¬ (h.1 x0 1) ≤ x1) → (∃ n5 : Nat, shAt sh (h.2.1 x0 0) = some (.inl (0, n5)) ∧ (vp_in x1 n5 ∧ (RET ((b8 (h.1 (h.2.1 x0 0) x1.toNatClampNeg)) &&& (255 : Int32)) h)))))))
set_option maxRecDepth 20000 in
set_option maxHeartbeats 4000000 in
theorem W_X8_at_0 {w : Wd} {E : GE} {sh : List Sh} {x0 : Nat} {x1 : Int32} {h : Hp}  {RET : Int32 → Hp → Prop} (X : Cx w E cX8_at 2 RX8) (Tt : Rt w E (some .int) sh.length 0 0 (fun q sh9 h9 => ∃ v : Int32, q = some (Value.int v) ∧ sh9 = sh ∧ RET v h9)) (hR : gR E = { frames := 0, cells := 0, slots := 0, locals := 0 }) (hV : V_X8_at_0 w sh x0 x1 h RET) : G w E 2 0 [(0, rv w.2.2.2 x0), (1, Value.int x1)] [] sh h 0 0 := by
  unfold V_X8_at_0 at hV
  refine g_iload_n (pc := 0) X 1 rfl rfl dX8_at_0 ?_
  refine g_if_lt (pc := 1) X 25 dX8_at_1 (by decide) (fun c1 => ?_) (fun c1 => ?_)
  · have hV := hV.1 c1
    refine g_iconst (pc := 25) (v := (-1 : Int32)) X dX8_at_25 (by decide) ?_
    exact g_iret (pc := 26) X Tt ⟨_, rfl, rfl, hV⟩ dX8_at_26
  · have hV := hV.2 c1
    refine g_iload_n (pc := 4) X 1 rfl rfl dX8_at_4 ?_
    refine g_aload_n (pc := 5) X 0 rfl rfl dX8_at_5 ?_
    obtain ⟨q2, hV⟩ := hV
    refine g_getI (pc := 6) X fl_X8_19 q2 dX8_at_6 ?_
    refine g_icmp_ge (pc := 9) X 25 dX8_at_9 (by decide) (fun c3 => ?_) (fun c3 => ?_)
    · have hV := hV.1 c3
      refine g_iconst (pc := 25) (v := (-1 : Int32)) X dX8_at_25 (by decide) ?_
      exact g_iret (pc := 26) X Tt ⟨_, rfl, rfl, hV⟩ dX8_at_26
    · have hV := hV.2 c3
      refine g_aload_n (pc := 12) X 0 rfl rfl dX8_at_12 ?_
      refine g_getR (pc := 13) X fl_X8_13 q2 dX8_at_13 ?_
      refine g_iload_n (pc := 16) X 1 rfl rfl dX8_at_16 ?_
      obtain ⟨n5, q4, hV⟩ := hV
      obtain ⟨q6, hV⟩ := hV
      refine g_bald (pc := 17) X q4 q6 dX8_at_17 ?_
      refine g_sipush (pc := 18) (v := (255 : Int32)) X dX8_at_18 (by decide) ?_
      refine g_iand (pc := 21) X dX8_at_21 ?_
      refine g_goto (pc := 22) X 26 dX8_at_22 (by decide) ?_
      exact g_iret (pc := 26) X Tt ⟨_, rfl, rfl, hV⟩ dX8_at_26
def C_X8_at (w : Wd) (sh : List Sh) (x0 : Nat) (x1 : Int32) (h : Hp) (RET : Int32 → Hp → Prop) : Prop := CI w yX8_at (.code yX8_at cX8_at 2 (some .int)) 0 0 [rv w.2.2.2 x0, Value.int x1] sh h RET
theorem K_X8_at {w : Wd} {sh : List Sh} {x0 : Nat} {x1 : Int32} {h : Hp} {RET : Int32 → Hp → Prop} (hV : V_X8_at_0 w sh x0 x1 h RET) : C_X8_at w sh x0 x1 h RET :=
  Ct_of (by decide +kernel) (by simp [lg_sl, rv_cat, cat_int, cat_long]) (fun E X Tt hR _ => by
    rw [show lv_args 0 [rv w.2.2.2 x0, Value.int x1] = [(0, rv w.2.2.2 x0), (1, Value.int x1)] from by simp [lv_args, rv_cat, cat_int, cat_long]]
    refine g_lv [0, 1] rfl ?_
    exact W_X8_at_0 X Tt hR hV)
def V_X8_shorten_0 (w : Wd) (sh : List Sh) (x0 : Nat) (x1 : Int32) (h : Hp)  (RET : Hp → Prop) : Prop :=
  ((x1 < 0) → (RET h)) ∧ ((¬ x1 < 0) → (shAt sh x0 = some (.inr 8) ∧ ((((h.1 x0 1) ≤ x1) → (RET h)) ∧ ((¬ (h.1 x0 1) ≤ x1) → (∀ h4 : Hp, h4 = wI h x0 1 x1 → (RET h4))))))
set_option maxRecDepth 20000 in
set_option maxHeartbeats 4000000 in
theorem W_X8_shorten_0 {w : Wd} {E : GE} {sh : List Sh} {x0 : Nat} {x1 : Int32} {h : Hp}  {RET : Hp → Prop} (X : Cx w E cX8_shorten 2 RX8) (Tt : Rt w E none sh.length 0 0 (fun q sh9 h9 => q = none ∧ sh9 = sh ∧ RET h9)) (hR : gR E = { frames := 0, cells := 0, slots := 0, locals := 0 }) (hV : V_X8_shorten_0 w sh x0 x1 h RET) : G w E 2 0 [(0, rv w.2.2.2 x0), (1, Value.int x1)] [] sh h 0 0 := by
  unfold V_X8_shorten_0 at hV
  refine g_iload_n (pc := 0) X 1 rfl rfl dX8_shorten_0 ?_
  refine g_if_lt (pc := 1) X 17 dX8_shorten_1 (by decide) (fun c1 => ?_) (fun c1 => ?_)
  · have hV := hV.1 c1
    exact g_vret (pc := 17) X Tt ⟨rfl, rfl, hV⟩ dX8_shorten_17
  · have hV := hV.2 c1
    refine g_iload_n (pc := 4) X 1 rfl rfl dX8_shorten_4 ?_
    refine g_aload_n (pc := 5) X 0 rfl rfl dX8_shorten_5 ?_
    obtain ⟨q2, hV⟩ := hV
    refine g_getI (pc := 6) X fl_X8_19 q2 dX8_shorten_6 ?_
    refine g_icmp_ge (pc := 9) X 17 dX8_shorten_9 (by decide) (fun c3 => ?_) (fun c3 => ?_)
    · have hV := hV.1 c3
      exact g_vret (pc := 17) X Tt ⟨rfl, rfl, hV⟩ dX8_shorten_17
    · have hV := hV.2 c3
      refine g_aload_n (pc := 12) X 0 rfl rfl dX8_shorten_12 ?_
      refine g_iload_n (pc := 13) X 1 rfl rfl dX8_shorten_13 ?_
      refine g_putI (pc := 14) X fl_X8_19 q2 rfl rfl dX8_shorten_14 (fun h4 e5 => ?_)
      have hV := hV h4 e5
      exact g_vret (pc := 17) X Tt ⟨rfl, rfl, hV⟩ dX8_shorten_17
def C_X8_shorten (w : Wd) (sh : List Sh) (x0 : Nat) (x1 : Int32) (h : Hp) (RET : Hp → Prop) : Prop := CV w yX8_shorten (.code yX8_shorten cX8_shorten 2 none) 0 0 [rv w.2.2.2 x0, Value.int x1] sh h RET
theorem K_X8_shorten {w : Wd} {sh : List Sh} {x0 : Nat} {x1 : Int32} {h : Hp} {RET : Hp → Prop} (hV : V_X8_shorten_0 w sh x0 x1 h RET) : C_X8_shorten w sh x0 x1 h RET :=
  Ct_of (by decide +kernel) (by simp [lg_sl, rv_cat, cat_int, cat_long]) (fun E X Tt hR _ => by
    rw [show lv_args 0 [rv w.2.2.2 x0, Value.int x1] = [(0, rv w.2.2.2 x0), (1, Value.int x1)] from by simp [lv_args, rv_cat, cat_int, cat_long]]
    refine g_lv [0, 1] rfl ?_
    exact W_X8_shorten_0 X Tt hR hV)
def V_X11_isEntry_0 (w : Wd) (sh : List Sh) (x0 : Int32) (x1 : Int32) (h : Hp)  (RET : Int32 → Hp → Prop) : Prop :=
  ((x0 < 0) → (RET (0 : Int32) h)) ∧ ((¬ x0 < 0) → ((((256 : Int32) ≤ x0) → (RET (0 : Int32) h)) ∧ ((¬ (256 : Int32) ≤ x0) → (((x1 < 0) → (RET (0 : Int32) h)) ∧ ((¬ x1 < 0) → ((((6 : Int32) ≤ x1) → (RET (0 : Int32) h)) ∧ ((¬ (6 : Int32) ≤ x1) → (RET (1 : Int32) h))))))))
set_option maxRecDepth 20000 in
set_option maxHeartbeats 4000000 in
theorem W_X11_isEntry_0 {w : Wd} {E : GE} {sh : List Sh} {x0 : Int32} {x1 : Int32} {h : Hp}  {RET : Int32 → Hp → Prop} (X : Cx w E cX11_isEntry 2 RX11) (Tt : Rt w E (some .boolean) sh.length 0 0 (fun q sh9 h9 => ∃ v : Int32, q = some (Value.int v) ∧ sh9 = sh ∧ RET v h9)) (hR : gR E = { frames := 0, cells := 0, slots := 0, locals := 0 }) (hV : V_X11_isEntry_0 w sh x0 x1 h RET) : G w E 2 0 [(0, Value.int x0), (1, Value.int x1)] [] sh h 0 0 := by
  unfold V_X11_isEntry_0 at hV
  refine g_iload_n (pc := 0) X 0 rfl rfl dX11_isEntry_0 ?_
  refine g_if_lt (pc := 1) X 25 dX11_isEntry_1 (by decide) (fun c1 => ?_) (fun c1 => ?_)
  · have hV := hV.1 c1
    refine g_iconst (pc := 25) (v := (0 : Int32)) X dX11_isEntry_25 (by decide) ?_
    exact g_zret (pc := 26) X Tt (by decide) ⟨_, rfl, rfl, hV⟩ dX11_isEntry_26
  · have hV := hV.2 c1
    refine g_iload_n (pc := 4) X 0 rfl rfl dX11_isEntry_4 ?_
    refine g_sipush (pc := 5) (v := (256 : Int32)) X dX11_isEntry_5 (by decide) ?_
    refine g_icmp_ge (pc := 8) X 25 dX11_isEntry_8 (by decide) (fun c2 => ?_) (fun c2 => ?_)
    · have hV := hV.1 c2
      refine g_iconst (pc := 25) (v := (0 : Int32)) X dX11_isEntry_25 (by decide) ?_
      exact g_zret (pc := 26) X Tt (by decide) ⟨_, rfl, rfl, hV⟩ dX11_isEntry_26
    · have hV := hV.2 c2
      refine g_iload_n (pc := 11) X 1 rfl rfl dX11_isEntry_11 ?_
      refine g_if_lt (pc := 12) X 25 dX11_isEntry_12 (by decide) (fun c3 => ?_) (fun c3 => ?_)
      · have hV := hV.1 c3
        refine g_iconst (pc := 25) (v := (0 : Int32)) X dX11_isEntry_25 (by decide) ?_
        exact g_zret (pc := 26) X Tt (by decide) ⟨_, rfl, rfl, hV⟩ dX11_isEntry_26
      · have hV := hV.2 c3
        refine g_iload_n (pc := 15) X 1 rfl rfl dX11_isEntry_15 ?_
        refine g_bipush (pc := 16) (v := (6 : Int32)) X dX11_isEntry_16 (by decide) ?_
        refine g_icmp_ge (pc := 18) X 25 dX11_isEntry_18 (by decide) (fun c4 => ?_) (fun c4 => ?_)
        · have hV := hV.1 c4
          refine g_iconst (pc := 25) (v := (0 : Int32)) X dX11_isEntry_25 (by decide) ?_
          exact g_zret (pc := 26) X Tt (by decide) ⟨_, rfl, rfl, hV⟩ dX11_isEntry_26
        · have hV := hV.2 c4
          refine g_iconst (pc := 21) (v := (1 : Int32)) X dX11_isEntry_21 (by decide) ?_
          refine g_goto (pc := 22) X 26 dX11_isEntry_22 (by decide) ?_
          exact g_zret (pc := 26) X Tt (by decide) ⟨_, rfl, rfl, hV⟩ dX11_isEntry_26
def C_X11_isEntry (w : Wd) (sh : List Sh) (x0 : Int32) (x1 : Int32) (h : Hp) (RET : Int32 → Hp → Prop) : Prop := CI w yX11_isEntry (.code yX11_isEntry cX11_isEntry 2 (some .boolean)) 0 0 [Value.int x0, Value.int x1] sh h RET
theorem K_X11_isEntry {w : Wd} {sh : List Sh} {x0 : Int32} {x1 : Int32} {h : Hp} {RET : Int32 → Hp → Prop} (hV : V_X11_isEntry_0 w sh x0 x1 h RET) : C_X11_isEntry w sh x0 x1 h RET :=
  Ct_of (by decide +kernel) (by simp [lg_sl, rv_cat, cat_int, cat_long]) (fun E X Tt hR _ => by
    rw [show lv_args 0 [Value.int x0, Value.int x1] = [(0, Value.int x0), (1, Value.int x1)] from by simp [lv_args, rv_cat, cat_int, cat_long]]
    refine g_lv [0, 1] rfl ?_
    exact W_X11_isEntry_0 X Tt hR hV)
def V_X11_bigLength_7 (w : Wd) (sh : List Sh) (x2 : Int32) (x3 : Int64) (h : Hp) (L7 : Int32 → Int64 → Hp → Prop) (RET : Int32 → Hp → Prop) : Prop :=
  (((lg_cmp x3 (0 : Int64)) = 0) → (RET x2 h)) ∧ ((¬ (lg_cmp x3 (0 : Int64)) = 0) → ((((5 : Int32) ≤ x2) → (RET x2 h)) ∧ ((¬ (5 : Int32) ≤ x2) → (∀ y3 : Int32, y3 = x2 + (1 : Int32) → (∀ y5 : Int64, y5 = ((x3.toUInt64 >>> ((7 : Int32).toInt64.toUInt64 &&& Int64.toUInt64 63)).toInt64) → (L7 y3 y5 h))))))
set_option maxRecDepth 20000 in
set_option maxHeartbeats 4000000 in
theorem W_X11_bigLength_7 {w : Wd} {E : GE} {sh : List Sh} {x2 : Int32} {x3 : Int64} {h : Hp} {L7 : Int32 → Int64 → Hp → Prop} {RET : Int32 → Hp → Prop} (X : Cx w E cX11_bigLength 5 RX11) (Tt : Rt w E (some .int) sh.length 0 0 (fun q sh9 h9 => ∃ v : Int32, q = some (Value.int v) ∧ sh9 = sh ∧ RET v h9)) (hR : gR E = { frames := 0, cells := 0, slots := 0, locals := 0 }) (hL7 : ∀ (x2 : Int32) (x3 : Int64) (h : Hp), L7 x2 x3 h → G w E 5 7 [(2, Value.int x2), (3, Value.long x3)] [] sh h 0 0) (hV : V_X11_bigLength_7 w sh x2 x3 h L7 RET) : G w E 5 7 [(2, Value.int x2), (3, Value.long x3)] [] sh h 0 0 := by
  unfold V_X11_bigLength_7 at hV
  refine g_lload_n (pc := 7) X 1 rfl rfl dX11_bigLength_7 ?_
  refine g_lconst (pc := 8) (v := (0 : Int64)) X dX11_bigLength_8 (by decide) ?_
  refine g_lcmp (pc := 9) X dX11_bigLength_9 ?_
  refine g_if_eq (pc := 10) X 29 dX11_bigLength_10 (by decide) (fun c1 => ?_) (fun c1 => ?_)
  · have hV := hV.1 c1
    refine g_iload_n (pc := 29) X 0 rfl rfl dX11_bigLength_29 ?_
    exact g_iret (pc := 30) X Tt ⟨_, rfl, rfl, hV⟩ dX11_bigLength_30
  · have hV := hV.2 c1
    refine g_iload_n (pc := 13) X 0 rfl rfl dX11_bigLength_13 ?_
    refine g_iconst (pc := 14) (v := (5 : Int32)) X dX11_bigLength_14 (by decide) ?_
    refine g_icmp_ge (pc := 15) X 29 dX11_bigLength_15 (by decide) (fun c2 => ?_) (fun c2 => ?_)
    · have hV := hV.1 c2
      refine g_iload_n (pc := 29) X 0 rfl rfl dX11_bigLength_29 ?_
      exact g_iret (pc := 30) X Tt ⟨_, rfl, rfl, hV⟩ dX11_bigLength_30
    · have hV := hV.2 c2
      refine g_iinc (pc := 18) X 0 (v := (1 : Int32)) (rest := [(3, Value.long x3)]) rfl (by decide) rfl (by decide) dX11_bigLength_18 (fun y3 e4 => ?_)
      have hV := hV y3 e4
      refine g_lload_n (pc := 21) X 1 rfl rfl dX11_bigLength_21 ?_
      refine g_bipush (pc := 22) (v := (7 : Int32)) X dX11_bigLength_22 (by decide) ?_
      refine g_lushr (pc := 24) X dX11_bigLength_24 ?_
      refine g_lstore_n (pc := 25) X (i := 3) (rest := [(2, Value.int y3)]) rfl (by decide) rfl dX11_bigLength_25 (fun y5 e6 => ?_)
      have hV := hV y5 e6
      refine g_goto (pc := 26) X 7 dX11_bigLength_26 (by decide) ?_
      refine g_lv [1, 0] rfl ?_
      exact hL7 y3 y5 h hV
def V_X11_bigLength_0 (w : Wd) (sh : List Sh) (x0 : Int64) (h : Hp) (L7 : Int32 → Int64 → Hp → Prop) (RET : Int32 → Hp → Prop) : Prop :=
  ∀ y1 : Int32, y1 = (1 : Int32) → (∀ y3 : Int64, y3 = ((x0.toUInt64 >>> ((7 : Int32).toInt64.toUInt64 &&& Int64.toUInt64 63)).toInt64) → (L7 y1 y3 h))
set_option maxRecDepth 20000 in
set_option maxHeartbeats 4000000 in
theorem W_X11_bigLength_0 {w : Wd} {E : GE} {sh : List Sh} {x0 : Int64} {h : Hp} {L7 : Int32 → Int64 → Hp → Prop} {RET : Int32 → Hp → Prop} (X : Cx w E cX11_bigLength 5 RX11) (Tt : Rt w E (some .int) sh.length 0 0 (fun q sh9 h9 => ∃ v : Int32, q = some (Value.int v) ∧ sh9 = sh ∧ RET v h9)) (hR : gR E = { frames := 0, cells := 0, slots := 0, locals := 0 }) (hL7 : ∀ (x2 : Int32) (x3 : Int64) (h : Hp), L7 x2 x3 h → G w E 5 7 [(2, Value.int x2), (3, Value.long x3)] [] sh h 0 0) (hV : V_X11_bigLength_0 w sh x0 h L7 RET) : G w E 5 0 [(0, Value.long x0)] [] sh h 0 0 := by
  unfold V_X11_bigLength_0 at hV
  refine g_iconst (pc := 0) (v := (1 : Int32)) X dX11_bigLength_0 (by decide) ?_
  refine g_istore_n (pc := 1) X (i := 2) (rest := [(0, Value.long x0)]) rfl (by decide) rfl dX11_bigLength_1 (fun y1 e2 => ?_)
  have hV := hV y1 e2
  refine g_lload_n (pc := 2) X 1 rfl rfl dX11_bigLength_2 ?_
  refine g_bipush (pc := 3) (v := (7 : Int32)) X dX11_bigLength_3 (by decide) ?_
  refine g_lushr (pc := 5) X dX11_bigLength_5 ?_
  refine g_lstore_n (pc := 6) X (i := 3) (rest := [(2, Value.int y1), (0, Value.long x0)]) rfl (by decide) rfl dX11_bigLength_6 (fun y3 e4 => ?_)
  have hV := hV y3 e4
  refine g_lv [1, 0] rfl ?_
  exact hL7 y1 y3 h hV
def C_X11_bigLength (w : Wd) (sh : List Sh) (x0 : Int64) (h : Hp) (RET : Int32 → Hp → Prop) : Prop := CI w yX11_bigLength (.code yX11_bigLength cX11_bigLength 5 (some .int)) 0 0 [Value.long x0] sh h RET
set_option maxRecDepth 20000 in
theorem K_X11_bigLength {w : Wd} {sh : List Sh} {x0 : Int64} {h : Hp} {RET : Int32 → Hp → Prop} {α : Type} {r : α → α → Prop} (wf : WellFounded r) (I7 : α → Int32 → Int64 → Hp → Prop) (hE : V_X11_bigLength_0 w sh x0 h (fun x2 x3 h => ∃ a, I7 a x2 x3 h) RET) (h7 : ∀ (b : α) (x2 : Int32) (x3 : Int64) (h : Hp), I7 b x2 x3 h → V_X11_bigLength_7 w sh x2 x3 h (fun x2 x3 h => ∃ a, r a b ∧ I7 a x2 x3 h) RET) : C_X11_bigLength w sh x0 h RET :=
  Ct_of (by decide +kernel) (by simp [lg_sl, rv_cat, cat_int, cat_long]) (fun E X Tt hR _ => by
    have key : ∀ a : α, (∀ (x2 : Int32) (x3 : Int64) (h : Hp), I7 a x2 x3 h → G w E 5 7 [(2, Value.int x2), (3, Value.long x3)] [] sh h 0 0) := by
      intro a
      induction a using wf.induction with
      | _ a ih =>
        exact (fun x2 x3 h hi => W_X11_bigLength_7 X Tt hR (fun x2 x3 h hx => by obtain ⟨a2, ha, hi⟩ := hx; exact (ih a2 ha) x2 x3 h hi) (h7 a x2 x3 h hi))
    rw [show lv_args 0 [Value.long x0] = [(0, Value.long x0)] from by simp [lv_args, rv_cat, cat_int, cat_long]]
    refine g_lv [0] rfl ?_
    exact W_X11_bigLength_0 X Tt hR (fun x2 x3 h hx => by obtain ⟨a2, hi⟩ := hx; exact (key a2) x2 x3 h hi) hE)
def V_X8_pushBig_7 (w : Wd) (sh : List Sh) (x0 : Nat) (x1 : Int64) (x3 : Int32) (h : Hp) (L7 : Nat → Int64 → Int32 → Hp → Prop) (RET : Hp → Prop) : Prop :=
  ((x3 ≤ 0) → (shAt sh x0 = some (.inr 8) ∧ (∃ P3 : Hp → Prop, C_X8_push w sh x0 ((x1.toInt32) &&& (127 : Int32)) h P3 ∧ (∀ h6 : Hp, P3 h6 → (RET h6))))) ∧ ((¬ x3 ≤ 0) → (shAt sh x0 = some (.inr 8) ∧ (∃ P8 : Hp → Prop, C_X8_push w sh x0 (((((x1.toUInt64 >>> (((7 : Int32) * x3).toInt64.toUInt64 &&& Int64.toUInt64 63)).toInt64).toInt32) &&& (127 : Int32)) ||| (128 : Int32)) h P8 ∧ (∀ h11 : Hp, P8 h11 → (∀ y12 : Int32, y12 = x3 + (-1 : Int32) → (L7 x0 x1 y12 h11))))))
set_option maxRecDepth 20000 in
set_option maxHeartbeats 4000000 in
theorem W_X8_pushBig_7 {w : Wd} {E : GE} {sh : List Sh} {x0 : Nat} {x1 : Int64} {x3 : Int32} {h : Hp} {L7 : Nat → Int64 → Int32 → Hp → Prop} {RET : Hp → Prop} (X : Cx w E cX8_pushBig 4 RX8) (Tt : Rt w E none sh.length 0 0 (fun q sh9 h9 => q = none ∧ sh9 = sh ∧ RET h9)) (hR : gR E = { frames := 1, cells := 0, slots := 0, locals := 24 }) (hL7 : ∀ (x0 : Nat) (x1 : Int64) (x3 : Int32) (h : Hp), L7 x0 x1 x3 h → G w E 4 7 [(0, rv w.2.2.2 x0), (1, Value.long x1), (3, Value.int x3)] [] sh h 0 0) (hV : V_X8_pushBig_7 w sh x0 x1 x3 h L7 RET) : G w E 4 7 [(0, rv w.2.2.2 x0), (1, Value.long x1), (3, Value.int x3)] [] sh h 0 0 := by
  unfold V_X8_pushBig_7 at hV
  refine g_iload_n (pc := 7) X 2 rfl rfl dX8_pushBig_7 ?_
  refine g_if_le (pc := 8) X 35 dX8_pushBig_8 (by decide) (fun c1 => ?_) (fun c1 => ?_)
  · have hV := hV.1 c1
    refine g_aload_n (pc := 35) X 0 rfl rfl dX8_pushBig_35 ?_
    refine g_lload_n (pc := 36) X 1 rfl rfl dX8_pushBig_36 ?_
    refine g_l2i (pc := 37) X dX8_pushBig_37 ?_
    refine g_bipush (pc := 38) (v := (127 : Int32)) X dX8_pushBig_38 (by decide) ?_
    refine g_iand (pc := 40) X dX8_pushBig_40 ?_
    obtain ⟨q2, hV⟩ := hV
    obtain ⟨P3, t4, hV⟩ := hV
    refine g_cVV (pc := 41) X (As := [Value.int ((x1.toInt32) &&& (127 : Int32))]) ml_X8_27 rfl q2 t4 (by rw [hR]; exact ⟨by decide, by decide, by decide, by decide⟩) rfl rfl (Nat.zero_le _) dX8_pushBig_41 (fun h6 p5 => ?_)
    have hV := hV h6 p5
    exact g_vret (pc := 44) X Tt ⟨rfl, rfl, hV⟩ dX8_pushBig_44
  · have hV := hV.2 c1
    refine g_aload_n (pc := 11) X 0 rfl rfl dX8_pushBig_11 ?_
    refine g_lload_n (pc := 12) X 1 rfl rfl dX8_pushBig_12 ?_
    refine g_bipush (pc := 13) (v := (7 : Int32)) X dX8_pushBig_13 (by decide) ?_
    refine g_iload_n (pc := 15) X 2 rfl rfl dX8_pushBig_15 ?_
    refine g_imul (pc := 16) X dX8_pushBig_16 ?_
    refine g_lushr (pc := 17) X dX8_pushBig_17 ?_
    refine g_l2i (pc := 18) X dX8_pushBig_18 ?_
    refine g_bipush (pc := 19) (v := (127 : Int32)) X dX8_pushBig_19 (by decide) ?_
    refine g_iand (pc := 21) X dX8_pushBig_21 ?_
    refine g_sipush (pc := 22) (v := (128 : Int32)) X dX8_pushBig_22 (by decide) ?_
    refine g_ior (pc := 25) X dX8_pushBig_25 ?_
    obtain ⟨q7, hV⟩ := hV
    obtain ⟨P8, t9, hV⟩ := hV
    refine g_cVV (pc := 26) X (As := [Value.int (((((x1.toUInt64 >>> (((7 : Int32) * x3).toInt64.toUInt64 &&& Int64.toUInt64 63)).toInt64).toInt32) &&& (127 : Int32)) ||| (128 : Int32))]) ml_X8_27 rfl q7 t9 (by rw [hR]; exact ⟨by decide, by decide, by decide, by decide⟩) rfl rfl (Nat.zero_le _) dX8_pushBig_26 (fun h11 p10 => ?_)
    have hV := hV h11 p10
    refine g_iinc (pc := 29) X 2 (v := (-1 : Int32)) (rest := [(0, rv w.2.2.2 x0), (1, Value.long x1)]) rfl (by decide) rfl (by decide) dX8_pushBig_29 (fun y12 e13 => ?_)
    have hV := hV y12 e13
    refine g_goto (pc := 32) X 7 dX8_pushBig_32 (by decide) ?_
    refine g_lv [1, 2, 0] rfl ?_
    exact hL7 x0 x1 y12 h11 hV
def V_X8_pushBig_0 (w : Wd) (sh : List Sh) (x0 : Nat) (x1 : Int64) (h : Hp) (L7 : Nat → Int64 → Int32 → Hp → Prop) (RET : Hp → Prop) : Prop :=
  ∃ P1 : Int32 → Hp → Prop, C_X11_bigLength w sh x1 h P1 ∧ (∀ (v5 : Int32) (h4 : Hp), P1 v5 h4 → (∀ y6 : Int32, y6 = (v5 - (1 : Int32)) → (L7 x0 x1 y6 h4)))
set_option maxRecDepth 20000 in
set_option maxHeartbeats 4000000 in
theorem W_X8_pushBig_0 {w : Wd} {E : GE} {sh : List Sh} {x0 : Nat} {x1 : Int64} {h : Hp} {L7 : Nat → Int64 → Int32 → Hp → Prop} {RET : Hp → Prop} (X : Cx w E cX8_pushBig 4 RX8) (Tt : Rt w E none sh.length 0 0 (fun q sh9 h9 => q = none ∧ sh9 = sh ∧ RET h9)) (hR : gR E = { frames := 1, cells := 0, slots := 0, locals := 24 }) (hL7 : ∀ (x0 : Nat) (x1 : Int64) (x3 : Int32) (h : Hp), L7 x0 x1 x3 h → G w E 4 7 [(0, rv w.2.2.2 x0), (1, Value.long x1), (3, Value.int x3)] [] sh h 0 0) (hV : V_X8_pushBig_0 w sh x0 x1 h L7 RET) : G w E 4 0 [(0, rv w.2.2.2 x0), (1, Value.long x1)] [] sh h 0 0 := by
  unfold V_X8_pushBig_0 at hV
  refine g_lload_n (pc := 0) X 1 rfl rfl dX8_pushBig_0 ?_
  obtain ⟨P1, t2, hV⟩ := hV
  refine g_cSI (pc := 1) X (As := [Value.long x1]) ml_X8_31 t2 (by rw [hR]; exact ⟨by decide, by decide, by decide, by decide⟩) rfl rfl (Nat.zero_le _) dX8_pushBig_1 (fun v5 h4 p3 => ?_)
  have hV := hV v5 h4 p3
  refine g_iconst (pc := 4) (v := (1 : Int32)) X dX8_pushBig_4 (by decide) ?_
  refine g_isub (pc := 5) X dX8_pushBig_5 ?_
  refine g_istore_n (pc := 6) X (i := 3) (rest := [(0, rv w.2.2.2 x0), (1, Value.long x1)]) rfl (by decide) rfl dX8_pushBig_6 (fun y6 e7 => ?_)
  have hV := hV y6 e7
  refine g_lv [1, 2, 0] rfl ?_
  exact hL7 x0 x1 y6 h4 hV
def C_X8_pushBig (w : Wd) (sh : List Sh) (x0 : Nat) (x1 : Int64) (h : Hp) (RET : Hp → Prop) : Prop := CV w yX8_pushBig (.code yX8_pushBig cX8_pushBig 4 none) 1 24 [rv w.2.2.2 x0, Value.long x1] sh h RET
set_option maxRecDepth 20000 in
theorem K_X8_pushBig {w : Wd} {sh : List Sh} {x0 : Nat} {x1 : Int64} {h : Hp} {RET : Hp → Prop} {α : Type} {r : α → α → Prop} (wf : WellFounded r) (I7 : α → Nat → Int64 → Int32 → Hp → Prop) (hE : V_X8_pushBig_0 w sh x0 x1 h (fun x0 x1 x3 h => ∃ a, I7 a x0 x1 x3 h) RET) (h7 : ∀ (b : α) (x0 : Nat) (x1 : Int64) (x3 : Int32) (h : Hp), I7 b x0 x1 x3 h → V_X8_pushBig_7 w sh x0 x1 x3 h (fun x0 x1 x3 h => ∃ a, r a b ∧ I7 a x0 x1 x3 h) RET) : C_X8_pushBig w sh x0 x1 h RET :=
  Ct_of (by decide +kernel) (by simp [lg_sl, rv_cat, cat_int, cat_long]) (fun E X Tt hR _ => by
    have key : ∀ a : α, (∀ (x0 : Nat) (x1 : Int64) (x3 : Int32) (h : Hp), I7 a x0 x1 x3 h → G w E 4 7 [(0, rv w.2.2.2 x0), (1, Value.long x1), (3, Value.int x3)] [] sh h 0 0) := by
      intro a
      induction a using wf.induction with
      | _ a ih =>
        exact (fun x0 x1 x3 h hi => W_X8_pushBig_7 X Tt hR (fun x0 x1 x3 h hx => by obtain ⟨a2, ha, hi⟩ := hx; exact (ih a2 ha) x0 x1 x3 h hi) (h7 a x0 x1 x3 h hi))
    rw [show lv_args 0 [rv w.2.2.2 x0, Value.long x1] = [(0, rv w.2.2.2 x0), (1, Value.long x1)] from by simp [lv_args, rv_cat, cat_int, cat_long]]
    refine g_lv [0, 1] rfl ?_
    exact W_X8_pushBig_0 X Tt hR (fun x0 x1 x3 h hx => by obtain ⟨a2, hi⟩ := hx; exact (key a2) x0 x1 x3 h hi) hE)
def V_X8_sum_8 (w : Wd) (sh : List Sh) (x0 : Nat) (x2 : Int32) (x3 : Int32) (x4 : Int32) (x5 : Int32) (h : Hp) (L8 : Nat → Int32 → Int32 → Int32 → Int32 → Hp → Prop) (RET : Int64 → Hp → Prop) : Prop :=
  ((x2 ≤ x5) → (RET (((65536 : Int64) * (x4.toInt64)) + (x3.toInt64)) h)) ∧ ((¬ x2 ≤ x5) → (shAt sh x0 = some (.inr 8) ∧ (∃ P3 : Int32 → Hp → Prop, C_X8_at w sh x0 x5 h P3 ∧ (∀ (v7 : Int32) (h6 : Hp), P3 v7 h6 → (∀ y8 : Int32, y8 = ((x3 + v7) - (x3 + v7) / (65521 : Int32) * (65521 : Int32)) → (∀ y10 : Int32, y10 = ((x4 + y8) - (x4 + y8) / (65521 : Int32) * (65521 : Int32)) → (∀ y12 : Int32, y12 = x5 + (1 : Int32) → (L8 x0 x2 y8 y10 y12 h6))))))))
set_option maxRecDepth 20000 in
set_option maxHeartbeats 4000000 in
theorem W_X8_sum_8 {w : Wd} {E : GE} {sh : List Sh} {x0 : Nat} {x2 : Int32} {x3 : Int32} {x4 : Int32} {x5 : Int32} {h : Hp} {L8 : Nat → Int32 → Int32 → Int32 → Int32 → Hp → Prop} {RET : Int64 → Hp → Prop} (X : Cx w E cX8_sum 6 RX8) (Tt : Rt w E (some .long) sh.length 0 0 (fun q sh9 h9 => ∃ v : Int64, q = some (Value.long v) ∧ sh9 = sh ∧ RET v h9)) (hR : gR E = { frames := 1, cells := 0, slots := 0, locals := 21 }) (hL8 : ∀ (x0 : Nat) (x2 : Int32) (x3 : Int32) (x4 : Int32) (x5 : Int32) (h : Hp), L8 x0 x2 x3 x4 x5 h → G w E 6 8 [(0, rv w.2.2.2 x0), (2, Value.int x2), (3, Value.int x3), (4, Value.int x4), (5, Value.int x5)] [] sh h 0 0) (hV : V_X8_sum_8 w sh x0 x2 x3 x4 x5 h L8 RET) : G w E 6 8 [(0, rv w.2.2.2 x0), (2, Value.int x2), (3, Value.int x3), (4, Value.int x4), (5, Value.int x5)] [] sh h 0 0 := by
  unfold V_X8_sum_8 at hV
  refine g_iload (pc := 8) X 4 rfl dX8_sum_8 ?_
  refine g_iload_n (pc := 10) X 1 rfl rfl dX8_sum_10 ?_
  refine g_icmp_ge (pc := 11) X 41 dX8_sum_11 (by decide) (fun c1 => ?_) (fun c1 => ?_)
  · have hV := hV.1 c1
    refine g_ldc2 (pc := 41) X kc_X8_55 dX8_sum_41 ?_
    refine g_iload (pc := 44) X 3 rfl dX8_sum_44 ?_
    refine g_i2l (pc := 46) X dX8_sum_46 ?_
    refine g_lmul (pc := 47) X dX8_sum_47 ?_
    refine g_iload_n (pc := 48) X 2 rfl rfl dX8_sum_48 ?_
    refine g_i2l (pc := 49) X dX8_sum_49 ?_
    refine g_ladd (pc := 50) X dX8_sum_50 ?_
    exact g_lret (pc := 51) X Tt ⟨_, rfl, rfl, hV⟩ dX8_sum_51
  · have hV := hV.2 c1
    refine g_iload_n (pc := 14) X 2 rfl rfl dX8_sum_14 ?_
    refine g_aload_n (pc := 15) X 0 rfl rfl dX8_sum_15 ?_
    refine g_iload (pc := 16) X 4 rfl dX8_sum_16 ?_
    obtain ⟨q2, hV⟩ := hV
    obtain ⟨P3, t4, hV⟩ := hV
    refine g_cVI (pc := 18) X (As := [Value.int x5]) ml_X8_50 rfl q2 t4 (by rw [hR]; exact ⟨by decide, by decide, by decide, by decide⟩) rfl rfl (Nat.le_of_ble_eq_true rfl) dX8_sum_18 (fun v7 h6 p5 => ?_)
    have hV := hV v7 h6 p5
    refine g_iadd (pc := 21) X dX8_sum_21 ?_
    refine g_ldc (pc := 22) X kc_X8_54 dX8_sum_22 ?_
    refine g_irem (pc := 24) X dX8_sum_24 (by decide) ?_
    refine g_istore_n (pc := 25) X (i := 3) (rest := [(0, rv w.2.2.2 x0), (2, Value.int x2), (4, Value.int x4), (5, Value.int x5)]) rfl (by decide) rfl dX8_sum_25 (fun y8 e9 => ?_)
    have hV := hV y8 e9
    refine g_iload (pc := 26) X 3 rfl dX8_sum_26 ?_
    refine g_iload_n (pc := 28) X 0 rfl rfl dX8_sum_28 ?_
    refine g_iadd (pc := 29) X dX8_sum_29 ?_
    refine g_ldc (pc := 30) X kc_X8_54 dX8_sum_30 ?_
    refine g_irem (pc := 32) X dX8_sum_32 (by decide) ?_
    refine g_istore (pc := 33) X (i := 4) (rest := [(3, Value.int y8), (0, rv w.2.2.2 x0), (2, Value.int x2), (5, Value.int x5)]) (by decide) rfl dX8_sum_33 (fun y10 e11 => ?_)
    have hV := hV y10 e11
    refine g_iinc (pc := 35) X 4 (v := (1 : Int32)) (rest := [(4, Value.int y10), (3, Value.int y8), (0, rv w.2.2.2 x0), (2, Value.int x2)]) rfl (by decide) rfl (by decide) dX8_sum_35 (fun y12 e13 => ?_)
    have hV := hV y12 e13
    refine g_goto (pc := 38) X 8 dX8_sum_38 (by decide) ?_
    refine g_lv [3, 4, 2, 1, 0] rfl ?_
    exact hL8 x0 x2 y8 y10 y12 h6 hV
def V_X8_sum_0 (w : Wd) (sh : List Sh) (x0 : Nat) (x1 : Int32) (x2 : Int32) (h : Hp) (L8 : Nat → Int32 → Int32 → Int32 → Int32 → Hp → Prop) (RET : Int64 → Hp → Prop) : Prop :=
  ∀ y1 : Int32, y1 = (1 : Int32) → (∀ y3 : Int32, y3 = (0 : Int32) → (∀ y5 : Int32, y5 = x1 → (L8 x0 x2 y1 y3 y5 h)))
set_option maxRecDepth 20000 in
set_option maxHeartbeats 4000000 in
theorem W_X8_sum_0 {w : Wd} {E : GE} {sh : List Sh} {x0 : Nat} {x1 : Int32} {x2 : Int32} {h : Hp} {L8 : Nat → Int32 → Int32 → Int32 → Int32 → Hp → Prop} {RET : Int64 → Hp → Prop} (X : Cx w E cX8_sum 6 RX8) (Tt : Rt w E (some .long) sh.length 0 0 (fun q sh9 h9 => ∃ v : Int64, q = some (Value.long v) ∧ sh9 = sh ∧ RET v h9)) (hR : gR E = { frames := 1, cells := 0, slots := 0, locals := 21 }) (hL8 : ∀ (x0 : Nat) (x2 : Int32) (x3 : Int32) (x4 : Int32) (x5 : Int32) (h : Hp), L8 x0 x2 x3 x4 x5 h → G w E 6 8 [(0, rv w.2.2.2 x0), (2, Value.int x2), (3, Value.int x3), (4, Value.int x4), (5, Value.int x5)] [] sh h 0 0) (hV : V_X8_sum_0 w sh x0 x1 x2 h L8 RET) : G w E 6 0 [(0, rv w.2.2.2 x0), (1, Value.int x1), (2, Value.int x2)] [] sh h 0 0 := by
  unfold V_X8_sum_0 at hV
  refine g_iconst (pc := 0) (v := (1 : Int32)) X dX8_sum_0 (by decide) ?_
  refine g_istore_n (pc := 1) X (i := 3) (rest := [(0, rv w.2.2.2 x0), (1, Value.int x1), (2, Value.int x2)]) rfl (by decide) rfl dX8_sum_1 (fun y1 e2 => ?_)
  have hV := hV y1 e2
  refine g_iconst (pc := 2) (v := (0 : Int32)) X dX8_sum_2 (by decide) ?_
  refine g_istore (pc := 3) X (i := 4) (rest := [(3, Value.int y1), (0, rv w.2.2.2 x0), (1, Value.int x1), (2, Value.int x2)]) (by decide) rfl dX8_sum_3 (fun y3 e4 => ?_)
  have hV := hV y3 e4
  refine g_iload_n (pc := 5) X 3 rfl rfl dX8_sum_5 ?_
  refine g_istore (pc := 6) X (i := 5) (rest := [(4, Value.int y3), (3, Value.int y1), (0, rv w.2.2.2 x0), (1, Value.int x1), (2, Value.int x2)]) (by decide) rfl dX8_sum_6 (fun y5 e6 => ?_)
  have hV := hV y5 e6
  refine g_lv [3, 5, 2, 1, 0] rfl ?_
  exact hL8 x0 x2 y1 y3 y5 h hV
def C_X8_sum (w : Wd) (sh : List Sh) (x0 : Nat) (x1 : Int32) (x2 : Int32) (h : Hp) (RET : Int64 → Hp → Prop) : Prop := CJ w yX8_sum (.code yX8_sum cX8_sum 6 (some .long)) 1 21 [rv w.2.2.2 x0, Value.int x1, Value.int x2] sh h RET
set_option maxRecDepth 20000 in
theorem K_X8_sum {w : Wd} {sh : List Sh} {x0 : Nat} {x1 : Int32} {x2 : Int32} {h : Hp} {RET : Int64 → Hp → Prop} {α : Type} {r : α → α → Prop} (wf : WellFounded r) (I8 : α → Nat → Int32 → Int32 → Int32 → Int32 → Hp → Prop) (hE : V_X8_sum_0 w sh x0 x1 x2 h (fun x0 x2 x3 x4 x5 h => ∃ a, I8 a x0 x2 x3 x4 x5 h) RET) (h8 : ∀ (b : α) (x0 : Nat) (x2 : Int32) (x3 : Int32) (x4 : Int32) (x5 : Int32) (h : Hp), I8 b x0 x2 x3 x4 x5 h → V_X8_sum_8 w sh x0 x2 x3 x4 x5 h (fun x0 x2 x3 x4 x5 h => ∃ a, r a b ∧ I8 a x0 x2 x3 x4 x5 h) RET) : C_X8_sum w sh x0 x1 x2 h RET :=
  Ct_of (by decide +kernel) (by simp [lg_sl, rv_cat, cat_int, cat_long]) (fun E X Tt hR _ => by
    have key : ∀ a : α, (∀ (x0 : Nat) (x2 : Int32) (x3 : Int32) (x4 : Int32) (x5 : Int32) (h : Hp), I8 a x0 x2 x3 x4 x5 h → G w E 6 8 [(0, rv w.2.2.2 x0), (2, Value.int x2), (3, Value.int x3), (4, Value.int x4), (5, Value.int x5)] [] sh h 0 0) := by
      intro a
      induction a using wf.induction with
      | _ a ih =>
        exact (fun x0 x2 x3 x4 x5 h hi => W_X8_sum_8 X Tt hR (fun x0 x2 x3 x4 x5 h hx => by obtain ⟨a2, ha, hi⟩ := hx; exact (ih a2 ha) x0 x2 x3 x4 x5 h hi) (h8 a x0 x2 x3 x4 x5 h hi))
    rw [show lv_args 0 [rv w.2.2.2 x0, Value.int x1, Value.int x2] = [(0, rv w.2.2.2 x0), (1, Value.int x1), (2, Value.int x2)] from by simp [lv_args, rv_cat, cat_int, cat_long]]
    refine g_lv [0, 1, 2] rfl ?_
    exact W_X8_sum_0 X Tt hR (fun x0 x2 x3 x4 x5 h hx => by obtain ⟨a2, hi⟩ := hx; exact (key a2) x0 x2 x3 x4 x5 h hi) hE)
def V_X8_hasLost_0 (w : Wd) (sh : List Sh) (x0 : Nat) (h : Hp)  (RET : Int32 → Hp → Prop) : Prop :=
  shAt sh x0 = some (.inr 8) ∧ (((h.1 x0 2) = 0 ∨ (h.1 x0 2) = 1) ∧ RET (h.1 x0 2) h)
set_option maxRecDepth 20000 in
set_option maxHeartbeats 4000000 in
theorem W_X8_hasLost_0 {w : Wd} {E : GE} {sh : List Sh} {x0 : Nat} {h : Hp}  {RET : Int32 → Hp → Prop} (X : Cx w E cX8_hasLost 1 RX8) (Tt : Rt w E (some .boolean) sh.length 0 0 (fun q sh9 h9 => ∃ v : Int32, q = some (Value.int v) ∧ sh9 = sh ∧ RET v h9)) (hR : gR E = { frames := 0, cells := 0, slots := 0, locals := 0 }) (hV : V_X8_hasLost_0 w sh x0 h RET) : G w E 1 0 [(0, rv w.2.2.2 x0)] [] sh h 0 0 := by
  unfold V_X8_hasLost_0 at hV
  refine g_aload_n (pc := 0) X 0 rfl rfl dX8_hasLost_0 ?_
  obtain ⟨q1, hV⟩ := hV
  refine g_getI (pc := 1) X fl_X8_23 q1 dX8_hasLost_1 ?_
  exact g_zret (pc := 4) X Tt hV.1 ⟨_, rfl, rfl, hV.2⟩ dX8_hasLost_4
def C_X8_hasLost (w : Wd) (sh : List Sh) (x0 : Nat) (h : Hp) (RET : Int32 → Hp → Prop) : Prop := CI w yX8_hasLost (.code yX8_hasLost cX8_hasLost 1 (some .boolean)) 0 0 [rv w.2.2.2 x0] sh h RET
theorem K_X8_hasLost {w : Wd} {sh : List Sh} {x0 : Nat} {h : Hp} {RET : Int32 → Hp → Prop} (hV : V_X8_hasLost_0 w sh x0 h RET) : C_X8_hasLost w sh x0 h RET :=
  Ct_of (by decide +kernel) (by simp [lg_sl, rv_cat, cat_int, cat_long]) (fun E X Tt hR _ => by
    rw [show lv_args 0 [rv w.2.2.2 x0] = [(0, rv w.2.2.2 x0)] from by simp [lv_args, rv_cat, cat_int, cat_long]]
    refine g_lv [0] rfl ?_
    exact W_X8_hasLost_0 X Tt hR hV)
