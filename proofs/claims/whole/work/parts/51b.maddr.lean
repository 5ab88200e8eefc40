/-! the reference: caches and addresses (my own) -/
theorem M_noCaches {w : Wd} {h : Hp} (f : Fin h) : C_X12_noCaches w SH 97 h (fun h1 => (∀ i, i < 32 → h1.2.2 108 i = 0) ∧ (∀ i, i < 4096 → h1.2.2 109 i = 0) ∧ h1.1 97 29 = 0 ∧ Fm [29] [] [108, 109] h h1) := by
  have k27 := fx f 97 27 108 (by decide +kernel)
  have k28 := fx f 97 28 109 (by decide +kernel)
  refine K_X12_noCaches nlt_wf (fun m x0 x1 h' => x0 = 97 ∧ ∃ k, m = 5000 + (32 - k) ∧ k ≤ 32 ∧ x1 = nI k ∧ (∀ i, i < k → h'.2.2 108 i = 0) ∧ Fm [29] [] [108, 109] h h') (fun m x0 x1 h' => x0 = 97 ∧ ∃ k, m = 4096 - k ∧ k ≤ 4096 ∧ x1 = nI k ∧ (∀ i, i < 32 → h'.2.2 108 i = 0) ∧ (∀ i, i < k → h'.2.2 109 i = 0) ∧ Fm [29] [] [108, 109] h h') ?_ ?_ ?_
  · intro y1 e1
    exact ⟨5032, rfl, 0, rfl, by omega, e1, fun i hi => absurd hi (by omega), Fm.rf⟩
  · rintro m x0 x1 h' ⟨rfl, k, rfl, hk, rfl, z, F⟩
    rw [V_X12_noCaches_2, show (32 : Int32) = nI 32 from rfl, nI_leI (by omega) (by omega)]
    refine ⟨fun c7 y2 e2 => ⟨4096, by omega, rfl, 0, rfl, by omega, e2, fun i hi => z i (by omega), fun i hi => absurd hi (by omega), F⟩, fun c7 => ⟨rfl, 32, by rw [F.1, k27]; rfl, vp_in_nI (by omega) (by decide), fun h8 e8 y10 e10 => ?_⟩⟩
    rw [F.1, k27, nI_clamp (by omega)] at e8
    subst e8
    refine ⟨5000 + (32 - (k + 1)), by omega, rfl, k + 1, rfl, by omega, by rw [e10, nI_1], fun i hi => ?_, F.putJ (by simp)⟩
    by_cases hik : i = k
    · subst hik; rw [wJ_same]
    · rw [wJ_idx hik]; exact z i (by omega)
  · rintro m x0 x1 h' ⟨rfl, k, rfl, hk, rfl, z, y, F⟩
    rw [V_X12_noCaches_23, show (4096 : Int32) = nI 4096 from rfl, nI_leI (by omega) (by omega)]
    refine ⟨fun c7 => ⟨rfl, fun h3 e3 => ?_⟩, fun c7 => ⟨rfl, 4096, by rw [F.1, k28]; rfl, vp_in_nI (by omega) (by decide), fun h9 e9 y11 e11 => ?_⟩⟩
    · subst e3
      exact ⟨z, fun i hi => y i (by omega), wI_same, F.put (by simp)⟩
    · rw [F.1, k28, nI_clamp (by omega)] at e9
      subst e9
      refine ⟨4096 - (k + 1), by omega, rfl, k + 1, rfl, by omega, by rw [e11, nI_1], fun i hi => by rw [wJ_cell (by decide)]; exact z i hi, fun i hi => ?_, F.putJ (by simp)⟩
      by_cases hik : i = k
      · subst hik; rw [wJ_same]
      · rw [wJ_idx hik]; exact y i (by omega)
theorem M_remember {w : Wd} {h : Hp} {t : Nat} {c : Wc} {s : Wst} (X : MR h t c s) (a : Nat) (ha : a < 16000) : C_X12_remember w SH 97 (lN a) h (fun h1 => MR h1 t c (((s.snr (keepN c.T.2.1 s.nr s.nx a)).ssm (keepS c.T.2.2 s.sm a)).snx (keepX c.T.2.1 s.nx)) ∧ Fm [29] [] [108, 109] h h1) := by
  have f := X.r.1
  have k10 := fx f 97 10 102 (by decide +kernel)
  have k11 := fx f 97 11 103 (by decide +kernel)
  have k27 := fx f 97 27 108 (by decide +kernel)
  have k28 := fx f 97 28 109 (by decide +kernel)
  have ht := X.t.1
  have hN := X.C.n
  have hS := X.C.m
  have hx := X.W.nx
  have fin : ∀ (h' : Hp), Fm [29] [] [108, 109] h h' → h'.1 97 29 = nI (keepX c.T.2.1 s.nx) → (∀ i, i < c.T.2.1 → h'.2.2 108 i = lN (keepN c.T.2.1 s.nr s.nx a i)) → h'.2.2 109 = h.2.2 109 → V_X12_remember_47 w SH 97 (lN a) (nI c.T.2.2) h' (fun h1 => MR h1 t c (((s.snr (keepN c.T.2.1 s.nr s.nx a)).ssm (keepS c.T.2.2 s.sm a)).snx (keepX c.T.2.1 s.nx)) ∧ Fm [29] [] [108, 109] h h1) := by
    intro h' F a29 an as
    have WW : ∀ S', S' = keepS c.T.2.2 s.sm a → WOk c (((s.snr (keepN c.T.2.1 s.nr s.nx a)).ssm S').snx (keepX c.T.2.1 s.nx)) := by
      intro S' e
      subst e
      have W := X.W
      refine WOk.of ⟨W.ca, W.da, W.aa, W.s1, W.s2, ?_, ?_, keepX_ok hx, W.ac, W.by_⟩
      · show ∀ i, keepN _ _ _ _ i < 16000
        unfold keepN
        split
        · exact updN_lt W.nr ha
        · exact W.nr
      · show ∀ i, keepS _ _ _ i < 16000
        unfold keepS
        split
        · exact updN_lt W.sm ha
        · exact W.sm
    rw [V_X12_remember_47, show (0 : Int32) = nI 0 from rfl, nI_leI (by omega) (by omega)]
    refine ⟨fun c7 => ⟨?_, F⟩, fun c7 => ?_⟩
    · have e0 : keepS c.T.2.2 s.sm a = s.sm := by unfold keepS; rw [if_neg (by omega)]
      rw [e0]
      exact X.kp F a29 an (by rw [as]; exact X.sm) (WW _ e0.symm)
    · have em : (256 : Int32) * nI c.T.2.2 = nI (256 * c.T.2.2) := by rw [show (256 : Int32) = nI 256 from rfl, pk_mul]
      have hm := Nat.mod_lt a (show 0 < 256 * c.T.2.2 by omega)
      refine ⟨rfl, ?_, 4096, by rw [F.1, k28]; rfl, ?_, fun h7 e7 => ?_⟩
      · rw [em, nI_l (by omega), show (0 : Int64) = lN 0 from rfl, pk_lEQ (by omega) (by omega)]; omega
      · rw [em, nI_l (by omega), pk_lRem (by omega) (by omega) (by omega), lN_i]
        exact vp_in_nI (by omega) (by decide)
      · rw [em, nI_l (by omega), pk_lRem (by omega) (by omega) (by omega), lN_i, F.1, k28, nI_clamp (by omega)] at e7
        subst e7
        have F2 : Fm [29] [] [108, 109] h (wJ h' 109 (a % (256 * c.T.2.2)) (lN a)) := F.putJ (by simp)
        refine ⟨X.kp F2 a29 (fun i hi => by rw [wJ_cell (by decide)]; exact an i hi) (fun i hi => ?_) (WW _ rfl), F2⟩
        unfold keepS
        rw [if_pos (by omega)]
        unfold updN
        by_cases hi2 : i = a % (256 * c.T.2.2)
        · rw [if_pos hi2, hi2, wJ_same]
        · rw [if_neg hi2, wJ_idx hi2, as]; exact X.sm i hi
  refine K_X12_remember ⟨rfl, 4, by rw [k10]; rfl, by rw [X.i18]; exact vp_in_nI ht (by decide), fun y5 e5 => ⟨4, by rw [k11]; rfl, by rw [X.i18]; exact vp_in_nI ht (by decide), fun y10 e10 => ?_⟩⟩
  rw [k10, X.i18, nI_clamp (by omega), X.t.2.2.1] at e5
  rw [k11, X.i18, nI_clamp (by omega), X.t.2.2.2.1] at e10
  subst e5; subst e10
  rw [X.i29]
  refine ⟨fun c7 => fin h Fm.rf ?_ ?_ rfl, fun c7 => ⟨32, by rw [k27]; rfl, vp_in_nI ?_ (by decide), fun h16 e16 => ⟨?_, fun h19 e19 => ?_⟩⟩⟩
  · rw [show (0 : Int32) = nI 0 from rfl, nI_leI (by omega) (by omega)] at c7
    unfold keepX; rw [if_neg (by omega)]; exact X.i29
  · rw [show (0 : Int32) = nI 0 from rfl, nI_leI (by omega) (by omega)] at c7
    intro i hi
    omega
  · rw [show (0 : Int32) = nI 0 from rfl, nI_leI (by omega) (by omega)] at c7
    omega
  · rw [show (0 : Int32) = nI 0 from rfl, nI_leI (by omega) (by omega)] at c7
    rw [nIz (by omega)]; omega
  · rw [show (0 : Int32) = nI 0 from rfl, nI_leI (by omega) (by omega)] at c7
    have hnx : s.nx < c.T.2.1 := by omega
    rw [k27, nI_clamp (by omega)] at e16
    subst e16
    have e29 : (wJ h 108 s.nx (lN a)).1 97 29 = nI s.nx := X.i29
    rw [e29, nI_1, pk_rem (by omega) (by omega) (by omega)] at e19
    subst e19
    refine fin _ ((Fm.rf.putJ (by simp)).put (by simp)) ?_ (fun i hi => ?_) ?_
    · rw [wI_same]; unfold keepX; rw [if_pos (by omega)]
    · show (wJ h 108 s.nx (lN a)).2.2 108 i = _
      unfold keepN
      rw [if_pos (by omega)]
      unfold updN
      by_cases hi2 : i = s.nx
      · rw [if_pos hi2, hi2, wJ_same]
      · rw [if_neg hi2, wJ_idx hi2]; exact X.nr i hi
    · show (wJ h 108 s.nx (lN a)).2.2 109 = _
      rw [wJ_cell (by decide)]
def adrMs (r : Option (Nat × Nat)) (q : Nat) (v : Int64) (h1 : Hp) : Prop := match r with
  | none => h1.1 97 36 ≠ 0 ∨ h1.1 97 37 ≠ 0 ∨ v < 0
  | some (a, q') => h1.1 97 36 = 0 ∧ h1.1 97 37 = 0 ∧ q' = q ∧ a < 2 ^ 40 ∧ v = lN a
theorem M_addressBy {w : Wd} {h : Hp} {t : Nat} {c : Wc} {s : Wst} (X : MR h t c s) (mode : Nat) (hm : mode < 2 + c.T.2.1 + c.T.2.2) : C_X12_addressBy w SH 97 (nI mode) h (fun v h1 => (∃ q, MR h1 t c (s.saa q) ∧ adrMs (adrP c mode s) q v h1) ∧ Fm [14, 36, 37, 40] [] [] h h1) := by
  have f := X.r.1
  have k10 := fx f 97 10 102 (by decide +kernel)
  have k27 := fx f 97 27 108 (by decide +kernel)
  have k28 := fx f 97 28 109 (by decide +kernel)
  have ht := X.t.1
  have hN := X.C.n
  have hS := X.C.m
  have cl := X.C.l
  have caE := X.C.a
  have wa := X.W.aa
  have hsl : s.sp.length ≤ 16000 := by have := X.W.s2; have := X.C.s; have := X.C.z; omega
  refine K_X12_addressBy ⟨rfl, 4, by rw [k10]; rfl, by rw [X.i18]; exact vp_in_nI ht (by decide), fun y5 e5 h7 e7 h9 e9 => ?_⟩
  rw [k10, X.i18, nI_clamp (by omega), X.t.2.2.1] at e5
  subst e5
  have F9 : Fm [14, 36, 37, 40] [] [] h h9 := by rw [e9, e7]; exact (Fm.rf.put (by simp)).put (by simp)
  have a36 : h9.1 97 36 = 0 := by rw [e9, wI_idx (by decide), e7, wI_same]
  have a37 : h9.1 97 37 = 0 := by rw [e9, wI_same]
  have X9 : MR h9 t c s := by
    refine X.nop ?_
    rw [e9, e7]; exact (Fm.rf.put (by simp)).put (by simp)
  have src9 : h.2.1 97 13 = 98 := X.r.2.1
  rw [show (2 : Int32) = nI 2 from rfl, nI_add, nI_ltI (by omega) (by omega)]
  refine ⟨fun c7 y12 e12 h14 e14 => ?_, fun c7 => ?_⟩
  · rw [X9.i14] at e12
    rw [X9.i40] at e14
    subst e12
    have S14 : Sr h14 c.src := X9.r.fm (K := [14]) (S := []) (L := []) (by rw [e14]; exact Fm.rf.put (by simp)) (by simp)
    have b14 : h14.1 97 14 = nI s.aa := by rw [e14, wI_same]
    have b41 : h14.1 97 41 = nI c.aE := by rw [e14, wI_idx (by decide)]; exact X9.i41
    refine ⟨_, by rw [b41]; exact M_big S14 b14 ⟨wa, caE⟩, fun v20 h19 hp y21 e21 h23 e23 h25 e25 => ?_⟩
    obtain ⟨q, q1, q2, c14, F19, hb⟩ := hp
    subst e21
    rw [c14] at e23
    have G25 : Fm [14, 36, 37, 40] [] [] h9 h25 := by
      have g14 : Fm [14, 36, 37, 40] [] [] h9 h14 := by rw [e14]; exact Fm.rf.put (by simp)
      rw [e25, e23]
      exact ((g14.tr (F19.mono (by simp) (by simp) (by simp))).put (by simp)).put (by simp)
    have F25 := F9.tr G25
    have d14 : h25.1 97 14 = nI s.ca := by rw [e25, wI_same]
    have d40 : h25.1 97 40 = nI q := by rw [e25, wI_idx (by decide), e23, wI_same]
    have X25 : MR h25 t c (s.saa q) := X9.aa G25 d14 d40 q2
    have i36 : h25.1 97 36 = h19.1 97 36 := by rw [e25, wI_idx (by decide), e23, wI_idx (by decide)]
    have i37 : h25.1 97 37 = h19.1 97 37 := by rw [e25, wI_idx (by decide), e23, wI_idx (by decide)]
    have r27 : h19.2.1 97 27 = 108 := by rw [F19.1, e14]; show h9.2.1 97 27 = _; rw [F9.1]; exact k27
    have hz : adrP c mode s = (match bigP c.src c.aE s.aa with
        | .inl _ => none
        | .inr (v, q) => if mode = 0 then some (v, q) else if mode = 1 then (if v ≤ s.sp.length then some (s.sp.length - v, q) else none) else some (s.nr (mode - 2) + v, q)) := by
      unfold adrP
      rw [if_neg (by omega)]
      rfl
    rw [hz]
    cases hB : bigP c.src c.aE s.aa with
    | inl x =>
      have nn : ∀ v : Int64, (∃ q, MR h25 t c (s.saa q) ∧ adrMs none q v h25) ∧ Fm [14, 36, 37, 40] [] [] h h25 := by
        intro v
        refine ⟨⟨q, X25, ?_⟩, F25⟩
        rw [hB] at hb
        unfold adrMs
        rw [i36, i37]
        cases x with
        | true =>
          have hb : h19.1 97 37 = 1 := hb
          exact Or.inr (Or.inl (by rw [hb]; decide))
        | false => exact Or.inl (by rw [hb.2]; decide)
      refine ⟨fun c8 => ⟨fun c9 => ⟨32, by rw [r27]; rfl, ?_, nn _⟩, fun c9 => nn _⟩, fun c8 => nn _⟩
      rw [nIz (by omega)] at c8
      rw [show (1 : Int32) = nI 1 from rfl, nI_eq (by omega) (by omega)] at c9
      rw [pk_sub (by omega)]
      exact vp_in_nI (by omega) (by decide)
    | inr x =>
      obtain ⟨v, q'⟩ := x
      have hk := bigP_ok hB
      rw [hB] at hb
      obtain ⟨b37, b36, ev, eq⟩ := hb
      have ev : y21 = lN v := ev
      have eq : q' = q := eq
      subst ev; subst eq
      rw [← i36] at b36
      rw [← i37] at b37
      simp only []
      rw [nIz (by omega)]
      refine ⟨fun c8 => ?_, fun c8 => ?_⟩
      · rw [if_neg c8, show (1 : Int32) = nI 1 from rfl, nI_eq (by omega) (by omega)]
        refine ⟨fun c9 => ?_, fun c9 => ?_⟩
        · rw [if_neg c9, pk_sub (by omega), nI_clamp (by omega), r27]
          refine ⟨32, rfl, vp_in_nI (by omega) (by decide), ⟨_, X25, ?_⟩, F25⟩
          have hn := X.W.nr (mode - 2)
          rw [X25.nr (mode - 2) (by omega), lN_add]
          exact ⟨b36, b37, rfl, by show s.nr (mode - 2) + v < 2 ^ 40; omega, rfl⟩
        · rw [if_pos c9]
          refine ⟨⟨_, X25, ?_⟩, F25⟩
          rw [X25.i26, nI_l (by show s.sp.length < 2 ^ 31; omega)]
          by_cases hv : v ≤ s.sp.length
          · rw [if_pos hv]
            exact ⟨b36, b37, rfl, by omega, lN_sub hv⟩
          · rw [if_neg hv]
            exact Or.inr (Or.inr (lsub_neg (by show s.sp.length < _; omega) (by omega) (by show s.sp.length < v; omega)))
      · rw [if_pos c8]
        exact ⟨⟨_, X25, b36, b37, rfl, by omega, rfl⟩, F25⟩
  · have hz : adrP c mode s = (if c.aE ≤ s.aa then none else some (s.sm (256 * (mode - 2 - c.T.2.1) + c.src.getD s.aa 0), s.aa + 1)) := by
      unfold adrP
      rw [if_pos (by omega)]
    rw [hz, X9.i40, X9.i41, nI_ltI (by omega) (by omega), src9]
    refine ⟨fun c8 => ⟨8000, rfl, vp_in_nI (by omega) (by decide), fun y36 e36 h38 e38 => ?_⟩, fun c8 h43 e43 => ?_⟩
    · rw [nI_clamp (by omega), X9.r.at (by omega)] at e36
      rw [nI_1] at e38
      have hb := getD_lt X.C.b s.aa
      rw [if_neg (by omega)]
      generalize c.src.getD s.aa 0 = b at e36 hb
      subst e36
      have ei : (256 : Int32) * (nI mode - nI 2 - nI c.T.2.1) + nI b = nI (256 * (mode - 2 - c.T.2.1) + b) := by
        rw [pk_sub (by omega), pk_sub (by omega), show (256 : Int32) = nI 256 from rfl, pk_mul, nI_add]
      have hi : 256 * (mode - 2 - c.T.2.1) + b < 256 * c.T.2.2 := by omega
      rw [ei, nI_clamp (by omega), k28]
      subst e38
      have F38 : Fm [14, 36, 37, 40] [] [] h9 (wI h9 97 40 (nI (s.aa + 1))) := Fm.rf.put (by simp)
      have X38 := X9.aa F38 (by rw [wI_idx (by decide)]; exact X9.i14) wI_same (show s.aa + 1 ≤ c.aE by omega)
      refine ⟨4096, rfl, vp_in_nI (by omega) (by decide), ⟨_, X38, ?_⟩, F9.tr F38⟩
      have := X.W.sm (256 * (mode - 2 - c.T.2.1) + b)
      rw [X38.sm _ hi]
      exact ⟨by rw [wI_idx (by decide)]; exact a36, by rw [wI_idx (by decide)]; exact a37, rfl, by omega, rfl⟩
    · rw [if_pos (by omega)]
      subst e43
      have F43 : Fm [14, 36, 37, 40] [] [] h9 (wI h9 97 37 1) := Fm.rf.put (by simp)
      refine ⟨⟨s.aa, X9.nop (Fm.rf.put (by simp)), Or.inr (Or.inl ?_)⟩, F9.tr F43⟩
      rw [wI_same]; decide
