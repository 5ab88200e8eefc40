/-! the reference: a window's codes (my own) -/
def tgM (c : Wc) (s : Wst) : Nat × Nat × Wst :=
  let r := codesP c (c.cE - s.ca) s
  if r.1 ≠ 0 then r else
  if r.2.2.sp.length < c.ss + c.tz ∨ r.2.2.da < c.dE ∨ r.2.2.aa < c.aE then (15, c.cE, r.2.2) else r
theorem runP_tg (c : Wc) (sm : Bool) (p : Nat) (s : Wst) : runP c sm p s = (if (tgM c s).1 ≠ 0 then tgM c s else if sm = true ∧ sumGo c.src p 4 ≠ adl ((tgM c s).2.2.sp.drop c.ss) then (16, p, (tgM c s).2.2) else tgM c s) := by
  unfold runP tgM
  simp only []
  generalize codesP c (c.cE - s.ca) s = r
  by_cases h1 : r.1 ≠ 0
  · rw [if_pos h1, if_pos h1, if_pos h1]
  · rw [if_neg h1, if_neg h1]
    by_cases h2 : r.2.2.sp.length < c.ss + c.tz ∨ r.2.2.da < c.dE ∨ r.2.2.aa < c.aE
    · rw [if_pos h2, if_pos h2, if_pos (by show (15 : Nat) ≠ 0; decide)]
    · rw [if_neg h2, if_neg h2, if_neg h1]
theorem codesP_step {c : Wc} {n : Nat} {s : Wst} (h : s.ca < c.cE) : codesP c (n + 1) s = if (codeP c s).1 = 0 then codesP c n (codeP c s).2 else ((codeP c s).1, s.ca, (codeP c s).2) := by
  rw [codesP, if_neg (by omega)]
def TK : List Nat := [6, 7, 14, 26, 29, 31, 36, 37, 38, 39, 40, 41]
def TgI (h : Hp) (t : Nat) (c : Wc) (tot : Nat × Nat × Wst) (m x0 : Nat) (x1 x4 x5 : Int32) (h' : Hp) : Prop := x0 = 97 ∧ x1 = nI c.tz ∧ x4 = nI c.cE ∧ x5 = nI c.aE ∧ Fm TK AS AL h h' ∧ ((∃ s' n, MR h' t c s' ∧ Fa h' 0 0 ∧ c.cE - s'.ca ≤ n ∧ codesP c n s' = tot ∧ m = 4 * (c.cE - s'.ca)) ∨ (∃ x y z, tot.1 ≠ 0 ∧ MR h' t c (((tot.2.2.sca x).sda y).saa z) ∧ Fa h' tot.1 tot.2.1 ∧ m = 0))
def TgJ (h : Hp) (t : Nat) (c : Wc) (tot : Nat × Nat × Wst) (m x0 : Nat) (x1 x4 x5 x6 x7 x9 : Int32) (h' : Hp) : Prop := x0 = 97 ∧ x1 = nI c.tz ∧ x4 = nI c.cE ∧ x5 = nI c.aE ∧ Fm TK AS AL h h' ∧ ∃ s0 n w, x6 = nI s0.ca ∧ x7 = nI (c.src.getD s0.ca 0) ∧ x9 = nI w ∧ WOk c s0 ∧ s0.ca < c.cE ∧ c.cE - s0.ca ≤ n + 1 ∧ codesP c (n + 1) s0 = tot ∧ m = 4 * (c.cE - (s0.ca + 1)) + 3 - w / 3 ∧ ((w = 0 ∧ MR h' t c (preC c s0) ∧ Fa h' 0 0) ∨ (w = 3 ∧ ∃ s2, actP c (tE c.T (c.src.getD s0.ca 0) 0) (tE c.T (c.src.getD s0.ca 0) 1) (tE c.T (c.src.getD s0.ca 0) 2) (preC c s0) = .inr s2 ∧ MR h' t c s2 ∧ Fa h' 0 0) ∨ (w = 6 ∧ (codeP c s0).1 = 0 ∧ MR h' t c (codeP c s0).2 ∧ Fa h' 0 0) ∨ ((w = 3 ∨ w = 6) ∧ (codeP c s0).1 ≠ 0 ∧ ∃ x y z, MR h' t c ((((codeP c s0).2.sca x).sda y).saa z) ∧ Fa h' (codeP c s0).1 s0.ca))
theorem gH_ok {T : Tb} (g : GoodT T) {c w : Nat} (hc : c < 256) (hw : w = 0 ∨ w = 3) : tE T c w < 4 ∧ (tE T c w = 3 → tE T c (w + 2) < 2 + T.2.1 + T.2.2) := by
  have := g c hc w hw
  omega
theorem M_target {w : Wd} {h : Hp} {t : Nat} {c : Wc} {s : Wst} (r : Sr h c.src) (et : t < 4 ∧ EntV h t c.T) (i18 : h.1 97 18 = nI t) (i19 : h.1 97 19 = (if c.own = true then 1 else 0)) (i25 : h.1 97 25 = nI c.ss) (sp : ByV h 107 s.sp) (hsp : s.sp.length = c.ss) (tl : ∀ j, j < 8 → h.1 110 j = nI (s.tl j)) (ac : ActV h s.ac) (C : WcOk c) (W : WOk c s) (nr0 : s.nr = fun _ => 0) (sm0 : s.sm = fun _ => 0) (nx0 : s.nx = 0) (A : Fa h 0 0) (hca : s.ca = c.dE) (haa : s.aa = c.cE) : C_X12_target w SH 97 (nI c.tz) (nI s.da) (nI c.dE) (nI c.cE) (nI c.aE) h (fun h1 => (∃ h5 x y z, MR h5 t c ((((tgM c s).2.2.sca x).sda y).saa z) ∧ Fa h5 (tgM c s).1 (tgM c s).2.1 ∧ h1 = wI h5 97 14 (nI c.aE)) ∧ Fm TK AS AL h h1) := by
  have cl := C.l
  have cc := C.c_
  have cd := C.d
  have ca := C.a
  have cz := C.z
  have cs := C.s
  generalize ht : codesP c (c.cE - s.ca) s = tot
  have hg : tgM c s = (if tot.1 ≠ 0 then tot else if tot.2.2.sp.length < c.ss + c.tz ∨ tot.2.2.da < c.dE ∨ tot.2.2.aa < c.aE then (15, c.cE, tot.2.2) else tot) := by
    unfold tgM
    simp only [ht]
  refine K_X12_target nlt_wf (TgI h t c tot) (TgJ h t c tot) ?_ ?_ ?_
  · refine ⟨rfl, _, M_noCaches r.1, fun h5 hp h6 e6 h8 e8 h10 e10 h12 e12 h14 e14 h16 e16 => ?_⟩
    obtain ⟨z1, z2, z3, F5⟩ := hp
    have j25 : h5.1 97 25 = nI c.ss := by rw [F5.2.2.2 25 (by decide)]; exact i25
    rw [j25] at e6
    have F16 : Fm TK AS AL h5 h16 := by
      rw [e16, e14, e12, e10, e8, e6]
      exact (((((Fm.rf.put (by decide)).put (by decide)).put (by decide)).put (by decide)).put (by decide)).put (by decide)
    have F : Fm TK AS AL h h16 := (F5.mono (by decide) (by decide) (by decide)).tr F16
    have G5 : Fm [29] [] [108, 109] h h5 := F5
    have k : ∀ k, k ≠ 26 → k ≠ 38 → k ≠ 39 → k ≠ 40 → k ≠ 41 → k ≠ 14 → h16.1 97 k = h5.1 97 k := by
      intro k a b c d e f
      rw [e16, wI_idx f, e14, wI_idx e, e12, wI_idx d, e10, wI_idx c, e8, wI_idx b, e6, wI_idx a]
    have k2 : ∀ cc, cc ≠ 97 → h16.1 cc = h5.1 cc := by
      intro cc hcc
      rw [e16, wI_cell hcc, e14, wI_cell hcc, e12, wI_cell hcc, e10, wI_cell hcc, e8, wI_cell hcc, e6, wI_cell hcc]
    have G16 : Fm [14, 26, 38, 39, 40, 41] [] [] h5 h16 := by
      rw [e16, e14, e12, e10, e8, e6]
      exact (((((Fm.rf.put (by decide)).put (by decide)).put (by decide)).put (by decide)).put (by decide)).put (by decide)
    have lj : h16.2.2 = h5.2.2 := by rw [e16, e14, e12, e10, e8, e6]; rfl
    have X16 : MR h16 t c s := by
      refine MR.of ⟨(r.fm G5 (by decide)).fm G16 (by decide), ⟨et.1, (et.2.fm G5 (by decide) (by decide) (by decide)).fm G16 (by decide) (by decide) (by decide)⟩, ?_, ?_, ?_, ?_, ?_, ?_, ?_, ?_, ?_, ?_, G16.by_ (G5.by_ sp (by decide) (by decide)) (by decide) (by decide), ?_, ?_, ?_, (ac.fm G5 (by decide) (by decide) (by decide) (by decide) (by decide)).fm G16 (by decide) (by decide) (by decide) (by decide) (by decide), C, W⟩
      · rw [e16, wI_same, hca]
      · rw [k 18 (by decide) (by decide) (by decide) (by decide) (by decide) (by decide), F5.2.2.2 18 (by decide)]; exact i18
      · rw [k 19 (by decide) (by decide) (by decide) (by decide) (by decide) (by decide), F5.2.2.2 19 (by decide)]; exact i19
      · rw [k 25 (by decide) (by decide) (by decide) (by decide) (by decide) (by decide)]; exact j25
      · rw [e16, wI_idx (by decide), e14, wI_idx (by decide), e12, wI_idx (by decide), e10, wI_idx (by decide), e8, wI_idx (by decide), e6, wI_same, hsp]
      · rw [k 29 (by decide) (by decide) (by decide) (by decide) (by decide) (by decide), z3, nx0]; rfl
      · rw [e16, wI_idx (by decide), e14, wI_idx (by decide), e12, wI_idx (by decide), e10, wI_idx (by decide), e8, wI_same]
      · rw [e16, wI_idx (by decide), e14, wI_idx (by decide), e12, wI_idx (by decide), e10, wI_same]
      · rw [e16, wI_idx (by decide), e14, wI_idx (by decide), e12, wI_same, haa]
      · rw [e16, wI_idx (by decide), e14, wI_same]
      · intro i hi
        have := C.n
        rw [lj, z1 i (by omega), nr0]; rfl
      · intro i hi
        have := C.m
        rw [lj, z2 i (by omega), sm0]; rfl
      · intro j hj
        rw [k2 110 (by decide), F5.2.2.1 110 (by decide) (by decide)]; exact tl j hj
    exact ⟨_, rfl, rfl, rfl, rfl, F, Or.inl ⟨s, _, X16, (A.fm G5 (by decide) (by decide)).fm G16 (by decide) (by decide), Nat.le_refl _, ht, rfl⟩⟩
  · rintro m x0 x1 x4 x5 h' ⟨rfl, rfl, rfl, rfl, F, st⟩
    have bad : ∀ (x y z : Nat), tot.1 ≠ 0 → MR h' t c (((tot.2.2.sca x).sda y).saa z) → Fa h' tot.1 tot.2.1 → ∀ L39 L150, V_X12_target_222 w SH 97 (nI c.tz) (nI c.cE) (nI c.aE) h' L39 L150 (fun h1 => (∃ h5 x y z, MR h5 t c ((((tgM c s).2.2.sca x).sda y).saa z) ∧ Fa h5 (tgM c s).1 (tgM c s).2.1 ∧ h1 = wI h5 97 14 (nI c.aE)) ∧ Fm TK AS AL h h1) := by
      intro x y z hf Y A' L39 L150
      refine ⟨rfl, fun _ h3 e3 => ?_, fun c7 => absurd (A'.eq.mp c7) hf⟩
      subst e3
      rw [hg, if_pos hf]
      exact ⟨⟨h', x, y, z, Y, A', rfl⟩, F.put (by decide)⟩
    rcases st with ⟨s', n, Y, A', hn, et', rfl⟩ | ⟨x, y, z, hf, Y, A', rfl⟩
    · have w1 := Y.W.s1
      have w2 := Y.W.s2
      have wd := Y.W.da
      have wa := Y.W.aa
      have wc := Y.W.ca
      have ok : c.cE ≤ s'.ca → ∀ L39 L150, V_X12_target_222 w SH 97 (nI c.tz) (nI c.cE) (nI c.aE) h' L39 L150 (fun h1 => (∃ h5 x y z, MR h5 t c ((((tgM c s).2.2.sca x).sda y).saa z) ∧ Fa h5 (tgM c s).1 (tgM c s).2.1 ∧ h1 = wI h5 97 14 (nI c.aE)) ∧ Fm TK AS AL h h1) := by
        intro he L39 L150
        rw [codesP_end he] at et'
        subst et'
        rw [if_neg (by simp)] at hg
        simp only [] at hg
        have f15 : (s'.sp.length < c.ss + c.tz ∨ s'.da < c.dE ∨ s'.aa < c.aE) → V_X12_target_264 w SH 97 (nI c.cE) (nI c.aE) h' L39 L150 (fun h1 => (∃ h5 x y z, MR h5 t c ((((tgM c s).2.2.sca x).sda y).saa z) ∧ Fa h5 (tgM c s).1 (tgM c s).2.1 ∧ h1 = wI h5 97 14 (nI c.aE)) ∧ Fm TK AS AL h h1) := by
          intro hb
          rw [if_pos hb] at hg
          refine ⟨rfl, _, M_fails A' 15 c.cE (by decide), fun v6 h5 hp h7 e7 => ?_⟩
          obtain ⟨-, A5, F5⟩ := hp
          subst e7
          rw [hg]
          exact ⟨⟨h5, s'.ca, s'.da, s'.aa, Y.nop (F5.mono (by decide) (by decide) (by decide)), A5, rfl⟩, (F.tr (F5.mono (by decide) (by decide) (by decide))).put (by decide)⟩
        refine ⟨rfl, fun c7 => absurd (A'.eq.mpr rfl) c7, fun _ => ?_⟩
        rw [Y.i26, Y.i25, nI_add, nI_eq (by omega) (by omega), Y.i38, Y.i39, nI_ltI (by omega) (by omega), Y.i40, Y.i41, nI_leI (by omega) (by omega)]
        refine ⟨fun c7 => f15 (Or.inl (by omega)), fun c7 => ⟨fun c8 => f15 (Or.inr (Or.inl c8)), fun c8 => ⟨fun c9 h8 e8 => ?_, fun c9 => f15 (Or.inr (Or.inr (by omega)))⟩⟩⟩
        subst e8
        rw [if_neg (by omega)] at hg
        rw [hg]
        exact ⟨⟨h', s'.ca, s'.da, s'.aa, Y, A', rfl⟩, F.put (by decide)⟩
      rw [V_X12_target_39, Y.i14, nI_leI (by omega) (by omega)]
      refine ⟨rfl, fun c7 => ok c7 _ _, fun c7 => ⟨fun c8 => absurd (A'.eq.mpr rfl) c8, fun _ y4 e4 => ?_⟩⟩
      subst e4
      have k13 : h'.2.1 97 13 = 98 := Y.r.2.1
      rw [k13, nI_clamp (by omega), Y.r.at (by omega), nI_1]
      refine ⟨8000, rfl, vp_in_nI (by omega) (by decide), fun y9 e9 h11 e11 => ?_⟩
      subst e9
      have hb := getD_lt C.b s'.ca
      have F11 : Fm [14, 36, 37] [] [] h' h11 := by rw [e11]; exact Fm.rf.put (by decide)
      have Y11 : MR h11 t c (s'.sca (s'.ca + 1)) := Y.ca F11 (by rw [e11, wI_same]) (by omega)
      have A11 := A'.fm F11 (by decide) (by decide)
      have F11' := F.tr (F11.mono (by decide) (by decide) (by decide))
      have f11 := Y11.r.1
      have k30 := fx f11 97 30 110 (by decide +kernel)
      have ent : ∀ ww, ww < 6 → C_X12_entryOf w SH 97 (h11.1 97 18) (nI (c.src.getD s'.ca 0)) (nI ww) h11 (fun v h1 => h1 = h11 ∧ v = nI (tE c.T (c.src.getD s'.ca 0) ww)) := fun ww hw => by
        rw [Y11.i18]; exact S_entryOf f11 Y11.t.1 Y11.t.2 _ ww hb hw
      have hn1 : n = (n - 1) + 1 := by omega
      have last : ∀ (inc : Nat) (tl' : Nat → Nat), (if tE c.T (c.src.getD s'.ca 0) 0 ≠ 0 ∧ tE c.T (c.src.getD s'.ca 0) 3 ≠ 0 then cntP c.own s'.tl 4 1 else s'.tl) = tl' → (∀ j, tl' j = if j = 4 then s'.tl 4 + inc else s'.tl j) → V_X12_target_145 w SH 97 (nI c.tz) (nI c.cE) (nI c.aE) (nI s'.ca) (nI (c.src.getD s'.ca 0)) (nI inc) (h11.1 110 (4 : Int32).toNatClampNeg) (4 : Int32) 110 h11 (fun x0 x1 x4 x5 h_1 => ∃ a, a < 4 * (c.cE - s'.ca) ∧ TgI h t c tot a x0 x1 x4 x5 h_1) (fun x0 x1 x4 x5 x6 x7 x9 h_1 => ∃ a, a < 4 * (c.cE - s'.ca) ∧ TgJ h t c tot a x0 x1 x4 x5 x6 x7 x9 h_1) (fun h1 => (∃ h5 x y z, MR h5 t c ((((tgM c s).2.2.sca x).sda y).saa z) ∧ Fa h5 (tgM c s).1 (tgM c s).2.1 ∧ h1 = wI h5 97 14 (nI c.aE)) ∧ Fm TK AS AL h h1) := by
        intro inc tl' etl etl2
        refine ⟨8, rfl, vp_in_nI (n := 4) (by decide) (by decide), fun h4 e4 y6 e6 => ?_⟩
        have cl4 : (4 : Int32).toNatClampNeg = 4 := by decide
        rw [cl4, Y11.tl 4 (by decide), nI_add] at e4
        have F4 : Fm [31] [110, 111, 112, 113, 114] [] h11 h4 := by rw [e4]; exact Fm.rf.putC (by decide) (by decide)
        have t4 : ∀ j, j < 8 → h4.1 110 j = nI (tl' j) := by
          intro j hj
          rw [e4, wI_if, etl2 j]
          by_cases q : j = 4
          · rw [if_pos q, if_pos q]
          · rw [if_neg q, if_neg q]; exact Y11.tl j hj
        have A4 : ActV h4 (s'.sca (s'.ca + 1)).ac := Y11.ac.fm (K := []) (S := [110]) (L := []) (by rw [e4]; exact Fm.rf.putC (by decide) (by decide)) (by decide) (by decide) (by decide) (by decide) (by decide)
        have Y4 := Y11.lg F4 t4 A4
        have Y4 : MR h4 t c (preC c s') := by unfold preC; rw [etl]; exact Y4
        refine ⟨4 * (c.cE - (s'.ca + 1)) + 3, by omega, rfl, rfl, rfl, rfl, F11'.tr (F4.mono (by decide) (by decide) (by decide)), s', n - 1, 0, rfl, rfl, e6, Y.W, by omega, by omega, by rw [← hn1]; exact et', rfl, Or.inl ⟨rfl, Y4, A11.fm F4 (by decide) (by decide)⟩⟩
      have two : ∀ (d : Nat), (d = 1 ∧ (tE c.T (c.src.getD s'.ca 0) 0 ≠ 0 ∧ tE c.T (c.src.getD s'.ca 0) 3 ≠ 0) ∨ d = 0 ∧ ¬ (tE c.T (c.src.getD s'.ca 0) 0 ≠ 0 ∧ tE c.T (c.src.getD s'.ca 0) 3 ≠ 0)) → V_X12_target_119 w SH 97 (nI c.tz) (nI c.cE) (nI c.aE) (nI s'.ca) (nI (c.src.getD s'.ca 0)) (nI d) h11 (fun x0 x1 x4 x5 h_1 => ∃ a, a < 4 * (c.cE - s'.ca) ∧ TgI h t c tot a x0 x1 x4 x5 h_1) (fun x0 x1 x4 x5 x6 x7 x9 h_1 => ∃ a, a < 4 * (c.cE - s'.ca) ∧ TgJ h t c tot a x0 x1 x4 x5 x6 x7 x9 h_1) (fun h1 => (∃ h5 x y z, MR h5 t c ((((tgM c s).2.2.sca x).sda y).saa z) ∧ Fa h5 (tgM c s).1 (tgM c s).2.1 ∧ h1 = wI h5 97 14 (nI c.aE)) ∧ Fm TK AS AL h h1) := by
        intro d hd y1 e1
        subst e1
        rw [k30, Y11.i19]
        have no : ∀ j, s'.tl j = if j = 4 then s'.tl 4 + 0 else s'.tl j := by
          intro j
          split
          · rename_i q; rw [q]; rfl
          · rfl
        refine ⟨rfl, 8, rfl, vp_in_nI (n := 4) (by decide) (by decide), fun c8 => ?_, fun c8 => ⟨fun c9 => ?_, fun c9 => ?_⟩⟩
        · have ho : c.own = false := by
            cases ho : c.own with
            | false => rfl
            | true => rw [ho, if_pos rfl] at c8; exact absurd c8 (by decide)
          refine last 0 s'.tl ?_ no
          unfold cntP
          rw [ho]
          split <;> simp
        · rw [nIz (by omega)] at c9
          refine last 0 s'.tl ?_ no
          rw [if_neg (hd.resolve_left (by omega)).2]
        · rw [nIz (by omega)] at c9
          have hd1 := hd.resolve_right (by omega)
          have ho : c.own = true := by
            cases ho : c.own with
            | true => rfl
            | false => rw [ho, if_neg (by simp)] at c8; exact absurd rfl c8
          rw [show d = 1 from hd1.1] at *
          refine last 1 _ (if_pos hd1.2) fun j => ?_
          unfold cntP
          rw [ho, if_pos rfl]
          rfl
      have e0 := getD_lt C.tb (cellT (c.src.getD s'.ca 0) 0)
      have e3 := getD_lt C.tb (cellT (c.src.getD s'.ca 0) 3)
      have e0 : tE c.T (c.src.getD s'.ca 0) 0 < 256 := e0
      have e3 : tE c.T (c.src.getD s'.ca 0) 3 < 256 := e3
      refine ⟨_, ent 0 (by decide), fun v17 h16 hp => ?_⟩
      obtain ⟨q1, q2⟩ := hp
      obtain rfl := q1.symm
      subst q2
      rw [show (0 : Int32) = nI 0 from rfl, nI_leI (by omega) (by omega)]
      refine ⟨fun c8 => two 0 (Or.inr ⟨rfl, by omega⟩), fun c8 => ⟨_, ent 3 (by decide), fun v23 h22 hp => ?_⟩⟩
      obtain ⟨q1, q2⟩ := hp
      obtain rfl := q1.symm
      subst q2
      rw [nI_leI (by omega) (by omega)]
      exact ⟨fun c9 => two 0 (Or.inr ⟨rfl, by omega⟩), fun c9 => two 1 (Or.inl ⟨rfl, by omega, by omega⟩)⟩
    · refine ⟨rfl, fun _ => bad x y z hf Y A' _ _, fun _ => ⟨fun _ => bad x y z hf Y A' _ _, fun c8 => absurd (A'.eq.mp c8) hf⟩⟩
  · rintro m x0 x1 x4 x5 x6 x7 x9 h' ⟨rfl, rfl, rfl, rfl, F, s0, n, ww, rfl, rfl, rfl, W0, h0, hn, et', rfl, st⟩
    rw [codesP_step h0] at et'
    have hcp := codeP_ok C W0 h0
    have hb := getD_lt C.b s0.ca
    generalize hbb : c.src.getD s0.ca 0 = b at hb st
    have outOk : (codeP c s0).1 = 0 → MR h' t c (codeP c s0).2 → Fa h' 0 0 → ww ≤ 6 → ∃ a, a < 4 * (c.cE - (s0.ca + 1)) + 3 - ww / 3 ∧ TgI h t c tot a 97 (nI c.tz) (nI c.cE) (nI c.aE) h' := by
      intro e0 Y A' hw
      rw [if_pos e0] at et'
      exact ⟨4 * (c.cE - (codeP c s0).2.ca), by omega, rfl, rfl, rfl, rfl, F, Or.inl ⟨_, n, Y, A', by omega, et', rfl⟩⟩
    have outBad : (codeP c s0).1 ≠ 0 → (∃ x y z, MR h' t c ((((codeP c s0).2.sca x).sda y).saa z)) → Fa h' (codeP c s0).1 s0.ca → ww ≤ 6 → ∃ a, a < 4 * (c.cE - (s0.ca + 1)) + 3 - ww / 3 ∧ TgI h t c tot a 97 (nI c.tz) (nI c.cE) (nI c.aE) h' := by
      rintro e0 ⟨x, y, z, Y⟩ A' hw
      rw [if_neg e0] at et'
      subst et'
      exact ⟨0, by omega, rfl, rfl, rfl, rfl, F, Or.inr ⟨x, y, z, e0, Y, A', rfl⟩⟩
    have hcode : codeP c s0 = (match actP c (tE c.T b 0) (tE c.T b 1) (tE c.T b 2) (preC c s0) with
        | .inl f => (f, preC c s0)
        | .inr s2 => match actP c (tE c.T b 3) (tE c.T b 4) (tE c.T b 5) s2 with
          | .inl f => (f, s2)
          | .inr s3 => (0, s3)) := by
      rw [← hbb]; rfl
    have step : ∀ (s1 : Wst), MR h' t c s1 → Fa h' 0 0 → (ww = 0 ∨ ww = 3) → (∀ h7, AcMs (actP c (tE c.T b ww) (tE c.T b (ww + 1)) (tE c.T b (ww + 2)) s1) t c s1 s0.ca h7 → Fm TK AS AL h h7 → ∃ a, a < 4 * (c.cE - (s0.ca + 1)) + 3 - ww / 3 ∧ TgJ h t c tot a 97 (nI c.tz) (nI c.cE) (nI c.aE) (nI s0.ca) (nI b) (nI (ww + 3)) h7) → V_X12_target_150 w SH 97 (nI c.tz) (nI c.cE) (nI c.aE) (nI s0.ca) (nI b) (nI ww) h' (fun x0 x1 x4 x5 h_1 => ∃ a, a < 4 * (c.cE - (s0.ca + 1)) + 3 - ww / 3 ∧ TgI h t c tot a x0 x1 x4 x5 h_1) (fun x0 x1 x4 x5 x6 x7 x9 h_1 => ∃ a, a < 4 * (c.cE - (s0.ca + 1)) + 3 - ww / 3 ∧ TgJ h t c tot a x0 x1 x4 x5 x6 x7 x9 h_1) (fun h1 => (∃ h5 x y z, MR h5 t c ((((tgM c s).2.2.sca x).sda y).saa z) ∧ Fa h5 (tgM c s).1 (tgM c s).2.1 ∧ h1 = wI h5 97 14 (nI c.aE)) ∧ Fm TK AS AL h h1) := by
      intro s1 Y A' hw k
      have f' := Y.r.1
      have ent : ∀ v, v < 6 → C_X12_entryOf w SH 97 (h'.1 97 18) (nI b) (nI v) h' (fun x h1 => h1 = h' ∧ x = nI (tE c.T b v)) := fun v hv => by
        rw [Y.i18]; exact S_entryOf f' Y.t.1 Y.t.2 b v hb hv
      have g := gH_ok C.g hb hw
      have t1 : tE c.T b (ww + 1) < 256 := getD_lt C.tb _
      have t2 : tE c.T b (ww + 2) < 256 := getD_lt C.tb _
      rw [V_X12_target_150, show (6 : Int32) = nI 6 from rfl, nI_leI (by omega) (by omega)]
      refine ⟨fun c7 => absurd c7 (by omega), fun _ => ⟨rfl, fun c8 => absurd (A'.eq.mpr rfl) c8, fun _ => ⟨_, ent ww (by omega), fun v8 h7 hp => ?_⟩⟩⟩
      obtain ⟨q1, q2⟩ := hp
      obtain rfl := q1.symm
      subst q2
      refine ⟨_, by rw [nI_1]; exact ent (ww + 1) (by omega), fun v13 h12 hp => ?_⟩
      obtain ⟨q1, q2⟩ := hp
      obtain rfl := q1.symm
      subst q2
      refine ⟨_, by rw [show (2 : Int32) = nI 2 from rfl, nI_add]; exact ent (ww + 2) (by omega), fun v18 h17 hp => ?_⟩
      obtain ⟨q1, q2⟩ := hp
      obtain rfl := q1.symm
      subst q2
      refine ⟨_, M_act Y A' (tE c.T b ww) (tE c.T b (ww + 1)) (tE c.T b (ww + 2)) s0.ca g.1 t1 t2 g.2, fun h22 hp y23 e23 => ?_⟩
      rw [show (3 : Int32) = nI 3 from rfl, nI_add] at e23
      subst e23
      exact k h22 hp.1 (F.tr (hp.2.mono (by decide) (by decide) (by decide)))
    rcases st with ⟨rfl, Y, A'⟩ | ⟨rfl, s2, e2, Y, A'⟩ | ⟨rfl, e0, Y, A'⟩ | ⟨hw, e0, x, y, z, Y, A'⟩
    · refine step _ Y A' (Or.inl rfl) fun h7 ac7 F7 => ⟨_, by omega, rfl, rfl, rfl, rfl, F7, s0, n, 3, rfl, by rw [hbb], rfl, W0, h0, hn, by rw [codesP_step h0]; exact et', rfl, ?_⟩
      rw [hbb]
      cases hA : actP c (tE c.T b 0) (tE c.T b (0 + 1)) (tE c.T b (0 + 2)) (preC c s0) with
      | inl f =>
        rw [hA] at ac7
        obtain ⟨A7, hf, ex⟩ := ac7
        have hA : actP c (tE c.T b 0) (tE c.T b 1) (tE c.T b 2) (preC c s0) = .inl f := hA
        rw [hA] at hcode
        rw [hcode]
        exact Or.inr (Or.inr (Or.inr ⟨Or.inl rfl, hf, ex.imp fun x e => e.imp fun y e => e.imp fun z e => ⟨e, A7⟩⟩))
      | inr s2 =>
        rw [hA] at ac7
        exact Or.inr (Or.inl ⟨rfl, s2, rfl, ac7.2, ac7.1⟩)
    · rw [e2] at hcode
      refine step _ Y A' (Or.inr rfl) fun h7 ac7 F7 => ⟨_, by omega, rfl, rfl, rfl, rfl, F7, s0, n, 6, rfl, by rw [hbb], rfl, W0, h0, hn, by rw [codesP_step h0]; exact et', rfl, ?_⟩
      simp only [] at hcode
      cases hA : actP c (tE c.T b 3) (tE c.T b (3 + 1)) (tE c.T b (3 + 2)) s2 with
      | inl f =>
        rw [hA] at ac7
        obtain ⟨A7, hf, ex⟩ := ac7
        have hA : actP c (tE c.T b 3) (tE c.T b 4) (tE c.T b 5) s2 = .inl f := hA
        rw [hA] at hcode
        rw [hcode]
        exact Or.inr (Or.inr (Or.inr ⟨Or.inr rfl, hf, ex.imp fun x e => e.imp fun y e => e.imp fun z e => ⟨e, A7⟩⟩))
      | inr s3 =>
        rw [hA] at ac7
        have hA : actP c (tE c.T b 3) (tE c.T b 4) (tE c.T b 5) s2 = .inr s3 := hA
        rw [hA] at hcode
        rw [hcode]
        exact Or.inr (Or.inr (Or.inl ⟨rfl, rfl, ac7.2, ac7.1⟩))
    · exact ⟨fun _ => outOk e0 Y A' (by omega), fun c7 => absurd (by decide) c7⟩
    · refine ⟨fun _ => outBad e0 ⟨x, y, z, Y⟩ A' (by omega), fun c7 => ⟨rfl, fun _ => outBad e0 ⟨x, y, z, Y⟩ A' (by omega), fun c8 => absurd (A'.eq.mp c8) e0⟩⟩
