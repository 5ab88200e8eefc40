/-! an opener at the cell 49: the sum, a window run (printed twice by wip/whole/genopen.py) -/
theorem judge49 {w : Wd} {h : Hp} {ra rs : Nat} {c : Wc} {s : Wst} {base pre : List Nat} {gr sp : Nat} {pl : Int32} {cp : Nat} (X : RV49 h ra rs c s base pre gr sp 0 pl cp) (sm : Bool) (p : Nat) (V : CurV h 62 ra p (p + if sm = true then 4 else 0)) (hp : p + (if sm = true then 4 else 0) ≤ c.src.length) : C_X7_judgeSum w SH 49 h (fun h1 => (if sm = true ∧ sumGo c.src p 4 ≠ adl (s.sp.drop c.ss) then RV49 h1 ra rs c s base pre gr sp 16 (nI p) cp else RV49 h1 ra rs c s base pre gr sp 0 pl cp) ∧ Fr (62 :: RS49 rs) h h1) := by
  have bb := X.b
  have cl := X.C.l
  refine K_X7_judgeSum nlt_wf (fun m x0 x1 x2 x4 h' => x0 = 49 ∧ x1 = nI p ∧ sm = true ∧ ∃ k, m = 4 - k ∧ k ≤ 4 ∧ x4 = nI k ∧ x2 = lN (sumGo c.src p k) ∧ CurV h' 62 ra (p + k) (p + 4) ∧ RV49 h' ra rs c s base pre gr sp 0 pl cp ∧ Fr (62 :: RS49 rs) h h') ?_ ?_
  · refine ⟨rfl, by rw [k49_8 X.f]; rfl, _, by rw [k49_8 X.f]; exact S_left V (by omega), fun v7 h6 hp => ?_⟩
    obtain ⟨rfl, rfl⟩ := hp
    cases sm with
    | false =>
      refine ⟨fun c7 => absurd (by rw [if_neg (by simp), Nat.add_zero, Nat.sub_self]; rfl) c7, fun _ => ?_⟩
      refine ⟨?_, Fr.rf⟩
      rw [if_neg (by simp)]
      exact X
    | true =>
      refine ⟨fun _ => ⟨by rw [k49_8 X.f]; rfl, fun y10 e10 y12 e12 y14 e14 => ?_⟩, fun c7 => ?_⟩
      · rw [k49_8 X.f, V.2.2.1] at e10
        exact ⟨4, rfl, e10, rfl, 0, rfl, by omega, e14, e12, V, X, Fr.rf⟩
      · rw [if_pos rfl, show p + 4 - p = 4 by omega] at c7
        exact absurd c7 (by decide)
  · rintro m x0 x1 x2 x4 h' ⟨rfl, rfl, rfl, k, rfl, hk, rfl, rfl, U, Y, F⟩
    rw [if_pos rfl] at hp
    refine ⟨fun c7 => ⟨rfl, by rw [k49_9 Y.f]; rfl, ?_⟩, fun c7 => ⟨rfl, by rw [k49_8 Y.f]; rfl, _, by rw [k49_8 Y.f]; exact S_next U Y.rr (by omega) (by omega), fun v21 h20 hq y22 e22 y24 e24 => ?_⟩⟩
    · rw [show (4 : Int32) = nI 4 from rfl, nI_leI (by omega) (by omega)] at c7
      have : k = 4 := by omega
      subst this
      obtain ⟨p0, p1, p2, p3, p4⟩ := Y.p
      have hs : C_X9_sum w SH 65 h' (fun v h1 => h1 = h' ∧ v = lN (adl (s.sp.drop c.ss))) := by
        refine K_X9_sum ⟨rfl, by rw [p3]; exact Y.ro.1, _, by rw [p3]; exact S_length Y.ro, fun v7 h6 hp => ?_⟩
        obtain ⟨rfl, rfl⟩ := hp
        have e : ((pre ++ s.sp.drop c.ss).drop pre.length).take ((pre ++ s.sp.drop c.ss).length - pre.length) = s.sp.drop c.ss := by
          rw [List.drop_left, List.take_of_length_le]
          rw [len49 Y]; simp
        have q := S_sum (w := w) Y.ro pre.length (pre ++ s.sp.drop c.ss).length (by rw [len49 Y]; omega) (Nat.le_refl _)
        rw [e] at q
        refine ⟨_, by rw [p3, p4]; exact q, fun v12 h11 hp => hp⟩
      refine ⟨_, by rw [k49_9 Y.f]; exact hs, fun v8 h7 hp => ?_⟩
      obtain ⟨rfl, rfl⟩ := hp
      have hb1 := sumGo_lt X.C.b p 4
      have hb2 : adl (s.sp.drop c.ss) < 2 ^ 33 := adl_lt _
      rw [lgEQ (by omega) (by omega)]
      refine ⟨fun c8 => ?_, fun c8 => ⟨_, S_fail rfl 16 _, fun v14 h13 hp => ?_⟩⟩
      · refine ⟨?_, F⟩
        rw [if_neg (by simp [c8])]
        exact Y
      · obtain ⟨rfl, rfl⟩ := hp
        have B := Y.bad 16 (nI p)
        refine ⟨?_, F.tr1 (B.2.mono (fun c hc => List.mem_cons_of_mem _ hc))⟩
        rw [if_pos ⟨rfl, c8⟩]
        exact B.1
    · rw [show (4 : Int32) = nI 4 from rfl, nI_leI (by omega) (by omega)] at c7
      obtain ⟨q1, q2, F2⟩ := hq
      obtain ⟨rfl, U2⟩ := q1 (by omega)
      have hx : c.src.getD (p + k) 0 < 256 := getD_lt X.C.b _
      rw [nI_l (by omega), show (256 : Int64) = lN 256 from rfl, lN_mul, lN_add] at e22
      exact ⟨4 - (k + 1), by omega, rfl, rfl, rfl, k + 1, rfl, by omega, by rw [e24, nI_1], e22, U2, Y.sm F2, F.tr1 (F2.mono (by simp))⟩
theorem runWindow49 {w : Wd} {h : Hp} {ra rs : Nat} {c : Wc} {s : Wst} {base pre : List Nat} {gr sp : Nat} {pl : Int32} {cp : Nat} (X : RV49 h ra rs c s base pre gr sp 0 pl cp) (sm : Bool) (p : Nat) (V : CurV h 62 ra p (p + if sm = true then 4 else 0)) (hp : p + (if sm = true then 4 else 0) ≤ c.src.length) : C_X7_runWindow w SH 49 h (fun h1 => (∃ x y z cp', RV49 h1 ra rs c ((((runP c sm p (wiped s)).2.2.sca x).sda y).saa z) base pre gr sp (runP c sm p (wiped s)).1 (if (runP c sm p (wiped s)).1 = 0 then pl else nI (runP c sm p (wiped s)).2.1) cp') ∧ Fr (62 :: RS49 rs) h h1) := by
  have bb := X.b
  have cl := X.C.l
  have cc := X.C.c_
  generalize ht : codesP c (c.cE - (wiped s).ca) (wiped s) = tot
  have hr : runP c sm p (wiped s) = (if tot.1 ≠ 0 then tot else if tot.2.2.sp.length < c.ss + c.tz ∨ tot.2.2.da < c.dE ∨ tot.2.2.aa < c.aE then (15, c.cE, tot.2.2) else if sm = true ∧ sumGo c.src p 4 ≠ adl (tot.2.2.sp.drop c.ss) then (16, p, tot.2.2) else tot) := by
    simp only [runP, ht]
  have done0 : ∀ (h' : Hp) (s' : Wst) (cp' : Nat) (L9 : Nat → Int32 → Hp → Prop), RV49 h' ra rs c s' base pre gr sp 0 pl cp' → Fr (RS49 rs) h h' → c.cE ≤ s'.ca → tot = (0, 0, s') → V_X7_runWindow_107 w SH 49 h' L9 (fun h1 => (∃ x y z cp', RV49 h1 ra rs c ((((runP c sm p (wiped s)).2.2.sca x).sda y).saa z) base pre gr sp (runP c sm p (wiped s)).1 (if (runP c sm p (wiped s)).1 = 0 then pl else nI (runP c sm p (wiped s)).2.1) cp') ∧ Fr (62 :: RS49 rs) h h1) := by
    intro h' s' cp' L9 Y F he et
    subst et
    rw [if_neg (by simp)] at hr
    simp only at hr
    have w1 := Y.W.s1
    have w2 := Y.W.s2
    have wd := Y.W.da
    have wa := Y.W.aa
    have wc := Y.W.ca
    have cz := Y.C.z
    have cs := Y.C.s
    have cd := Y.C.d
    have ca := Y.C.a
    have bad : ∀ h7 : Hp, h7 = h' → (s'.sp.length < c.ss + c.tz ∨ s'.da < c.dE ∨ s'.aa < c.aE) → V_X7_runWindow_149 w SH 49 h7 L9 (fun h1 => (∃ x y z cp', RV49 h1 ra rs c ((((runP c sm p (wiped s)).2.2.sca x).sda y).saa z) base pre gr sp (runP c sm p (wiped s)).1 (if (runP c sm p (wiped s)).1 = 0 then pl else nI (runP c sm p (wiped s)).2.1) cp') ∧ Fr (62 :: RS49 rs) h h1) := by
      intro h7 e7 hbad
      subst e7
      rw [if_pos hbad] at hr
      rw [hr]
      refine ⟨rfl, by rw [k49_6 Y.f]; rfl, _, S_fail rfl 15 _, fun v7 h6 hp => ?_⟩
      obtain ⟨rfl, rfl⟩ := hp
      rw [k49_6 Y.f, Y.cc.2.2.1]
      have B := Y.bad 15 (nI s'.ca)
      refine ⟨⟨s'.ca, s'.da, s'.aa, cp', ?_⟩, (F.tr1 B.2).mono (fun c hc => List.mem_cons_of_mem _ hc)⟩
      rw [if_neg (by simp)]
      rw [show c.cE = s'.ca by omega]
      exact B.1
    refine ⟨rfl, fun _ => ⟨by rw [k49_9 Y.f]; rfl, _, by rw [k49_9 Y.f]; exact tlen49 Y, fun v8 h7 hp => ?_⟩, fun c7 => absurd Y.o.2.1 c7⟩
    obtain ⟨rfl, rfl⟩ := hp
    rw [Y.o.2.2.2.1, nI_ltI (by omega) (by omega)]
    refine ⟨fun c7 => bad _ rfl (Or.inl (by omega)), fun c7 => ⟨by rw [k49_5 Y.f]; rfl, _, by rw [k49_5 Y.f]; exact S_left Y.cd wd, fun v15 h14 hp => ?_⟩⟩
    obtain ⟨rfl, rfl⟩ := hp
    rw [show (0 : Int32) = nI 0 from rfl, nI_ltI (by omega) (by omega)]
    refine ⟨fun c8 => bad _ rfl (Or.inr (Or.inl (by omega))), fun c8 => ⟨by rw [k49_7 Y.f]; rfl, _, by rw [k49_7 Y.f]; exact S_left Y.ca wa, fun v22 h21 hp => ?_⟩⟩
    obtain ⟨rfl, rfl⟩ := hp
    rw [nI_leI (by omega) (by omega)]
    refine ⟨fun c9 => ?_, fun c9 => bad _ rfl (Or.inr (Or.inr (by omega)))⟩
    rw [if_neg (by omega)] at hr
    have VS : CurV h21 62 ra p (p + if sm = true then 4 else 0) := V.fr F (by simp [RS49]; omega)
    refine ⟨_, judge49 Y sm p VS hp, fun h27 hp => ?_⟩
    obtain ⟨R, F2⟩ := hp
    refine ⟨?_, (F.mono (fun c hc => List.mem_cons_of_mem _ hc)).tr1 F2⟩
    by_cases hsum : sm = true ∧ sumGo c.src p 4 ≠ adl (s'.sp.drop c.ss)
    · rw [if_pos hsum] at R hr
      rw [hr]
      exact ⟨s'.ca, s'.da, s'.aa, cp', R⟩
    · rw [if_neg hsum] at R hr
      rw [hr]
      exact ⟨s'.ca, s'.da, s'.aa, cp', R⟩
  have done1 : ∀ (h' : Hp) (f q x y z : Nat) (s' : Wst) (cp' : Nat) (L9 : Nat → Int32 → Hp → Prop), RV49 h' ra rs c (((s'.sca x).sda y).saa z) base pre gr sp f (nI q) cp' → Fr (RS49 rs) h h' → (f = 11 ∨ f = 12 ∨ f = 13 ∨ f = 14) → tot = (f, q, s') → V_X7_runWindow_107 w SH 49 h' L9 (fun h1 => (∃ x y z cp', RV49 h1 ra rs c ((((runP c sm p (wiped s)).2.2.sca x).sda y).saa z) base pre gr sp (runP c sm p (wiped s)).1 (if (runP c sm p (wiped s)).1 = 0 then pl else nI (runP c sm p (wiped s)).2.1) cp') ∧ Fr (62 :: RS49 rs) h h1) := by
    intro h' f q x y z s' cp' L9 Y F hf et
    subst et
    have hf0 : f ≠ 0 := by omega
    rw [if_pos hf0] at hr
    rw [hr]
    refine ⟨rfl, fun c7 => ?_, fun _ => ⟨⟨x, y, z, cp', ?_⟩, F.mono (fun c hc => List.mem_cons_of_mem _ hc)⟩⟩
    · rw [Y.o.2.1, show (0 : Int32) = nI 0 from rfl, nI_eq (by omega) (by omega)] at c7
      omega
    · simp only [if_neg hf0]
      exact Y
  refine K_X7_runWindow nlt_wf (fun m x0 x1 h' => x0 = 49 ∧ Fr (RS49 rs) h h' ∧ ((∃ s' cp' fuel k, m = 1 + (c.cE - s'.ca) ∧ RV49 h' ra rs c s' base pre gr sp 0 pl cp' ∧ c.cE - s'.ca ≤ fuel ∧ codesP c fuel s' = tot ∧ x1 = nI k ∧ k ≤ s'.ca) ∨ (∃ f q x y z s' cp', m = 0 ∧ (f = 11 ∨ f = 12 ∨ f = 13 ∨ f = 14) ∧ tot = (f, q, s') ∧ RV49 h' ra rs c (((s'.sca x).sda y).saa z) base pre gr sp f (nI q) cp'))) ?_ ?_
  · obtain ⟨c1, c2, c3, c4, c5, c6, c7, c8⟩ := cc49 X.f
    refine ⟨rfl, by rw [k49_1 X.f]; rfl, _, by rw [k49_1 X.f]; exact S_wipe c1 c2 c3 c4 c5 c7 c8 c6, fun h6 hq y7 e7 => ?_⟩
    obtain ⟨q1, q2, q3, q4, F⟩ := hq
    have Y := X.kp (nr := fun _ => 0) (sm := fun _ => 0) (nx := 0) F ⟨by rw [q4 2 (by decide)]; exact X.k.1, by rw [q4 3 (by decide)]; exact X.k.2.1, q3, fun i hi => q1 i (by have := X.kN.1; omega), fun i hi => q2 i (by have := X.kN.2; omega)⟩ (WOk.of ⟨X.W.ca, X.W.da, X.W.aa, X.W.s1, X.W.s2, fun i => by show 0 < 16000; decide, fun i => by show 0 < 16000; decide, by show 0 < c.T.2.1 ∨ (c.T.2.1 = 0 ∧ 0 = 0); omega, X.W.ac, X.W.by_⟩)
    exact ⟨_, rfl, F.mono (by simp [RS49]), Or.inl ⟨wiped s, cp, c.cE - (wiped s).ca, 0, rfl, Y, Nat.le_refl _, ht, e7, Nat.zero_le _⟩⟩
  · rintro m x0 x1 h' ⟨rfl, F, ⟨s', cp', fuel, k, rfl, Y, hfu, hc, rfl, hk⟩ | ⟨f, q, x, y, z, s', cp', rfl, hf, et, Y⟩⟩
    · have wc := Y.W.ca
      have fin0 : c.cE ≤ s'.ca → ∀ L9, V_X7_runWindow_107 w SH 49 h' L9 (fun h1 => (∃ x y z cp', RV49 h1 ra rs c ((((runP c sm p (wiped s)).2.2.sca x).sda y).saa z) base pre gr sp (runP c sm p (wiped s)).1 (if (runP c sm p (wiped s)).1 = 0 then pl else nI (runP c sm p (wiped s)).2.1) cp') ∧ Fr (62 :: RS49 rs) h h1) := fun he L9 => done0 h' s' cp' L9 Y F he (by rw [← hc, codesP_end he])
      refine ⟨fun c7 => fin0 ?_ _, fun c7 => ⟨rfl, fun c8 => absurd Y.o.2.1 c8, fun _ => ⟨by rw [k49_6 Y.f]; rfl, _, by rw [k49_6 Y.f]; exact S_left Y.cc wc, fun v9 h8 hp => ?_⟩⟩⟩
      · rw [show (8000 : Int32) = nI 8000 from rfl, nI_leI (by omega) (by omega)] at c7
        omega
      obtain ⟨rfl, rfl⟩ := hp
      rw [show (0 : Int32) = nI 0 from rfl, nI_leI (by omega) (by omega)]
      refine ⟨fun c9 => fin0 (by omega) _, fun c9 => ⟨by rw [k49_6 Y.f]; rfl, fun h12 e12 => ?_⟩⟩
      have hlt : s'.ca < c.cE := by omega
      obtain ⟨fu, rfl⟩ : ∃ fu, fuel = fu + 1 := ⟨fuel - 1, by omega⟩
      rw [codesP, if_neg (by omega)] at hc
      obtain ⟨CO1, CO2, CO3⟩ := codeP_ok Y.C Y.W hlt
      rw [k49_6 Y.f, Y.cc.2.2.1] at e12
      subst e12
      have F12 : Fr [49] h8 (wI h8 49 18 (nI s'.ca)) := Fr.rf.put (by simp)
      have Y1 := Y.ob (ft1 := 0) (pl1 := pl) (cp1 := s'.ca) F12 ⟨by rw [wI_idx (by decide)]; exact Y.o.2.1, by rw [wI_idx (by decide)]; exact Y.o.2.2.1, by rw [wI_idx (by decide)]; exact Y.o.2.2.2.1, wI_same, by rw [wI_idx (by decide)]; exact Y.o.2.2.2.2.2⟩
      refine ⟨_, by rw [k49_6 Y.f]; exact S_next Y1.cc Y1.rr cc wc, fun v18 h17 hp y19 e19 => ?_⟩
      obtain ⟨q1, -, F17⟩ := hp
      obtain ⟨rfl, V17⟩ := q1 hlt
      subst e19
      have Y2 := Y1.mvC F17 V17 hlt
      have hb : c.src.getD s'.ca 0 < 256 := getD_lt X.C.b _
      have FF : Fr (RS49 rs) h h17 := (F.tr1 (F12.mono (by simp [RS49]))).tr1 (F17.mono (by simp [RS49]))
      have t256 : ∀ i, tE c.T (c.src.getD s'.ca 0) i < 256 := fun i => getD_lt X.C.tb _
      have run : ∀ h2 : Hp, Fr (RS49 rs) h h2 → RV49 h2 ra rs c (preC c s') base pre gr sp 0 pl s'.ca → V_X7_runWindow_85 w SH 49 (nI k) (nI (c.src.getD s'.ca 0)) h2 (fun x0 x1 h' => ∃ m', m' < 1 + (c.cE - s'.ca) ∧ x0 = 49 ∧ Fr (RS49 rs) h h' ∧ ((∃ s' cp' fuel k, m' = 1 + (c.cE - s'.ca) ∧ RV49 h' ra rs c s' base pre gr sp 0 pl cp' ∧ c.cE - s'.ca ≤ fuel ∧ codesP c fuel s' = tot ∧ x1 = nI k ∧ k ≤ s'.ca) ∨ (∃ f q x y z s' cp', m' = 0 ∧ (f = 11 ∨ f = 12 ∨ f = 13 ∨ f = 14) ∧ tot = (f, q, s') ∧ RV49 h' ra rs c (((s'.sca x).sda y).saa z) base pre gr sp f (nI q) cp'))) (fun h1 => (∃ x y z cp', RV49 h1 ra rs c ((((runP c sm p (wiped s)).2.2.sca x).sda y).saa z) base pre gr sp (runP c sm p (wiped s)).1 (if (runP c sm p (wiped s)).1 = 0 then pl else nI (runP c sm p (wiped s)).2.1) cp') ∧ Fr (62 :: RS49 rs) h h1) := by
        intro h2 F2 Z
        refine ⟨rfl, _, runHalf49 Z _ 0 hb (Or.inl rfl), fun v6 h5 hp => ?_⟩
        obtain ⟨P1, F3⟩ := hp
        have ec : codeP c s' = (match actP c (tE c.T (c.src.getD s'.ca 0) 0) (tE c.T (c.src.getD s'.ca 0) 1) (tE c.T (c.src.getD s'.ca 0) 2) (preC c s') with
          | .inl f => (f, preC c s')
          | .inr s2 => match actP c (tE c.T (c.src.getD s'.ca 0) 3) (tE c.T (c.src.getD s'.ca 0) 4) (tE c.T (c.src.getD s'.ca 0) 5) s2 with
            | .inl f => (f, s2)
            | .inr s3 => (0, s3)) := rfl
        rw [show (0 + 1 : Nat) = 1 from rfl, show (0 + 2 : Nat) = 2 from rfl] at P1
        revert P1 ec
        cases ha : actP c (tE c.T (c.src.getD s'.ca 0) 0) (tE c.T (c.src.getD s'.ca 0) 1) (tE c.T (c.src.getD s'.ca 0) 2) (preC c s') with
        | inl f =>
          intro P1 ec
          obtain ⟨rfl, x, y, z, R⟩ := P1
          refine ⟨fun _ y1 e1 => ?_, fun c10 => absurd rfl c10⟩
          have hf := actP_ft ha
          rw [ec] at hc
          rw [if_neg (by simp only; omega)] at hc
          exact ⟨0, by omega, rfl, F2.tr1 F3, Or.inr ⟨f, s'.ca, x, y, z, preC c s', s'.ca, rfl, by omega, hc.symm, R⟩⟩
        | inr s2 =>
          intro P1 ec
          obtain ⟨rfl, R⟩ := P1
          refine ⟨fun c10 => absurd c10 (by decide), fun _ => ⟨_, runHalf49 R _ 3 hb (Or.inr rfl), fun v12 h11 hp y1 e1 => ?_⟩⟩
          obtain ⟨P2, F4⟩ := hp
          rw [show (3 + 1 : Nat) = 4 from rfl, show (3 + 2 : Nat) = 5 from rfl] at P2
          simp only at ec
          revert P2 ec
          cases ha2 : actP c (tE c.T (c.src.getD s'.ca 0) 3) (tE c.T (c.src.getD s'.ca 0) 4) (tE c.T (c.src.getD s'.ca 0) 5) s2 with
          | inl f =>
            intro ec P2
            obtain ⟨rfl, x, y, z, R2⟩ := P2
            have hf := actP_ft ha2
            rw [ec] at hc
            rw [if_neg (by simp only; omega)] at hc
            exact ⟨0, by omega, rfl, (F2.tr1 F3).tr1 F4, Or.inr ⟨f, s'.ca, x, y, z, s2, s'.ca, rfl, by omega, hc.symm, R2⟩⟩
          | inr s3 =>
            intro ec P2
            obtain ⟨rfl, R2⟩ := P2
            rw [ec] at hc CO2
            rw [if_pos rfl] at hc
            have hc' : codesP c fu s3 = tot := hc
            have CO2' : s'.ca < s3.ca := CO2
            clear hc CO2
            have g1 : 1 + (c.cE - s3.ca) < 1 + (c.cE - s'.ca) := by omega
            have g2 : c.cE - s3.ca ≤ fu := by omega
            have g3 : k + 1 ≤ s3.ca := by omega
            have g4 : y1 = nI (k + 1) := by rw [e1, nI_1]
            exact ⟨1 + (c.cE - s3.ca), g1, rfl, (F2.tr1 F3).tr1 F4, Or.inl ⟨s3, s'.ca, fu, k + 1, rfl, R2, g2, hc', g4, g3⟩⟩
      refine ⟨by rw [k49_0 Y2.f]; rfl, _, by rw [k49_0 Y2.f]; exact S_get Y2.t _ 0 hb (by decide), fun v26 h25 hp => ?_⟩
      obtain ⟨rfl, e26⟩ := hp
      have e26' : v26 = nI (tE c.T (c.src.getD s'.ca 0) 0) := e26
      have t0 := t256 0
      have t3 := t256 3
      subst e26'
      rw [nI_eq (by omega) (by omega)]
      refine ⟨fun c10 => run h25 FF ?_, fun c10 => ⟨by rw [k49_0 Y2.f]; rfl, _, by rw [k49_0 Y2.f]; exact S_get Y2.t _ 3 hb (by decide), fun v33 h32 hp => ?_⟩⟩
      · unfold preC
        rw [if_neg (fun q => q.1 c10)]
        exact Y2
      obtain ⟨rfl, e33⟩ := hp
      have e33' : v33 = nI (tE c.T (c.src.getD s'.ca 0) 3) := e33
      subst e33'
      rw [nI_eq (by omega) (by omega)]
      refine ⟨fun c11 => run h32 FF ?_, fun c11 => ⟨by rw [k49_2 Y2.f]; rfl, _, by rw [k49_2 Y2.f]; exact S_count (lc49 Y2.f) Y2.l 4 1 (by decide), fun h39 hp => ?_⟩⟩
      · unfold preC
        rw [if_neg (fun q => q.2 c11)]
        exact Y2
      · obtain ⟨VL, FL⟩ := hp
        refine run h39 (FF.tr1 (FL.mono (by simp [RS49]))) ?_
        unfold preC
        rw [if_pos ⟨c10, c11⟩, X.own]
        exact Y2.lg (FL.mono (by simp)) VL Y2.W.ac
    · have nz : ¬ h'.1 49 12 = 0 := by
        rw [Y.o.2.1, show (0 : Int32) = nI 0 from rfl, nI_eq (by omega) (by omega)]; omega
      exact ⟨fun _ => done1 h' f q x y z s' cp' _ Y F hf et, fun _ => ⟨rfl, fun _ => done1 h' f q x y z s' cp' _ Y F hf et, fun c8 => absurd c8 nz⟩⟩
