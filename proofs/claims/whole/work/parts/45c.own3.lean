/-! an opener at the cell 49: copies (printed twice by wip/whole/genopen.py) -/
theorem wanted49 {w : Wd} {h : Hp} {ra rs : Nat} {c : Wc} {s : Wst} {base pre : List Nat} {gr sp : Nat} {pl : Int32} {cp : Nat} (X : RV49 h ra rs c s base pre gr sp 0 pl cp) (mode : Nat) (hm : mode < 2 + c.T.2.1 + c.T.2.2) : C_X7_wantedAddress w SH 49 (nI mode) (nI s.sp.length) h (fun v h1 => ∃ q, RV49 h1 ra rs c (s.saa q) base pre gr sp 0 pl cp ∧ Fr [59] h h1 ∧ (match adrP c mode s with | none => v < 0 | some (a, q') => v = lN a ∧ q' = q ∧ a < 2 ^ 40)) := by
  have b := X.b
  have w1 := X.W.s1
  have w2 := X.W.s2
  have wa := X.W.aa
  have ca := X.C.a
  have cl := X.C.l
  have cz := X.C.z
  have cs := X.C.s
  have cn := X.C.n
  have cm := X.C.m
  obtain ⟨t1, t2, t3, t4, t5, t6, t7, t8⟩ := X.t
  refine K_X7_wantedAddress ⟨rfl, by rw [k49_0 X.f]; rfl, fun y3 e3 => ?_⟩
  rw [k49_0 X.f, t5, show (2 : Int32) = nI 2 from rfl, sub2] at e3
  by_cases h2 : 2 + c.T.2.1 ≤ mode
  · rw [pk_sub h2] at e3
    subst e3
    refine ⟨fun c7 => absurd c7 (nI_pos (by omega)), fun _ => ⟨by rw [k49_7 X.f]; rfl, _, by rw [k49_7 X.f]; exact S_next X.ca X.rr ca wa, fun v28 h27 hp y29 e29 => ?_⟩⟩
    obtain ⟨q1, q2, F⟩ := hp
    by_cases hlt : s.aa < c.aE
    · obtain ⟨rfl, V⟩ := q1 hlt
      subst e29
      have Z := X.mvA F V hlt
      have hx : c.src.getD s.aa 0 < 256 := getD_lt X.C.b _
      have hi : 256 * (mode - (2 + c.T.2.1)) + c.src.getD s.aa 0 < 256 * c.T.2.2 := by omega
      refine ⟨fun _ => ⟨by rw [k49_1 Z.f]; rfl, _, by rw [k49_1 Z.f, show (256 : Int32) = nI 256 from rfl, pk_mul, nI_add]; exact S_sameAt (cc49 Z.f) Z.k X.kN.2 _ hi, fun v37 h36 hp => ?_⟩, fun c7 => absurd (Int32.not_lt.mp (nI_pos (by omega))) c7⟩
      obtain ⟨rfl, rfl⟩ := hp
      refine ⟨s.aa + 1, Z, F, ?_⟩
      have hs : s.sm (256 * (mode - (2 + c.T.2.1)) + c.src.getD s.aa 0) < 16000 := X.W.sm _
      have e : adrP c mode s = some (s.sm (256 * (mode - (2 + c.T.2.1)) + c.src.getD s.aa 0), s.aa + 1) := by
        unfold adrP
        rw [if_pos h2, if_neg (by omega), Nat.sub_sub]
      rw [e]
      exact ⟨nI_l (Nat.lt_trans hs (by decide)), rfl, by omega⟩
    · obtain ⟨rfl, rfl⟩ := q2 hlt
      subst e29
      refine ⟨fun c7 => absurd c7 (by decide), fun _ => ⟨s.aa, X, F, ?_⟩⟩
      have e : adrP c mode s = none := by
        unfold adrP
        rw [if_pos h2, if_pos (by omega)]
      rw [e]
      show Int32.toInt64 (-1) < 0
      decide
  · have n3 : y3 < 0 := by rw [e3]; exact neg_sub (by omega) (by omega) (by omega)
    refine ⟨fun _ => ⟨by rw [k49_7 X.f]; rfl, _, by rw [k49_7 X.f]; exact S_nextBig X.ca X.rr ⟨by omega, by omega⟩ ca wa, fun v11 h10 hp y12 e12 => ?_⟩, fun c7 => absurd n3 c7⟩
    obtain ⟨q, q1, q2, V, F, hb⟩ := hp
    subst e12
    have Z := X.mvA F V q2
    have e : adrP c mode s = match bigP c.src c.aE s.aa with
      | .inl _ => none
      | .inr (v, q) => if mode = 0 then some (v, q) else if mode = 1 then (if v ≤ s.sp.length then some (s.sp.length - v, q) else none) else some (s.nr (mode - 2) + v, q) := by
      unfold adrP
      rw [if_neg h2]
      rfl
    rw [e]
    cases hB : bigP c.src c.aE s.aa with
    | inl x =>
      rw [hB] at hb
      have hv : y12 < 0 := by
        cases x with
        | true => have : y12 = -2 := hb; rw [this]; decide
        | false => have : y12 = -1 := hb; rw [this]; decide
      exact ⟨fun _ => ⟨q, Z, F, hv⟩, fun c7 => absurd (lneg_cmp hv) c7⟩
    | inr x =>
      obtain ⟨v, q'⟩ := x
      rw [hB] at hb
      obtain ⟨rfl, rfl⟩ := hb
      have hv := (bigP_ok hB).2.2
      refine ⟨fun c7 => absurd c7 (lpos_cmp _ (by omega)), fun _ => ⟨fun c8 => ⟨fun c9 => ?_, fun c9 => ?_⟩, fun c8 => ?_⟩⟩
      · rw [show (0 : Int32) = nI 0 from rfl, nI_eq (by omega) (by omega)] at c8
        rw [show (1 : Int32) = nI 1 from rfl, nI_eq (by omega) (by omega)] at c9
        refine ⟨by rw [k49_1 Z.f]; rfl, _, by rw [k49_1 Z.f, show (2 : Int32) = nI 2 from rfl, pk_sub (by omega)]; exact S_nearAt (cc49 Z.f) Z.k X.kN.1 (mode - 2) (by omega), fun v22 h21 hp => ?_⟩
        obtain ⟨rfl, rfl⟩ := hp
        have hs : s.nr (mode - 2) < 16000 := X.W.nr _
        refine ⟨q, Z, F, ?_⟩
        simp only [if_neg c8, if_neg c9]
        exact ⟨by rw [show ((s.saa q) : Wst).nr = s.nr from rfl, nI_l (by omega), lN_add], trivial, by omega⟩
      · rw [show (0 : Int32) = nI 0 from rfl, nI_eq (by omega) (by omega)] at c8
        rw [show (1 : Int32) = nI 1 from rfl, nI_eq (by omega) (by omega)] at c9
        refine ⟨q, Z, F, ?_⟩
        simp only [if_neg c8, if_pos c9]
        rw [nI_l (by omega)]
        by_cases hle : v ≤ s.sp.length
        · simp only [if_pos hle]
          exact ⟨lsub hle, trivial, by omega⟩
        · simp only [if_neg hle]
          exact lsub_neg (by omega) (by omega) (by omega)
      · rw [show (0 : Int32) = nI 0 from rfl, nI_eq (by omega) (by omega)] at c8
        refine ⟨q, Z, F, ?_⟩
        simp only [if_pos c8]
        exact ⟨trivial, trivial, by omega⟩
theorem runCopy49 {w : Wd} {h : Hp} {ra rs : Nat} {c : Wc} {s : Wst} {base pre : List Nat} {gr sp : Nat} {pl : Int32} {cp : Nat} (X : RV49 h ra rs c s base pre gr sp 0 pl cp) (n mode : Nat) (hn : s.sp.length - c.ss + n ≤ c.tz) (hm : mode < 2 + c.T.2.1 + c.T.2.2) : C_X7_runCopy w SH 49 (nI n) (nI mode) h (fun v h1 => PH (fun s f q => RV49 h1 ra rs c s base pre gr sp f q cp) (copR c n mode s) s cp pl v ∧ Fr (RS49 rs) h h1) := by
  have w1 := X.W.s1
  have w2 := X.W.s2
  have cl := X.C.l
  have cz := X.C.z
  have cs := X.C.s
  refine K_X7_runCopy nlt_wf (fun m x0 x1 x2 x6 x7 h' => x0 = 49 ∧ x1 = nI n ∧ x2 = nI mode ∧ ∃ k a q l, m = n - k ∧ k ≤ n ∧ x6 = nI a ∧ x7 = nI k ∧ adrP c mode s = some (a, q) ∧ a < s.sp.length ∧ l.length = s.sp.length + k ∧ copyL (a + k) (n - k) l = copyL a n s.sp ∧ RV49 h' ra rs c ((s.saa q).ssp l) base pre gr sp 0 pl cp ∧ Fr (RS49 rs) h h') ?_ ?_
  · refine ⟨rfl, by rw [k49_9 X.f]; rfl, _, by rw [k49_9 X.f]; exact here49 X, fun v7 h6 hp y8 e8 => ?_⟩
    obtain ⟨rfl, rfl⟩ := hp
    subst e8
    refine ⟨_, wanted49 X mode hm, fun v14 h13 hp y15 e15 => ?_⟩
    obtain ⟨q, Z, F, ha⟩ := hp
    subst e15
    have bad : copR c n mode s = .inl 14 → V_X7_runCopy_31 w SH 49 h13 (fun x0 x1 x2 x6 x7 h' => ∃ m, x0 = 49 ∧ x1 = nI n ∧ x2 = nI mode ∧ ∃ k a q l, m = n - k ∧ k ≤ n ∧ x6 = nI a ∧ x7 = nI k ∧ adrP c mode s = some (a, q) ∧ a < s.sp.length ∧ l.length = s.sp.length + k ∧ copyL (a + k) (n - k) l = copyL a n s.sp ∧ RV49 h' ra rs c ((s.saa q).ssp l) base pre gr sp 0 pl cp ∧ Fr (RS49 rs) h6 h') (fun v h1 => PH (fun s f q => RV49 h1 ra rs c s base pre gr sp f q cp) (copR c n mode s) s cp pl v ∧ Fr (RS49 rs) h6 h1) := by
      intro eb
      rw [eb]
      refine ⟨rfl, _, S_fail rfl 14 _, fun v6 h5 hp => ?_⟩
      obtain ⟨rfl, rfl⟩ := hp
      rw [Z.o.2.2.2.2.1]
      have B := Z.bad 14 (nI cp)
      exact ⟨Or.inl rfl, ⟨rfl, s.ca, s.da, q, B.1⟩, (F.mono (by simp [RS49])).tr1 B.2⟩
    cases hA : adrP c mode s with
    | none =>
      rw [hA] at ha
      refine ⟨fun _ => ?_, fun c7 => absurd (lneg_cmp ha) c7⟩
      rw [← hA]
      exact bad (by unfold copR; rw [hA])
    | some x =>
      obtain ⟨a, q'⟩ := x
      rw [hA] at ha
      obtain ⟨rfl, rfl, ha2⟩ := ha
      refine ⟨fun c7 => absurd c7 (lpos_cmp _ (by omega)), fun _ => ?_⟩
      rw [nI_l (by omega), lgLT (by omega) (by omega)]
      refine ⟨fun c8 y19 e19 y21 e21 => ?_, fun c8 => ?_⟩
      · rw [lN_i] at e19
        exact ⟨n, rfl, rfl, rfl, 0, a, q', s.sp, rfl, Nat.zero_le _, e19, e21, rfl, c8, rfl, rfl, Z, F.mono (by simp [RS49])⟩
      · rw [← hA]
        exact bad (by unfold copR; rw [hA]; exact if_pos (by omega))
  · rintro m x0 x1 x2 x6 x7 h' ⟨rfl, rfl, rfl, k, a, q, l, rfl, hk, rfl, rfl, hA, ha, hl, hc, Y, F⟩
    refine ⟨fun c7 => ?_, fun c7 => ?_⟩
    · rw [nI_leI (by omega) (by omega)] at c7
      have : k = n := by omega
      subst this
      rw [Nat.sub_self, copyL] at hc
      refine ⟨rfl, by rw [k49_1 Y.f]; rfl, _, by rw [k49_1 Y.f]; exact S_keep (cc49 Y.f) Y.k Y.kN.1 Y.kN.2 Y.W.nx a (by omega), fun h7 hp => ?_⟩
      obtain ⟨V, F2⟩ := hp
      have Z := Y.kp F2 V (WOk.of ⟨Y.W.ca, Y.W.da, Y.W.aa, Y.W.s1, Y.W.s2, fun i => by
        show keepN _ _ _ _ i < 16000
        unfold keepN
        split
        · exact updN_lt Y.W.nr (by omega) i
        · exact Y.W.nr i, fun i => by
        show keepS _ _ _ i < 16000
        unfold keepS
        split
        · exact updN_lt Y.W.sm (by omega) i
        · exact Y.W.sm i, keepX_ok Y.W.nx, Y.W.ac, Y.W.by_⟩)
      refine ⟨by rw [k49_2 Z.f]; rfl, _, by rw [k49_2 Z.f]; exact S_through (lc49 Z.f) Z.l 3 k mode (nI a) (by decide), fun h12 hp => ?_⟩
      obtain ⟨V2, F3⟩ := hp
      have U := Z.lg F3 V2 (thrA_len Z.W.ac)
      have e : copR c k mode s = .inr (((((((s.saa q).ssp l).snr (keepN c.T.2.1 s.nr s.nx a)).snx (keepX c.T.2.1 s.nx)).ssm (keepS c.T.2.2 s.sm a)).stl (thrT c.own s.tl 3 k)).sac (thrA c.own s.ac 3 k (nI a) mode)) := by
        unfold copR
        rw [hA, hc]
        exact if_neg (by omega)
      rw [e]
      refine ⟨⟨rfl, ?_⟩, (F.tr1 (F2.mono (by simp [RS49]))).tr1 (F3.mono (by simp [RS49]))⟩
      rw [X.own]; exact U
    · rw [nI_leI (by omega) (by omega)] at c7
      refine ⟨rfl, by rw [k49_9 Y.f]; rfl, _, by rw [k49_9 Y.f, nI_add]; exact spAt49 Y (a + k) (by show _ < l.length; omega), fun v19 h18 hp => ?_⟩
      obtain ⟨rfl, rfl⟩ := hp
      have hx : l.getD (a + k) 0 < 256 := getD_lt Y.W.by_ _
      obtain ⟨P, hC, hP⟩ := push49 (w := w) Y (l.getD (a + k) 0) hx (by show l.length < _; omega)
      refine ⟨by rw [Y.o.1]; exact X.ro.1, P, by rw [Y.o.1]; exact hC, fun h24 hp y25 e25 => ?_⟩
      obtain ⟨U, F3⟩ := hP h24 hp
      refine ⟨n - (k + 1), by omega, rfl, rfl, rfl, k + 1, a, q, l ++ [l.getD (a + k) 0], rfl, by omega, rfl, by rw [e25, nI_1], hA, ha, by simp; omega, ?_, U, F.tr1 (F3.mono (by simp [RS49]))⟩
      rw [← hc, show n - k = (n - (k + 1)) + 1 by omega, copyL, Nat.add_assoc]
