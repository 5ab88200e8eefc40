/-! the reference: one instruction, through (my own) -/
def AcMs (r : Sum Nat Wst) (t : Nat) (c : Wc) (s : Wst) (place : Nat) (h1 : Hp) : Prop := match r with
  | .inl f => Fa h1 f place ∧ f ≠ 0 ∧ ∃ x y z, MR h1 t c (((s.sca x).sda y).saa z)
  | .inr s' => Fa h1 0 0 ∧ MR h1 t c s'
def AcI (h : Hp) (t : Nat) (c : Wc) (s : Wst) (kind told mode : Nat) (m x0 : Nat) (x1 x3 : Int32) (x7 x9 : Int64) (x11 : Int32) (h' : Hp) : Prop := x0 = 97 ∧ x1 = nI kind ∧ x3 = nI mode ∧ ∃ (n k : Nat) (l : List Nat) (g : Nat → List Nat → Nat) (s1 : Wst) (inc : Nat), m = n - k ∧ k ≤ n ∧ n ≤ 8000 ∧ x7 = lN n ∧ x11 = nI k ∧ l.length = s1.sp.length + k ∧ s1.sp.length + n ≤ c.ss + c.tz ∧ inc = (if kind = 1 then n else if kind = 2 then 1 else 0) ∧ s1.da + inc ≤ c.dE ∧ ((kind = 1 ∧ g = fun k _ => c.src.getD (s1.da + k) 0) ∨ (kind = 2 ∧ g = fun _ _ => c.src.getD s1.da 0) ∨ (kind = 3 ∧ ∃ a, x9 = lN a ∧ a < s1.sp.length ∧ g = fun k l => l.getD (a + k) 0)) ∧ MR h' t c (s1.ssp l) ∧ Fa h' 0 0 ∧ Fm AK AS AL h h' ∧ actP c kind told mode s = .inr ((((s1.ssp (spG g k (n - k) l)).sda (s1.da + inc)).stl (thrT c.own s1.tl kind n)).sac (thrA c.own s1.ac kind n x9.toInt32 (if kind = 3 then mode else 0)))
theorem MR.push {h : Hp} {t : Nat} {c : Wc} {s : Wst} {l : List Nat} (X : MR h t c (s.ssp l)) (hl : l.length < c.ss + c.tz) (x : Int32) (b : Nat) (e : un x = b) : MR (wI (wI h 107 l.length x) 97 26 (nI (l.length + 1))) t c (s.ssp (l ++ [b])) := by
  have W := X.W
  have F : Fm [26] [107] [] h (wI (wI h 107 l.length x) 97 26 (nI (l.length + 1))) := (Fm.rf.putC (by decide) (by simp)).put (by simp)
  refine X.ps (l := l ++ [b]) F (by rw [wI_same]; simp) ?_ ?_
  · have B := X.sp.push x
    rw [e] at B
    exact B.of (wI_cell (by decide))
  · refine WOk.of ⟨W.ca, W.da, W.aa, ?_, ?_, W.nr, W.sm, W.nx, W.ac, ?_⟩
    · have := W.s1
      have this : c.ss ≤ l.length := this
      show c.ss ≤ (l ++ [b]).length
      simp; omega
    · show (l ++ [b]).length ≤ _
      simp; omega
    · intro y hy
      rcases List.mem_append.mp hy with q | q
      · exact W.by_ y q
      · rw [List.mem_singleton.mp q, ← e]; exact un_lt _
theorem M_act {w : Wd} {h : Hp} {t : Nat} {c : Wc} {s : Wst} (X : MR h t c s) (A : Fa h 0 0) (kind told mode place : Nat) (hk : kind < 4) (htd : told < 256) (hmd : mode < 256) (gd : kind = 3 → mode < 2 + c.T.2.1 + c.T.2.2) : C_X12_act w SH 97 (nI kind) (nI told) (nI mode) (nI c.tz) (nI place) (nI c.cE) h (fun h1 => AcMs (actP c kind told mode s) t c s place h1 ∧ Fm AK AS AL h h1) := by
  have cl := X.C.l
  have cc := X.C.c_
  have cd := X.C.d
  have cz := X.C.z
  have cs := X.C.s
  have w1 := X.W.s1
  have w2 := X.W.s2
  have wd := X.W.da
  have wc := X.W.ca
  refine K_X12_act nlt_wf (AcI h t c s kind told mode) ?_ ?_
  · by_cases h0 : kind = 0
    · subst h0
      refine ⟨fun c7 => absurd rfl c7, fun _ => ⟨?_, Fm.rf⟩⟩
      rw [show actP c 0 told mode s = .inr s by simp [actP]]
      exact ⟨A, X⟩
    refine ⟨fun _ y2 e2 => ?_, fun c7 => absurd ((nIz (by omega)).mp c7) h0⟩
    rw [nI_l (by omega)] at e2
    subst e2
    have fl : ∀ (f : Nat) (h' : Hp) (x y z : Nat), f ≠ 0 → f < 17 → actP c kind told mode s = .inl f → Fa h' 0 0 → MR h' t c (((s.sca x).sda y).saa z) → Fm AK AS AL h h' → ∃ P : Int32 → Hp → Prop, C_X12_fails w SH 97 (nI f) (nI place) h' P ∧ ∀ (v : Int32) (h1 : Hp), P v h1 → AcMs (actP c kind told mode s) t c s place h1 ∧ Fm AK AS AL h h1 := by
      intro f h' x y z hf h17 ea A' Y F
      refine ⟨_, M_fails A' f place h17, fun v h1 hp => ?_⟩
      obtain ⟨-, A1, F1⟩ := hp
      rw [ea]
      exact ⟨⟨A1, hf, x, y, z, Y.nop (F1.mono (by decide) (by decide) (by decide))⟩, F.tr (F1.mono (by decide) (by decide) (by decide))⟩
    have v45 : ∀ (h' : Hp) (n ca' : Nat), szP c told s = some (n, ca') → MR h' t c (s.sca ca') → Fa h' 0 0 → Fm AK AS AL h h' → n ≤ 4294967295 → V_X12_act_45 w SH 97 (nI kind) (nI mode) (nI c.tz) (nI place) (lN n) h' (fun x0 x1 x3 x7 x9 x11 h_1 => ∃ a, AcI h t c s kind told mode a x0 x1 x3 x7 x9 x11 h_1) (fun h1 => AcMs (actP c kind told mode s) t c s place h1 ∧ Fm AK AS AL h h1) := by
      intro h' n ca' hz Y A' F hn
      have ha : actP c kind told mode s = (if c.tz < s.sp.length - c.ss + n then .inl 13 else
          if kind = 3 then
            match adrP c mode s with
            | none => .inl 14
            | some (a, aa') => if s.sp.length ≤ a then .inl 14 else .inr ((((((((s.sca (ca')).saa (aa')).ssp (copyL a n s.sp)).snr (keepN c.T.2.1 s.nr s.nx a)).snx (keepX c.T.2.1 s.nx)).ssm (keepS c.T.2.2 s.sm a)).stl (thrT c.own s.tl 3 n)).sac (thrA c.own s.ac 3 n (nI a) mode))
          else if kind = 1 then
            (if c.dE - s.da < n then .inl 12 else .inr (((((s.sca (ca')).sda (s.da + n)).ssp (s.sp ++ (c.src.drop s.da).take n)).stl (thrT c.own s.tl 1 n)).sac (thrA c.own s.ac 1 n (-1) 0)))
          else
            (if c.dE ≤ s.da then .inl 12 else .inr (((((s.sca (ca')).sda (s.da + 1)).ssp (s.sp ++ List.replicate n (c.src.getD s.da 0))).stl (thrT c.own s.tl 2 n)).sac (thrA c.own s.ac 2 n (-1) 0)))) := by
        unfold actP
        rw [if_neg h0, hz]
        rfl
      have i26 : h'.1 97 26 = nI s.sp.length := Y.i26
      rw [V_X12_act_45, i26, Y.i25, pk_sub w1, nI_l (by omega), lN_add, nI_l (by omega), lgLE (by omega) (by omega)]
      refine ⟨rfl, fun c7 => ?_, fun c7 => ?_⟩
      · rw [if_neg (by omega)] at ha
        rw [show (3 : Int32) = nI 3 from rfl, nI_eq (by omega) (by omega)]
        refine ⟨fun k3 => ⟨fun c8 => absurd (by rw [k3]; rfl) c8, fun _ => ⟨rfl, _, M_addressBy Y mode (gd k3), fun v7 h6 hp y1 e1 => ?_⟩⟩, fun k3 => ?_⟩
        · subst e1
          rw [if_pos k3] at ha
          obtain ⟨⟨q, Y6, ad⟩, F6⟩ := hp
          have A6 := A'.fm F6 (by decide) (by decide)
          have F6 := F.tr (F6.mono (by decide) (by decide) (by decide))
          have had : adrP c mode (s.sca ca') = adrP c mode s := rfl
          rw [had] at ad
          have f14 : actP c kind told mode s = .inl 14 → V_X12_act_170 w SH 97 (nI place) h6 (fun x0 x1 x3 x7 x9 x11 h_1 => ∃ a, AcI h t c s kind told mode a x0 x1 x3 x7 x9 x11 h_1) (fun h1 => AcMs (actP c kind told mode s) t c s place h1 ∧ Fm AK AS AL h h1) := fun e => ⟨rfl, fl 14 h6 ca' s.da q (by decide) (by decide) e A6 Y6 F6⟩
          refine ⟨fun c8 => absurd (by rw [k3]; rfl) c8, fun _ => ⟨rfl, ?_⟩⟩
          cases hA : adrP c mode s with
          | none =>
            rw [hA] at ad ha
            exact ⟨fun _ => f14 ha, fun a36 => ⟨fun _ => f14 ha, fun a37 => ⟨fun _ => f14 ha, fun c9 => absurd (lneg_cmp ((ad.resolve_left fun q => q a36).resolve_left fun q => q a37)) c9⟩⟩⟩
          | some x =>
            obtain ⟨a, q'⟩ := x
            rw [hA] at ad ha
            obtain ⟨a36, a37, eq, ha40, ev⟩ := ad
            subst eq; subst ev
            simp only [] at ha
            refine ⟨fun c9 => absurd a36 c9, fun _ => ⟨fun c9 => absurd a37 c9, fun _ => ⟨fun c9 => absurd c9 (lpos_cmp a (by omega)), fun _ => ?_⟩⟩⟩
            have j26 : h6.1 97 26 = nI s.sp.length := Y6.i26
            rw [j26, nI_l (by omega), lgLT (by omega) (by omega)]
            refine ⟨fun c9 => ⟨fun c10 => absurd (by rw [k3]; rfl) c10, fun _ => ⟨rfl, _, M_remember Y6 a (by omega), fun h9 hp y1 e1 => ?_⟩⟩, fun c9 => ?_⟩
            · obtain ⟨Y9, F9⟩ := hp
              rw [if_neg (by omega)] at ha
              refine ⟨n, rfl, rfl, rfl, n, 0, s.sp, _, (((((s.sca ca').saa q').snr (keepN c.T.2.1 s.nr s.nx a)).ssm (keepS c.T.2.2 s.sm a)).snx (keepX c.T.2.1 s.nx)), 0, rfl, by omega, by omega, rfl, e1, rfl, by show s.sp.length + n ≤ _; omega, by rw [if_neg (by omega), if_neg (by omega)], wd, Or.inr (Or.inr ⟨k3, a, rfl, c9, rfl⟩), Y9, A6.fm F9 (by decide) (by decide), F6.tr (F9.mono (by decide) (by decide) (by decide)), ?_⟩
              rw [ha, spG_copy, lN_i, if_pos k3, k3]
              rfl
            · rw [if_pos (by omega)] at ha
              exact f14 ha
        · rw [if_neg k3] at ha
          have go : ∀ inc : Nat, inc = (if kind = 1 then n else if kind = 2 then 1 else 0) → s.da + inc ≤ c.dE → ∀ g : Nat → List Nat → Nat, ((kind = 1 ∧ g = fun k _ => c.src.getD (s.da + k) 0) ∨ (kind = 2 ∧ g = fun _ _ => c.src.getD s.da 0)) → actP c kind told mode s = .inr (((((s.sca ca').ssp (spG g 0 n s.sp)).sda (s.da + inc)).stl (thrT c.own s.tl kind n)).sac (thrA c.own s.ac kind n (-1) 0)) → V_X12_act_115 w SH 97 (nI kind) (nI mode) (nI place) (lN n) h' (fun x0 x1 x3 x7 x9 x11 h_1 => ∃ a, AcI h t c s kind told mode a x0 x1 x3 x7 x9 x11 h_1) (fun h1 => AcMs (actP c kind told mode s) t c s place h1 ∧ Fm AK AS AL h h1) := by
            intro inc ei hi g hg ea
            have c3 : ¬ nI kind = (3 : Int32) := by rw [show (3 : Int32) = nI 3 from rfl, nI_eq (by omega) (by omega)]; exact k3
            refine ⟨fun _ y1 e1 => ⟨fun _ => ⟨fun _ y1' e1' => ?_, fun c8 => absurd c8 c3⟩, fun c8 => absurd c8 c3⟩, fun c8 => absurd c8 c3⟩
            subst e1
            refine ⟨n, rfl, rfl, rfl, n, 0, s.sp, g, s.sca ca', inc, rfl, by omega, by omega, rfl, e1', rfl, by show s.sp.length + n ≤ _; omega, ei, hi, hg.imp_right Or.inl, Y, A', F, ?_⟩
            rw [ea, if_neg k3]
            rfl
          have f12 : actP c kind told mode s = .inl 12 → ∃ P3 : Int32 → Hp → Prop, C_X12_fails w SH 97 (12 : Int32) (nI place) h' P3 ∧ ∀ (v7 : Int32) (h6 : Hp), P3 v7 h6 → AcMs (actP c kind told mode s) t c s place h6 ∧ Fm AK AS AL h h6 := fun e => fl 12 h' ca' s.da s.aa (by decide) (by decide) e A' Y F
          have i38 : h'.1 97 38 = nI s.da := Y.i38
          rw [show (1 : Int32) = nI 1 from rfl, nI_eq (by omega) (by omega)]
          refine ⟨fun k1 => ?_, fun k1 => ?_⟩
          · rw [V_X12_act_91, Y.i39, i38, pk_sub wd, nI_l (by omega), show (1 : Int64) = lN 1 from rfl, lgLE (by omega) (by omega)]
            rw [if_neg k1] at ha
            refine ⟨rfl, fun c8 => ?_, fun c8 => ?_⟩
            · rw [if_neg (by omega)] at ha
              refine go 1 (by rw [if_neg k1, if_pos (by omega)]) (by omega) _ (Or.inr ⟨by omega, rfl⟩) ?_
              rw [ha, spG_run, show kind = 2 by omega]
            · rw [if_pos (by omega)] at ha
              exact f12 ha
          · rw [V_X12_act_91, Y.i39, i38, pk_sub wd, nI_l (by omega), lgLE (by omega) (by omega)]
            rw [if_pos k1] at ha
            refine ⟨rfl, fun c8 => ?_, fun c8 => ?_⟩
            · rw [if_neg (by omega)] at ha
              refine go n (by rw [if_pos k1]) (by omega) _ (Or.inl ⟨k1, rfl⟩) ?_
              rw [ha, spG_add _ _ _ _ _ (by omega), k1]
              rfl
            · rw [if_pos (by omega)] at ha
              exact f12 ha
      · rw [if_pos (by omega)] at ha
        exact fl 13 h' ca' s.da s.aa (by decide) (by decide) ha A' Y F
    rw [nIz (by omega)]
    refine ⟨fun c7 => v45 h told s.ca (by simp [szP, c7]) X A Fm.rf (by omega), fun c7 => ⟨rfl, _, M_big X.r X.i14 ⟨wc, cc⟩, fun v10 h9 hp y11 e11 => ?_⟩⟩
    subst e11
    obtain ⟨q, q1, q2, a14, F, hb⟩ := hp
    have Y := X.ca F a14 q2
    have A9 := A.fm F (by decide) (by decide)
    have F9 : Fm AK AS AL h h9 := F.mono (by decide) (by decide) (by decide)
    have f11 : szP c told s = none → V_X12_act_35 w SH 97 (nI place) h9 (fun x0 x1 x3 x7 x9 x11 h_1 => ∃ a, AcI h t c s kind told mode a x0 x1 x3 x7 x9 x11 h_1) (fun h1 => AcMs (actP c kind told mode s) t c s place h1 ∧ Fm AK AS AL h h1) := fun hz => ⟨rfl, fl 11 h9 q s.da s.aa (by decide) (by decide) (by unfold actP; rw [if_neg h0, hz]) A9 Y F9⟩
    cases hB : bigP c.src c.cE s.ca with
    | inl x =>
      have hz : szP c told s = none := by simp [szP, c7, hB]
      rw [hB] at hb
      cases x with
      | true =>
        have hb : h9.1 97 37 = 1 := hb
        exact ⟨fun _ => f11 hz, fun _ => ⟨fun c8 => absurd (hb.symm.trans c8) (by decide), fun _ => f11 hz⟩⟩
      | false => exact ⟨fun _ => f11 hz, fun c8 => absurd (hb.2.symm.trans c8) (by decide)⟩
    | inr x =>
      obtain ⟨n, q'⟩ := x
      have hk2 := bigP_ok hB
      rw [hB] at hb
      obtain ⟨b37, b36, ev, eq⟩ := hb
      have ev : y11 = lN n := ev
      have eq : q' = q := eq
      subst ev; subst eq
      exact ⟨fun c8 => absurd b36 c8, fun _ => ⟨fun _ => v45 h9 n q' (by simp [szP, c7, hB]) Y A9 F9 hk2.2.2, fun c8 => absurd b37 c8⟩⟩
  · rintro m x0 x1 x3 x7 x9 x11 h' ⟨rfl, rfl, rfl, n, k, l, g, s1, inc, rfl, hkn, hn8, rfl, rfl, hl, hb, ei, hi, hg, Y, A', F, ea⟩
    have hk0 : kind = 1 ∨ kind = 2 ∨ kind = 3 := by
      rcases hg with q | q | q
      · exact Or.inl q.1
      · exact Or.inr (Or.inl q.1)
      · exact Or.inr (Or.inr q.1)
    have f' := Y.r.1
    have k24 := fx f' 97 24 107 (by decide +kernel)
    have k13 : h'.2.1 97 13 = 98 := Y.r.2.1
    have i38 : h'.1 97 38 = nI s1.da := Y.i38
    rw [V_X12_act_194, nI_l (by omega), lgGE (by omega) (by omega)]
    have n1 : nI kind = (1 : Int32) ↔ kind = 1 := by rw [show (1 : Int32) = nI 1 from rfl, nI_eq (by omega) (by omega)]
    have n2 : nI kind = (2 : Int32) ↔ kind = 2 := by rw [show (2 : Int32) = nI 2 from rfl, nI_eq (by omega) (by omega)]
    have n3 : nI kind = (3 : Int32) ↔ kind = 3 := by rw [show (3 : Int32) = nI 3 from rfl, nI_eq (by omega) (by omega)]
    rw [n1, n2, n3]
    refine ⟨fun c7 => ⟨rfl, ?_⟩, fun c7 => ⟨rfl, ?_⟩⟩
    · have : k = n := by omega
      subst this
      rw [Nat.sub_self] at ea
      have fin : ∀ inc' : Int32, inc' = nI inc → ∀ L, V_X12_act_302 w SH 97 (nI kind) (nI mode) (lN k) x9 inc' (h'.1 97 38) 97 h' L (fun h1 => AcMs (actP c kind told mode s) t c s place h1 ∧ Fm AK AS AL h h1) := by
        intro inc' e L
        subst e
        refine M_act302 Y kind mode k inc x9 hk0 (by omega) (by omega) hi fun h1 Z F1 e6 => ⟨?_, F.tr F1⟩
        rw [ea]
        exact ⟨⟨by rw [e6]; exact A'.1, by decide, fun q => absurd rfl q⟩, Z⟩
      refine ⟨fun k1 => ⟨fun k2 => fin _ ?_ _, fun k2 => fin _ ?_ _⟩, fun k1 => fin _ ?_ _⟩
      · rw [ei, if_neg k1, if_neg k2]; rfl
      · rw [ei, if_neg k1, if_pos k2]; rfl
      · rw [ei, if_pos k1, lN_i]
    · have hlt : l.length < c.ss + c.tz := by omega
      have hsp : (s1.ssp l).sp.length = l.length := rfl
      have go : ∀ (x : Int32), un x = g k l → ∀ L, (∀ h7, AcI h t c s kind told mode (n - (k + 1)) 97 (nI kind) (nI mode) (lN n) x9 (nI (k + 1)) h7 → L 97 (nI kind) (nI mode) (lN n) x9 (nI (k + 1)) h7) → V_X12_act_259 w SH 97 (nI kind) (nI mode) (lN n) x9 (nI k) x (h'.1 97 26) 107 h' L (fun h1 => AcMs (actP c kind told mode s) t c s place h1 ∧ Fm AK AS AL h h1) := by
        intro x ex L hL
        have i26 : h'.1 97 26 = nI l.length := Y.i26
        rw [V_X12_act_259, i26, nI_clamp (by omega)]
        refine ⟨16000, rfl, vp_in_nI (by omega) (by decide), fun h4 e4 => ⟨rfl, fun h7 e7 y9 e9 => ?_⟩⟩
        rw [nI_1] at e9
        subst e9
        refine hL h7 ?_
        have e4' : h4.1 97 26 = nI l.length := by rw [e4, wI_cell (by decide)]; exact i26
        rw [e4', nI_1, e4] at e7
        subst e7
        have Y7 := Y.push hlt x _ ex
        have F7 : Fm AK AS AL h' (wI (wI h' 107 l.length x) 97 26 (nI (l.length + 1))) := (Fm.rf.putC (by decide) (by decide)).put (by decide)
        refine ⟨rfl, rfl, rfl, n, k + 1, l ++ [g k l], g, s1, inc, rfl, by omega, hn8, rfl, rfl, by simp; omega, hb, ei, hi, hg, Y7, ⟨by rw [wI_idx (by decide), wI_cell (by decide)]; exact A'.1, by decide, fun q => absurd rfl q⟩, F.tr F7, ?_⟩
        rw [ea, show n - k = (n - (k + 1)) + 1 by omega, spG]
      have stp : ∀ h7, AcI h t c s kind told mode (n - (k + 1)) 97 (nI kind) (nI mode) (lN n) x9 (nI (k + 1)) h7 → ∃ a, a < n - k ∧ AcI h t c s kind told mode a 97 (nI kind) (nI mode) (lN n) x9 (nI (k + 1)) h7 := fun h7 q => ⟨_, by omega, q⟩
      refine ⟨fun k3 => ⟨fun k1 => ?_, fun k1 => ?_⟩, fun k3 => ?_⟩
      · obtain ⟨k2, eg⟩ := (hg.resolve_left fun q => k1 q.1).resolve_right fun q => k3 q.1
        have hd : s1.da < c.dE := by rw [ei, if_neg k1, if_pos k2] at hi; omega
        rw [i38, k13, k24, nI_clamp (by omega)]
        refine ⟨8000, rfl, vp_in_nI (by omega) (by decide), go _ ?_ _ stp⟩
        rw [eg]
        exact b8_by Y.r.2.2.1 (by omega)
      · have eg : g = fun k _ => c.src.getD (s1.da + k) 0 := by
          rcases hg with q | q | q
          · exact q.2
          · omega
          · omega
        rw [ei, if_pos k1] at hi
        rw [i38, nI_add, k13, k24, nI_clamp (by omega)]
        refine ⟨8000, rfl, vp_in_nI (by omega) (by decide), go _ ?_ _ stp⟩
        rw [eg]
        exact b8_by Y.r.2.2.1 (by omega)
      · obtain ⟨a, ex9, hal, eg⟩ : ∃ a, x9 = lN a ∧ a < s1.sp.length ∧ g = fun k l => l.getD (a + k) 0 := by
          rcases hg with q | q | q
          · omega
          · omega
          · exact q.2
        have hx : x9.toInt32 + nI k = nI (a + k) := by rw [ex9, lN_i, nI_add]
        rw [hx, k24, nI_clamp (by omega)]
        refine ⟨16000, rfl, vp_in_nI (by omega) (by decide), go _ ?_ _ stp⟩
        rw [eg]
        exact b8_by Y.sp (by rw [hsp]; omega)
