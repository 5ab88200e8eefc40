/-! an opener at the cell 70: a code's halves, a window's codes (printed twice by wip/whole/genopen.py) -/
theorem runHalf70 {w : Wd} {h : Hp} {ra rs : Nat} {c : Wc} {s : Wst} {base pre : List Nat} {gr sp : Nat} {pl : Int32} {cp : Nat} (X : RV70 h ra rs c s base pre gr sp 0 pl cp) (b hf : Nat) (hb : b < 256) (hh : hf = 0 ∨ hf = 3) : C_X7_runHalf w SH 70 (nI b) (nI hf) h (fun v h1 => PH (fun s f q => RV70 h1 ra rs c s base pre gr sp f q cp) (actP c (tE c.T b hf) (tE c.T b (hf + 1)) (tE c.T b (hf + 2)) s) s cp pl v ∧ Fr (RS70 rs) h h1) := by
  have bb := X.b
  have w1 := X.W.s1
  have w2 := X.W.s2
  have wc := X.W.ca
  have cc := X.C.c_
  have cl := X.C.l
  have cz := X.C.z
  have cs := X.C.s
  have G := X.C.g b hb hf hh
  have t256 : ∀ i, tE c.T b i < 256 := fun i => getD_lt X.C.tb _
  have hk := t256 hf
  have ht := t256 (hf + 1)
  have fin : ∀ (h' : Hp) (n q : Nat), tE c.T b hf ≠ 0 → RV70 h' ra rs c (s.sca q) base pre gr sp 0 pl cp → Fr (RS70 rs) h h' → szP c (tE c.T b (hf + 1)) s = some (n, q) → n ≤ 4294967295 → V_X7_runHalf_48 w SH 70 (nI b) (nI hf) (nI (tE c.T b hf)) (lN n) h' (fun v h1 => PH (fun s f q => RV70 h1 ra rs c s base pre gr sp f q cp) (actP c (tE c.T b hf) (tE c.T b (hf + 1)) (tE c.T b (hf + 2)) s) s cp pl v ∧ Fr (RS70 rs) h h1) := by
    intro h' n q k0 Y F hz hn
    refine ⟨fun _ => ⟨rfl, by rw [k70_9 Y.f]; rfl, _, by rw [k70_9 Y.f]; exact tlen70 Y, fun v8 h7 hp => ?_⟩, fun c7 => ?_⟩
    · obtain ⟨rfl, rfl⟩ := hp
      have e17 : h7.1 70 17 = nI c.tz := Y.o.2.2.2.1
      rw [e17, show ((s.sca q) : Wst).sp.length = s.sp.length from rfl, pk_sub (by omega), nI_l (by omega), lgLE (by omega) (by omega), lN_i]
      have ea : actP c (tE c.T b hf) (tE c.T b (hf + 1)) (tE c.T b (hf + 2)) s = (if c.tz < s.sp.length - c.ss + n then .inl 13 else if tE c.T b hf = 3 then (match copR c n (tE c.T b (hf + 2)) s with | .inl f => .inl f | .inr s' => .inr (s'.sca q)) else if tE c.T b hf = 1 then (if c.dE - s.da < n then .inl 12 else .inr (((((s.sca q).sda (s.da + n)).ssp (s.sp ++ (c.src.drop s.da).take n)).stl (thrT c.own s.tl 1 n)).sac (thrA c.own s.ac 1 n (-1) 0))) else (if c.dE ≤ s.da then .inl 12 else .inr (((((s.sca q).sda (s.da + 1)).ssp (s.sp ++ List.replicate n (c.src.getD s.da 0))).stl (thrT c.own s.tl 2 n)).sac (thrA c.own s.ac 2 n (-1) 0)))) := by
        unfold actP copR
        rw [if_neg k0, hz]
        simp only
        cases adrP c (tE c.T b (hf + 2)) s with
        | none => rfl
        | some x =>
          simp only
          split
          · rfl
          · split
            · split
              · rfl
              · rfl
            · rfl
      rw [ea]
      refine ⟨fun c8 => ⟨fun c9 => ⟨fun c10 => ?_, fun c10 => ?_⟩, fun c9 => ?_⟩, fun c8 => ⟨_, S_fail rfl 13 _, fun v37 h36 hp => ?_⟩⟩
      · rw [show (3 : Int32) = nI 3 from rfl, nI_eq (by omega) (by omega)] at c9
        rw [show (1 : Int32) = nI 1 from rfl, nI_eq (by omega) (by omega)] at c10
        rw [if_neg (by omega), if_neg c9, if_neg c10]
        refine ⟨_, runRun70 Y n (by show s.sp.length - c.ss + n ≤ c.tz; omega), fun v16 h15 hp => ⟨hp.1.v, ?_, F.tr1 hp.2⟩⟩
        have h1 := hp.1
        by_cases hd : c.dE ≤ s.da
        · rw [if_pos hd] at h1 ⊢
          obtain ⟨v0, x, y, z, R⟩ := h1
          exact ⟨v0, x, y, z, R⟩
        · rw [if_neg hd] at h1 ⊢
          exact h1
      · rw [show (3 : Int32) = nI 3 from rfl, nI_eq (by omega) (by omega)] at c9
        rw [show (1 : Int32) = nI 1 from rfl, nI_eq (by omega) (by omega)] at c10
        rw [if_neg (by omega), if_neg c9, if_pos c10]
        refine ⟨_, runAdd70 Y n (by show s.sp.length - c.ss + n ≤ c.tz; omega), fun v16 h15 hp => ⟨hp.1.v, ?_, F.tr1 hp.2⟩⟩
        have h1 := hp.1
        by_cases hd : c.dE - s.da < n
        · rw [if_pos hd] at h1 ⊢
          obtain ⟨v0, x, y, z, R⟩ := h1
          exact ⟨v0, x, y, z, R⟩
        · rw [if_neg hd] at h1 ⊢
          exact h1
      · rw [show (3 : Int32) = nI 3 from rfl, nI_eq (by omega) (by omega)] at c9
        rw [if_neg (by omega), if_pos c9]
        refine ⟨by rw [k70_0 Y.f]; rfl, _, by rw [k70_0 Y.f, show (2 : Int32) = nI 2 from rfl, nI_add]; exact S_get Y.t b (hf + 2) hb (by omega), fun v27 h26 hp => ?_⟩
        obtain ⟨rfl, rfl⟩ := hp
        refine ⟨_, runCopy70 Y n (tE c.T b (hf + 2)) (by show s.sp.length - c.ss + n ≤ c.tz; omega) (by omega), fun v16 h15 hp => ⟨hp.1.v, ?_, F.tr1 hp.2⟩⟩
        have h1 := hp.1
        have ec : copR c n (tE c.T b (hf + 2)) (s.sca q) = (match copR c n (tE c.T b (hf + 2)) s with | .inl f => .inl f | .inr s' => .inr (s'.sca q)) := by
          unfold copR
          rw [show adrP c (tE c.T b (hf + 2)) (s.sca q) = adrP c (tE c.T b (hf + 2)) s from rfl]
          cases adrP c (tE c.T b (hf + 2)) s with
          | none => rfl
          | some x =>
            simp only
            split
            · rfl
            · rfl
        rw [ec] at h1
        revert h1
        cases copR c n (tE c.T b (hf + 2)) s with
        | inl f =>
          rintro ⟨v0, x, y, z, R⟩
          exact ⟨v0, x, y, z, R⟩
        | inr s' => exact id
      · rw [if_pos (by omega)]
        obtain ⟨rfl, rfl⟩ := hp
        rw [Y.o.2.2.2.2.1]
        have B := Y.bad 13 (nI cp)
        exact ⟨Or.inl rfl, ⟨rfl, q, s.da, s.aa, B.1⟩, F.tr1 B.2⟩
    · rw [show (0 : Int64) = lN 0 from rfl, lgGE (by omega) (by omega)] at c7
      omega
  refine K_X7_runHalf ⟨rfl, by rw [k70_0 X.f]; rfl, _, by rw [k70_0 X.f, show (0 : Int32) = nI 0 from rfl, nI_add]; exact S_get X.t b (hf + 0) hb (by omega), fun v7 h6 hp y8 e8 => ?_⟩
  obtain ⟨rfl, rfl⟩ := hp
  have e8' : y8 = nI (tE c.T b hf) := e8
  subst e8'
  refine ⟨fun c7 => ⟨by rw [k70_0 X.f]; rfl, _, by rw [k70_0 X.f, show (1 : Int32) = nI 1 from rfl, nI_add]; exact S_get X.t b (hf + 1) hb (by omega), fun v16 h15 hp y17 e17 => ?_⟩, fun c7 => ?_⟩
  · rw [show (0 : Int32) = nI 0 from rfl, nI_eq (by omega) (by omega)] at c7
    obtain ⟨rfl, rfl⟩ := hp
    have e17' : y17 = lN (tE c.T b (hf + 1)) := by rw [e17]; exact nI_l (Nat.lt_trans ht (by decide))
    subst e17'
    rw [show (0 : Int64) = lN 0 from rfl, lgEQ (by omega) (by omega)]
    refine ⟨fun c8 => ?_, fun c8 => ⟨by rw [k70_6 X.f]; rfl, _, by rw [k70_6 X.f]; exact S_nextBig X.cc X.rr ⟨by omega, by omega⟩ cc wc, fun v25 h24 hp y26 e26 => ?_⟩⟩
    · exact fin h15 _ s.ca c7 X Fr.rf (by unfold szP; rw [if_neg c8]) (by omega)
    · obtain ⟨q, q1, q2, V, F, hB⟩ := hp
      subst e26
      have Z := X.mvC F V q2
      cases hz : bigP c.src c.cE s.ca with
      | inl x =>
        rw [hz] at hB
        have hv : y26 < 0 := by
          cases x with
          | true => have : y26 = -2 := hB; rw [this]; decide
          | false => have : y26 = -1 := hB; rw [this]; decide
        have ea : actP c (tE c.T b hf) (tE c.T b (hf + 1)) (tE c.T b (hf + 2)) s = .inl 11 := by
          unfold actP szP
          rw [if_neg c7, if_pos c8, hz]
        rw [ea]
        refine ⟨fun c9 => absurd (lneg_cmp hv) (Int32.not_lt.mpr c9), fun _ => ⟨rfl, _, S_fail rfl 11 _, fun v43 h42 hp => ?_⟩⟩
        obtain ⟨rfl, rfl⟩ := hp
        rw [Z.o.2.2.2.2.1]
        have B := Z.bad 11 (nI cp)
        exact ⟨Or.inl rfl, ⟨rfl, q, s.da, s.aa, B.1⟩, (F.mono (by simp [RS70])).tr1 B.2⟩
      | inr x =>
        obtain ⟨n, q'⟩ := x
        rw [hz] at hB
        obtain ⟨rfl, rfl⟩ := hB
        exact fin h24 n q c7 Z (F.mono (by simp [RS70])) (by unfold szP; rw [if_pos c8, hz]) (bigP_ok hz).2.2
  · rw [show (0 : Int32) = nI 0 from rfl, nI_eq (by omega) (by omega)] at c7
    have ea : actP c (tE c.T b hf) (tE c.T b (hf + 1)) (tE c.T b (hf + 2)) s = .inr s := by
      unfold actP
      rw [if_pos c7]
    rw [ea]
    exact ⟨⟨rfl, X⟩, Fr.rf⟩
