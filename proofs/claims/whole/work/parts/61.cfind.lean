/-! the class: the finder (my own) -/
def F4 (a b c d : Int32) : Int32 := ((((a <<< ((24 : Int32) &&& 31)) ||| (b <<< ((16 : Int32) &&& 31))) ||| (c <<< ((8 : Int32) &&& 31))) ||| d) * (-1640531535 : Int32)
/-- the chain of a place -/
def hs (sp : List Nat) (q : Nat) : Nat := (F4 (nI (sp.getD q 0)) (nI (sp.getD (q + 1) 0)) (nI (sp.getD (q + 2) 0)) (nI (sp.getD (q + 3) 0))).toBitVec.toNat / 65536 % 1024
theorem hs_lt (sp : List Nat) (q : Nat) : hs sp q < 1024 := Nat.mod_lt _ (by decide)
theorem hs_same {sp : List Nat} {q p : Nat} (h : 4 ≤ sameN sp q p) : hs sp q = hs sp p := by
  have e : ∀ j, j < 4 → sp.getD (q + j) 0 = sp.getD (p + j) 0 := fun j hj => sameGo_eq (k := sp.length - p) (n := 0) (Nat.zero_le _) (Nat.lt_of_lt_of_le hj h)
  have e0 : sp.getD q 0 = sp.getD p 0 := e 0 (by decide)
  unfold hs
  rw [e0, e 1 (by decide), e 2 (by decide), e 3 (by decide)]
theorem ushr16 (x : Int32) : (x.toUInt32 >>> ((16 : Int32).toUInt32 &&& Int32.toUInt32 31)).toInt32 = nI (x.toBitVec.toNat / 65536) := by
  apply Int32.toBitVec_inj.mp
  apply BitVec.eq_of_toNat_eq
  have := pk_ushr x (16 : Int32) 16 (by decide)
  rw [this, pk_tn (by have := x.toBitVec.isLt; omega)]
theorem S_chainOf {w : Wd} {h : Hp} {sp : List Nat} (f : Fin h) (R : RowV SH h 29 30 6048 sp false) (p : Nat) (hp : p + 4 ≤ sp.length) : C_X3_chainOf w SH 28 (nI p) h (fun v h1 => h1 = h ∧ v = nI (hs sp p)) := by
  have k0 := fx f 28 0 29 (by decide +kernel)
  have hl := R.2.2.2.2.1
  refine K_X3_chainOf ⟨rfl, by rw [k0]; rfl, _, by rw [k0]; exact atG R p (by omega), fun v7 h6 hp1 => ?_⟩
  obtain ⟨e1, e2⟩ := hp1
  obtain rfl := e1.symm
  refine ⟨by rw [k0]; rfl, _, by rw [k0, nI_1]; exact atG R (p + 1) (by omega), fun v13 h12 hp1 => ?_⟩
  obtain ⟨e1, e3⟩ := hp1
  obtain rfl := e1.symm
  refine ⟨by rw [k0]; rfl, _, by rw [k0, show (2 : Int32) = nI 2 from rfl, nI_add]; exact atG R (p + 2) (by omega), fun v19 h18 hp1 => ?_⟩
  obtain ⟨e1, e4⟩ := hp1
  obtain rfl := e1.symm
  refine ⟨by rw [k0]; rfl, _, by rw [k0, show (3 : Int32) = nI 3 from rfl, nI_add]; exact atG R (p + 3) (by omega), fun v25 h24 hp1 y26 e26 => ?_⟩
  obtain ⟨e1, e5⟩ := hp1
  obtain rfl := e1.symm
  refine ⟨rfl, ?_⟩
  rw [e2, e3, e4, e5] at e26
  have e : y26 * (-1640531535 : Int32) = F4 (nI (sp.getD p 0)) (nI (sp.getD (p + 1) 0)) (nI (sp.getD (p + 2) 0)) (nI (sp.getD (p + 3) 0)) := by rw [e26]; rfl
  rw [e, ushr16]
  have hb : (F4 (nI (sp.getD p 0)) (nI (sp.getD (p + 1) 0)) (nI (sp.getD (p + 2) 0)) (nI (sp.getD (p + 3) 0))).toBitVec.toNat / 65536 < 65536 := by
    have := (F4 (nI (sp.getD p 0)) (nI (sp.getD (p + 1) 0)) (nI (sp.getD (p + 2) 0)) (nI (sp.getD (p + 3) 0))).toBitVec.isLt
    omega
  rw [show (1024 : Int32) = nI 1024 from rfl, pk_rem (by omega) (by decide) (by decide)]
  rfl
def prevP (f : Nat → Nat) (c : Nat) : Nat → Option Nat
  | 0 => none
  | m + 1 => if f m = c then some m else prevP f c m
theorem prevP_none {f : Nat → Nat} {c : Nat} : ∀ {m : Nat}, prevP f c m = none → ∀ j, j < m → f j ≠ c
  | 0, _, j, hj => by omega
  | m + 1, h, j, hj => by
    rw [prevP] at h
    split at h
    · cases h
    · rename_i q
      by_cases e : j = m
      · rw [e]; exact q
      · exact prevP_none h j (by omega)
theorem prevP_some {f : Nat → Nat} {c q : Nat} : ∀ {m : Nat}, prevP f c m = some q → q < m ∧ f q = c ∧ ∀ j, q < j → j < m → f j ≠ c
  | 0, h => by cases h
  | m + 1, h => by
    rw [prevP] at h
    split at h
    · injection h with h
      subst h
      exact ⟨by omega, by assumption, fun j h1 h2 => by omega⟩
    · rename_i q'
      obtain ⟨a, b, c'⟩ := prevP_some h
      refine ⟨by omega, b, fun j h1 h2 => ?_⟩
      by_cases e : j = m
      · rw [e]; exact q'
      · exact c' j h1 (by omega)
def enc (o : Option Nat) : Int32 := match o with
  | none => -1
  | some q => nI q
/-- the finder over the bytes sp; the places below ent are entered -/
def FnV (h : Hp) (sp : List Nat) (ent : Nat) : Prop := Fin h ∧ RowV SH h 29 30 6048 sp false ∧ h.1 28 3 = nI ent ∧ (ent = 0 ∨ ent + 4 ≤ sp.length) ∧ (∀ c, c < 1024 → h.1 31 c = enc (prevP (hs sp) c ent)) ∧ (∀ q, q < ent → h.1 32 q = enc (prevP (hs sp) (hs sp q) q))
theorem FnV.fr {h h1 : Hp} {sp : List Nat} {ent : Nat} {S : List Nat} (X : FnV h sp ent) (F : Fr S h h1) (a : 28 ∉ S) (b : 29 ∉ S) (c : 30 ∉ S) (d : 31 ∉ S) (e : 32 ∉ S) : FnV h1 sp ent := ⟨X.1.fr F, X.2.1.fr F b c, by rw [F.2.2 28 a]; exact X.2.2.1, X.2.2.2.1, by rw [F.2.2 31 d]; exact X.2.2.2.2.1, by rw [F.2.2 32 e]; exact X.2.2.2.2.2⟩
theorem S_enterUpTo {w : Wd} {h : Hp} {sp : List Nat} {ent : Nat} (X : FnV h sp ent) (p : Nat) (hp : p + 4 ≤ sp.length) (he : ent ≤ p) : C_X3_enterUpTo w SH 28 (nI p) h (fun h1 => FnV h1 sp p ∧ Fr [28, 31, 32] h h1 ∧ ∀ k, k ≠ 3 → h1.1 28 k = h.1 28 k) := by
  have key : ∀ (m : Nat) (h' : Hp) (k : Nat), FnV h' sp k → k ≤ p → m = p - k → Fr [28, 31, 32] h h' → (∀ k, k ≠ 3 → h'.1 28 k = h.1 28 k) → ∀ (L : Nat → Int32 → Hp → Prop), (∀ h3, FnV h3 sp (k + 1) → k < p → Fr [28, 31, 32] h h3 → (∀ k, k ≠ 3 → h3.1 28 k = h.1 28 k) → L 28 (nI p) h3) → V_X3_enterUpTo_0 w SH 28 (nI p) h' L (fun h1 => FnV h1 sp p ∧ Fr [28, 31, 32] h h1 ∧ ∀ k, k ≠ 3 → h1.1 28 k = h.1 28 k) := by
    intro m h' k Y hk em F o L hL
    obtain ⟨f, R, i3, e4, hh, hl⟩ := id Y
    have hlen := R.2.2.2.2.1
    have k1 := fx f 28 1 31 (by decide +kernel)
    have k2 := fx f 28 2 32 (by decide +kernel)
    rw [V_X3_enterUpTo_0, i3, nI_leI (by omega) (by omega), k2]
    refine ⟨rfl, fun c7 => ⟨?_, F, o⟩, fun c7 => ⟨6048, rfl, ?_⟩⟩
    · rw [show p = k by omega]; exact Y
    rw [ofN, nI_leI (by omega) (by omega)]
    refine ⟨fun c8 => absurd c8 (by omega), fun c8 => ⟨_, S_chainOf f R k (by omega), fun v10 h9 hp1 y11 e11 => ?_⟩⟩
    obtain ⟨e1, e2⟩ := hp1
    obtain rfl := e1.symm
    subst e2; subst e11
    have hc := hs_lt sp k
    rw [k1, k2, i3, nI_clamp (by omega), nI_clamp (by omega)]
    refine ⟨1024, rfl, vp_in_nI (by omega) (by decide), 6048, rfl, vp_in_nI (by omega) (by decide), fun h19 e19 => ⟨vp_in_nI (by omega) (by decide), fun h22 e22 h24 e24 => ?_⟩⟩
    have j3 : h19.1 28 3 = nI k := by rw [e19, wI_cell (by decide)]; exact i3
    rw [j3] at e22
    have l3 : h22.1 28 3 = nI k := by rw [e22, wI_cell (by decide)]; exact j3
    rw [l3, nI_1] at e24
    have F24 : Fr [28, 31, 32] h' h24 := by
      rw [e24, e22, e19]
      exact ((Fr.rf.put (by simp)).put (by simp)).put (by simp)
    refine hL h24 ⟨f.fr F24, R.fr F24 (by decide) (by decide), by rw [e24, wI_same], Or.inr (by omega), fun c hc2 => ?_, fun q hq => ?_⟩ (by omega) (F.tr1 F24) (fun j hj => by rw [e24, wI_idx hj, e22, wI_cell (by decide), e19, wI_cell (by decide)]; exact o j hj)
    · rw [e24, wI_cell (by decide), e22, wI_if, e19, wI_cell (by decide), prevP]
      by_cases e : hs sp k = c
      · rw [if_pos e.symm, if_pos e]; rfl
      · rw [if_neg (Ne.symm e), if_neg e]; exact hh c hc2
    · rw [e24, wI_cell (by decide), e22, wI_cell (by decide), e19, wI_if]
      by_cases e : q = k
      · rw [if_pos e, e]; exact hh _ hc
      · rw [if_neg e]; exact hl q (by omega)
  refine K_X3_enterUpTo nlt_wf (fun m x0 x1 h' => x0 = 28 ∧ x1 = nI p ∧ ∃ k, FnV h' sp k ∧ k ≤ p ∧ m = p - k ∧ Fr [28, 31, 32] h h' ∧ ∀ k, k ≠ 3 → h'.1 28 k = h.1 28 k) ?_ ?_
  · exact key (p - ent) h ent X he rfl Fr.rf (fun _ _ => rfl) _ fun h3 Y3 hk F3 o3 => ⟨p - (ent + 1), rfl, rfl, ent + 1, Y3, by omega, rfl, F3, o3⟩
  · rintro m x0 x1 h' ⟨rfl, rfl, k, Y, hk, rfl, F, o⟩
    exact key (p - k) h' k Y hk rfl F o _ fun h3 Y3 hk3 F3 o3 => ⟨p - (k + 1), by omega, rfl, rfl, k + 1, Y3, by omega, rfl, F3, o3⟩
theorem S_sameLength {w : Wd} {h : Hp} {sp : List Nat} (f : Fin h) (R : RowV SH h 29 30 6048 sp false) (q p : Nat) (hq : q ≤ p) (hp : p ≤ sp.length) : C_X3_sameLength w SH 28 (nI q) (nI p) h (fun v h1 => h1 = h ∧ v = nI (sameN sp q p)) := by
  have k0 := fx f 28 0 29 (by decide +kernel)
  have hl := R.2.2.2.2.1
  refine K_X3_sameLength nlt_wf (fun m x0 x1 x2 x3 h' => x0 = 28 ∧ x1 = nI q ∧ x2 = nI p ∧ h' = h ∧ ∃ n, x3 = nI n ∧ p + n ≤ sp.length ∧ m = sp.length - p - n ∧ sameGo sp q p (sp.length - p - n) n = sameN sp q p) ?_ ?_
  · intro y1 e1
    exact ⟨_, rfl, rfl, rfl, rfl, 0, e1, by omega, rfl, rfl⟩
  · rintro m x0 x1 x2 x3 h' ⟨rfl, rfl, rfl, rfl, n, rfl, hn, rfl, et⟩
    refine ⟨rfl, by rw [k0]; rfl, _, by rw [k0]; exact S_length R, fun v7 h6 hp1 => ?_⟩
    obtain ⟨e1, e2⟩ := hp1
    obtain rfl := e1.symm
    subst e2
    rw [nI_add, nI_add, nI_leI (by omega) (by omega)]
    refine ⟨fun c7 => ⟨rfl, ?_⟩, fun c7 => ⟨by rw [k0]; rfl, _, by rw [k0]; exact atG R (q + n) (by omega), fun v14 h13 hp1 => ?_⟩⟩
    · rw [show sp.length - p - n = 0 by omega] at et
      rw [← et]; rfl
    obtain ⟨e1, e2⟩ := hp1
    obtain rfl := e1.symm
    subst e2
    refine ⟨by rw [k0]; rfl, _, by rw [k0]; exact atG R (p + n) (by omega), fun v20 h19 hp1 => ?_⟩
    obtain ⟨e1, e2⟩ := hp1
    obtain rfl := e1.symm
    subst e2
    have b1 := getD_lt R.bys (q + n)
    have b2 := getD_lt R.bys (p + n)
    rw [nI_eq (by omega) (by omega)]
    rw [show sp.length - p - n = (sp.length - p - (n + 1)) + 1 by omega, sameGo] at et
    refine ⟨fun c8 => ⟨rfl, ?_⟩, fun c8 y22 e22 => ?_⟩
    · rw [if_neg c8] at et; rw [← et]
    · rw [if_pos c8] at et
      exact ⟨sp.length - p - (n + 1), by omega, rfl, rfl, rfl, rfl, n + 1, by rw [e22, nI_1], by omega, rfl, et⟩
theorem S_runLength {w : Wd} {h : Hp} {sp : List Nat} (f : Fin h) (R : RowV SH h 29 30 6048 sp false) (p : Nat) (hp : p < sp.length) : C_X3_runLength w SH 28 (nI p) h (fun v h1 => h1 = h ∧ v = nI (runN sp p)) := by
  have k0 := fx f 28 0 29 (by decide +kernel)
  have hl := R.2.2.2.2.1
  refine K_X3_runLength nlt_wf (fun m x0 x1 x2 h' => x0 = 28 ∧ x1 = nI p ∧ h' = h ∧ ∃ n, x2 = nI n ∧ p + n ≤ sp.length ∧ m = sp.length - p - n ∧ runGo sp p (sp.length - p - n) n = runN sp p) ?_ ?_
  · intro y1 e1
    exact ⟨_, rfl, rfl, rfl, 0, e1, by omega, rfl, rfl⟩
  · rintro m x0 x1 x2 h' ⟨rfl, rfl, rfl, n, rfl, hn, rfl, et⟩
    refine ⟨rfl, by rw [k0]; rfl, _, by rw [k0]; exact S_length R, fun v7 h6 hp1 => ?_⟩
    obtain ⟨e1, e2⟩ := hp1
    obtain rfl := e1.symm
    subst e2
    rw [nI_add, nI_leI (by omega) (by omega)]
    refine ⟨fun c7 => ⟨rfl, ?_⟩, fun c7 => ⟨by rw [k0]; rfl, _, by rw [k0]; exact atG R (p + n) (by omega), fun v14 h13 hp1 => ?_⟩⟩
    · rw [show sp.length - p - n = 0 by omega] at et
      rw [← et]; rfl
    obtain ⟨e1, e2⟩ := hp1
    obtain rfl := e1.symm
    subst e2
    refine ⟨by rw [k0]; rfl, _, by rw [k0]; exact atG R p (by omega), fun v20 h19 hp1 => ?_⟩
    obtain ⟨e1, e2⟩ := hp1
    obtain rfl := e1.symm
    subst e2
    have b1 := getD_lt R.bys (p + n)
    have b2 := getD_lt R.bys p
    rw [nI_eq (by omega) (by omega)]
    rw [show sp.length - p - n = (sp.length - p - (n + 1)) + 1 by omega, runGo] at et
    refine ⟨fun c8 => ⟨rfl, ?_⟩, fun c8 y22 e22 => ?_⟩
    · rw [if_neg c8] at et; rw [← et]
    · rw [if_pos c8] at et
      exact ⟨sp.length - p - (n + 1), by omega, rfl, rfl, rfl, n + 1, by rw [e22, nI_1], by omega, rfl, et⟩
theorem S_search {w : Wd} {h : Hp} {sp : List Nat} {ent : Nat} (X : FnV h sp ent) (p : Nat) (hp : p < sp.length) (he : ent ≤ p) : C_X3_search w SH 28 (nI p) h (fun h1 => (∃ ent', ent' ≤ p ∧ FnV h1 sp ent') ∧ h1.1 28 4 = (if (findP sp p).2 = 0 then -1 else nI (findP sp p).1) ∧ h1.1 28 5 = nI (findP sp p).2 ∧ Fr [28, 31, 32] h h1) := by
  obtain ⟨f, R, i3, e4', hh, hl⟩ := id X
  have hlen := R.2.2.2.2.1
  have k0 := fx f 28 0 29 (by decide +kernel)
  refine K_X3_search nlt_wf (fun m x0 x1 x2 x3 x4 h' => x0 = 28 ∧ x1 = nI p ∧ p + 4 ≤ sp.length ∧ FnV h' sp p ∧ Fr [28, 31, 32] h h' ∧ ∃ c l b mo k, c ≤ p ∧ x2 = enc (prevP (hs sp) (hs sp p) c) ∧ x3 = nI l ∧ l ≤ 16 ∧ x4 = nI k ∧ k + c ≤ p ∧ m = c ∧ h'.1 28 4 = (if mo = 0 then -1 else nI b) ∧ h'.1 28 5 = nI mo ∧ mo ≤ sp.length ∧ scan sp p c l b mo = findP sp p) ?_ ?_
  · refine ⟨rfl, fun h2 e2 h4 e4 => ⟨fun c => absurd c (nI_pos (by omega)), fun _ => ⟨by rw [k0]; rfl, ?_⟩⟩⟩
    have F4 : Fr [28, 31, 32] h h4 := by rw [e4, e2]; exact (Fr.rf.put (by simp)).put (by simp)
    have X4 : FnV h4 sp ent := ⟨f.fr F4, R.fr F4 (by decide) (by decide), by rw [e4, wI_idx (by decide), e2, wI_idx (by decide)]; exact i3, e4', by rw [e4, wI_cell (by decide), e2, wI_cell (by decide)]; exact hh, by rw [e4, wI_cell (by decide), e2, wI_cell (by decide)]; exact hl⟩
    have b4 : h4.1 28 4 = -1 := by rw [e4, wI_idx (by decide), e2, wI_same]
    have b5 : h4.1 28 5 = nI 0 := by rw [e4, wI_same]; rfl
    refine ⟨_, by rw [k0]; exact S_length X4.2.1, fun v12 h11 hp1 => ?_⟩
    obtain ⟨e1, e5⟩ := hp1
    obtain rfl := e1.symm
    subst e5
    rw [show (4 : Int32) = nI 4 from rfl, nI_add, nI_leI (by omega) (by omega)]
    refine ⟨fun c7 => ⟨_, S_enterUpTo X4 p c7 he, fun h17 hp1 => ?_⟩, fun c7 => ⟨⟨ent, he, X4⟩, ?_, ?_, F4⟩⟩
    · obtain ⟨Y, F17, o17⟩ := hp1
      refine ⟨_, S_chainOf Y.1 Y.2.1 p c7, fun v22 h21 hp1 => ?_⟩
      obtain ⟨e1, e5⟩ := hp1
      obtain rfl := e1.symm
      subst e5
      have hc := hs_lt sp p
      rw [fx Y.1 28 1 31 (by decide +kernel), nI_clamp (by omega)]
      refine ⟨1024, rfl, vp_in_nI (by omega) (by decide), fun y26 e26 y28 e28 y30 e30 => ?_⟩
      refine ⟨p, rfl, rfl, c7, Y, F4.tr1 F17, p, 0, 0, 0, 0, by omega, by rw [e26]; exact Y.2.2.2.2.1 _ hc, e28, by omega, e30, by omega, rfl, by rw [o17 4 (by decide)]; exact b4, by rw [o17 5 (by decide)]; exact b5, by omega, ?_⟩
      unfold findP
      rw [if_pos c7]
    · have : findP sp p = (0, 0) := by unfold findP; rw [if_neg c7]
      rw [this]; exact b4
    · have : findP sp p = (0, 0) := by unfold findP; rw [if_neg c7]
      rw [this]; exact b5
  · rintro m x0 x1 x2 x3 x4 h' ⟨rfl, rfl, h4, Y, F, c, l, b, mo, k, hc, rfl, rfl, hl16, rfl, hkc, em, b4, b5, hmo, es⟩
    obtain rfl := em.symm
    have k2 := fx Y.1 28 2 32 (by decide +kernel)
    have stop : ∀ r : Nat × Nat, findP sp p = r → r = (b, mo) → (∃ ent', ent' ≤ p ∧ FnV h' sp ent') ∧ h'.1 28 4 = (if (findP sp p).2 = 0 then -1 else nI (findP sp p).1) ∧ h'.1 28 5 = nI (findP sp p).2 ∧ Fr [28, 31, 32] h h' := by
      intro r er e2
      rw [er, e2]
      exact ⟨⟨p, Nat.le_refl _, Y⟩, b4, b5, F⟩
    rw [V_X3_search_49, k2]
    refine ⟨rfl, 6048, rfl, ?_⟩
    rw [ofN, nI_leI (by omega) (by omega)]
    refine ⟨fun c7 => absurd c7 (by omega), fun c7 => ⟨fun c8 => ?_, fun c8 => ⟨fun ca => ?_, fun ca => ⟨fun c9 => ?_, fun c9 => ?_⟩⟩⟩⟩
    · cases hP : prevP (hs sp) (hs sp p) c with
      | some q =>
        rw [hP] at c8
        have := (prevP_some hP).1
        exact absurd c8 (nI_pos (by omega))
      | none =>
        refine stop (scan sp p c l b mo) es.symm ?_
        by_cases h16 : l < 16
        · rw [scan_skip (c := 0) (Nat.zero_le _) (fun j _ hj hn => prevP_none hP j hj (hs_same hn)) h16]
          rfl
        · cases c with
          | zero => rfl
          | succ c => rw [scan, if_pos (by omega)]
    · exfalso
      cases hP : prevP (hs sp) (hs sp p) c with
      | some q =>
        rw [hP] at ca
        have := (prevP_some hP).1
        exact absurd ((nI_leI (a := 6048) (b := q) (by omega) (by omega)).mp ca) (by omega)
      | none =>
        rw [hP] at c8
        exact absurd (show (-1 : Int32) < 0 by decide) c8
    · rw [show (16 : Int32) = nI 16 from rfl, nI_leI (by omega) (by omega)] at c9
      refine stop (scan sp p c l b mo) es.symm ?_
      cases c with
      | zero => rfl
      | succ c => rw [scan, if_pos (by omega)]
    · rw [show (16 : Int32) = nI 16 from rfl, nI_leI (by omega) (by omega)] at c9
      cases hP : prevP (hs sp) (hs sp p) c with
      | none =>
        rw [hP] at c8
        exact absurd (show (-1 : Int32) < 0 by decide) c8
      | some q =>
      obtain ⟨q1, q2, q3⟩ := prevP_some hP
      have es2 : scan sp p (q + 1) l b mo = findP sp p := by
        rw [← es]
        exact (scan_skip (by omega) (fun j h1 h2 hn => q3 j (by omega) h2 (hs_same hn)) (by omega)).symm
      rw [scan, if_neg (by omega)] at es2
      have eq : enc (some q) = nI q := rfl
      rw [eq]
      refine ⟨_, S_sameLength Y.1 Y.2.1 q p (by omega) (by omega), fun v11 h10 hp1 y12 e12 => ?_⟩
      obtain ⟨e1, e2⟩ := hp1
      obtain rfl := e1.symm
      subst e2; subst e12
      have hn := sameN_le sp q p
      have link : h'.1 32 q = enc (prevP (hs sp) (hs sp p) q) := by rw [Y.2.2.2.2.2 q (by omega), q2]
      have fin : ∀ (h6 : Hp) (l' b' mo' : Nat), FnV h6 sp p → Fr [28, 31, 32] h h6 → l' ≤ 16 → h6.1 28 4 = (if mo' = 0 then -1 else nI b') → h6.1 28 5 = nI mo' → mo' ≤ sp.length → scan sp p q l' b' mo' = findP sp p → h6.1 32 q = enc (prevP (hs sp) (hs sp p) q) → V_X3_search_121 w SH 28 (nI p) (nI q) (nI l') (nI k) h6 (fun x0 x1 x2 x3 x4 h_1 => ∃ a, a < c ∧ x0 = 28 ∧ x1 = nI p ∧ p + 4 ≤ sp.length ∧ FnV h_1 sp p ∧ Fr [28, 31, 32] h h_1 ∧ ∃ c l b mo k, c ≤ p ∧ x2 = enc (prevP (hs sp) (hs sp p) c) ∧ x3 = nI l ∧ l ≤ 16 ∧ x4 = nI k ∧ k + c ≤ p ∧ a = c ∧ h_1.1 28 4 = (if mo = 0 then -1 else nI b) ∧ h_1.1 28 5 = nI mo ∧ mo ≤ sp.length ∧ scan sp p c l b mo = findP sp p) (fun h1 => (∃ ent', ent' ≤ p ∧ FnV h1 sp ent') ∧ h1.1 28 4 = (if (findP sp p).2 = 0 then -1 else nI (findP sp p).1) ∧ h1.1 28 5 = nI (findP sp p).2 ∧ Fr [28, 31, 32] h h1) := by
        intro h6 l' b' mo' Y6 F6 hl' c4 c5 hmo' es' lk
        rw [V_X3_search_121, fx Y6.1 28 2 32 (by decide +kernel), nI_clamp (by omega)]
        refine ⟨rfl, 6048, rfl, vp_in_nI (by omega) (by decide), fun y5 e5 y7 e7 => ?_⟩
        exact ⟨q, by omega, rfl, rfl, h4, Y6, F6, q, l', b', mo', k + 1, by omega, by rw [e5]; exact lk, rfl, hl', by rw [e7, nI_1], by omega, rfl, c4, c5, hmo', es'⟩
      rw [show (4 : Int32) = nI 4 from rfl, nI_ltI (by omega) (by omega)]
      refine ⟨fun c10 => ?_, fun c10 y15 e15 => ?_⟩
      · rw [if_neg (by omega)] at es2
        refine ⟨fun _ => fin h' l b mo Y F hl16 b4 b5 hmo es2 link, fun c11 => absurd ((nI_ltI (a := sameN sp q p) (b := 4) (by omega) (by omega)).mpr c10) c11⟩
      · rw [nI_1] at e15
        subst e15
        rw [if_pos (by omega)] at es2
        refine ⟨fun c11 => absurd ((nI_ltI (a := sameN sp q p) (b := 4) (by omega) (by omega)).mp c11) c10, fun _ => ⟨rfl, ?_⟩⟩
        rw [b5, nI_leI (by omega) (by omega)]
        refine ⟨fun c11 => ?_, fun c11 h4' e4 h6 e6 => ?_⟩
        · rw [if_neg (by omega), if_neg (by omega)] at es2
          exact fin h' (l + 1) b mo Y F (by omega) b4 b5 hmo es2 link
        · rw [if_pos (by omega), if_pos (by omega)] at es2
          have F6 : Fr [28] h' h6 := by rw [e6, e4]; exact (Fr.rf.put (by simp)).put (by simp)
          obtain ⟨y1, y2, y3, y4, y5, y6⟩ := Y
          refine fin h6 (l + 1) q (sameN sp q p) ⟨y1.fr F6, y2.fr F6 (by decide) (by decide), by rw [e6, wI_idx (by decide), e4, wI_idx (by decide)]; exact y3, y4, by rw [F6.2.2 31 (by decide)]; exact y5, by rw [F6.2.2 32 (by decide)]; exact y6⟩ (F.tr1 (F6.mono (by simp))) (by omega) ?_ (by rw [e6, wI_idx (by decide), e4, wI_same]) (by omega) es2 (by rw [F6.2.2 32 (by decide)]; exact link)
          rw [e6, wI_same, if_neg (by omega)]
