/-! the reference makes (my own) -/
abbrev MkK : List Nat := [43, 45, 48, 49, 50, 51, 59, 60]
abbrev MkC : List Nat := [115, 116, 117, 118, 119, 120, 121, 122, 123, 124, 125]
theorem MS.mk {h h1 : Hp} {s : St} (X : MS h s) (F : Fm MkK MkC [] h h1) : MS h1 s := by
  obtain ⟨f, ⟨⟨a1, a2, a3⟩, ⟨a4, a5, a6⟩, ⟨a7, a8, a9⟩⟩, o⟩ := X
  refine ⟨F.fin f, ⟨⟨by rw [F.2.2.2 1 (by simp)]; exact a1, F.by_ a2 (by decide) (by simp), a3⟩, ⟨by rw [F.2.2.2 3 (by simp)]; exact a4, F.by_ a5 (by decide) (by simp), a6⟩, ⟨by rw [F.2.2.2 5 (by simp)]; exact a7, F.by_ a8 (by decide) (by simp), a9⟩⟩, o.cong (fun c h1 h2 => ⟨F.2.2.1 c (by omega) (by simp; omega), F.2.1 c (by simp)⟩) (F.2.2.2 8 (by simp)) (F.2.2.2 31 (by simp))⟩
theorem Fm.agM {K S : List Nat} {h h1 : Hp} (F : Fm K S [] h h1) (hS : ∀ c, c ∈ S → 97 ≤ c ∧ c ≤ 125) : Ag MCells h h1 := fun c hc => by
  have h97 : c ≠ 97 := fun e => hc (e ▸ mem_M (by omega) (by omega))
  exact ⟨F.2.2.1 c h97 fun q => hc (mem_M (hS c q).1 (hS c q).2), by rw [F.1], F.2.1 c (by simp)⟩
def MEnd (h : Hp) (q : Int32 × St) (r : Int32) (h1 : Hp) : Prop := r = q.1 ∧ MS h1 q.2 ∧ Ag MCells h h1
def mkI116 (s : St) (n : Nat) (tf : List Nat) (h : Hp) (m x0 : Nat) (x1 x2 x3 : Int32) (h' : Hp) : Prop := x0 = 97 ∧ x1 = nI n ∧ x2 = 1 ∧ n / 2 % 2 = 1 ∧ tabFile s.2.2.2.1 = some tf ∧ tf.length ≤ 2048 ∧ ∃ j, x3 = nI j ∧ j ≤ tf.length ∧ m = 100000 + (3000 - j) ∧ h'.1 97 45 = nI tf.length ∧ FlV h' tf ∧ ByV h' 116 (tf.take j) ∧ h'.1 97 60 = 0 ∧ Fm MkK MkC [] h h'
def mkI197 (s : St) (n : Nat) (tf : List Nat) (h : Hp) (m x0 : Nat) (x1 x2 x3 : Int32) (h' : Hp) : Prop := x0 = 97 ∧ x1 = nI n ∧ x2 = 1 ∧ n / 2 % 2 = 1 ∧ tabFile s.2.2.2.1 = some tf ∧ tf.length ≤ 2048 ∧ ∃ j, x3 = nI j ∧ j ≤ tf.length ∧ m = 50000 + (3000 - j) ∧ h'.1 97 45 = nI tf.length ∧ FlV h' (headB 2 ++ bigB (2 + tf.length) ++ [s.2.2.2.1.2.1, s.2.2.2.1.2.2] ++ tf.take j) ∧ ByV h' 116 tf ∧ h'.1 97 60 = 0 ∧ Fm MkK MkC [] h h'
def mkI276 (s : St) (n : Nat) (h : Hp) (m x0 : Nat) (x3 : Int32) (h' : Hp) : Prop := x0 = 97 ∧ ∃ l j, fileM s.1 s.2.2.1 s.2.2.2.1 n = some l ∧ l.length ≤ 8000 ∧ x3 = nI j ∧ j ≤ l.length ∧ m = 9000 - j ∧ FlV h' l ∧ ByV h' 99 (l.take j) ∧ Fm MkK (99 :: MkC) [] h h'
theorem M_mk247 {w : Wd} {h h' : Hp} {s : St} {n t : Nat} {T : Tb} {acc : List Nat} {L116 L197 : Nat → Int32 → Int32 → Int32 → Hp → Prop} {L276 : Nat → Int32 → Hp → Prop} (X : MS h s) (F : Fm MkK MkC [] h h') (A : FlV h' acc) (ha : acc.length ≤ 4000) (h60 : h'.1 97 60 = 0) (hr : s.1.length ≤ 6000) (hn : n < 8) (ht : t < 4) (V : EntV h' t T) (ef : fileM s.1 s.2.2.1 s.2.2.2.1 n = winsM T s.1 s.2.2.1 (decide (n % 2 = 1)) (decide (4 ≤ n)) 4 0 acc) (hL : ∀ h5, mkI276 s n h 9000 97 0 h5 → L276 97 0 h5) : V_X12_make_247 w SH 97 (nI n) (nI t) (h'.1 97 5) (h'.2.1 97 4) (h'.1 97 1) (h'.2.1 97 0) 97 h' L116 L197 L276 (MEnd h (MkE s (fileM s.1 s.2.2.1 s.2.2.2.1 n))) := by
  have X' := X.mk F
  obtain ⟨f', ⟨⟨a1, a2, a3⟩, ⟨a4, a5, a6⟩, ⟨a7, a8, a9⟩⟩, -⟩ := id X'
  have k4 := fx f' 97 4 100 (by decide +kernel)
  have k0 := fx f' 97 0 98 (by decide +kernel)
  have H : wnH (T, s.1, s.2.2.1, decide (n % 2 = 1), decide (4 ≤ n), 98, 100, t, n) 8000 4000 h' := ⟨f', V, ht, rfl, a3, by decide, a2, by show (98 : Nat) ≠ 97; decide, by show (98 : Nat) ∉ WnC; decide, rfl, a9, by decide, a8, by show (100 : Nat) ≠ 97; decide, by show (100 : Nat) ∉ WnC; decide, hr, a9, hn, rfl, rfl⟩
  refine ⟨rfl, _, by rw [k4, k0, a1, a7]; exact M_windows H A ha h60, fun h5 hp => ?_⟩
  obtain ⟨hp, F5⟩ := hp
  have G5 : Fm MkK MkC [] h h5 := F.tr (F5.mono (by simp) (by simp) (by simp))
  have X5 := X.mk G5
  have ew : winsM (T, s.1, s.2.2.1, decide (n % 2 = 1), decide (4 ≤ n), 98, 100, t, n).1 s.1 s.2.2.1 (decide (n % 2 = 1)) (decide (4 ≤ n)) 4 0 acc = fileM s.1 s.2.2.1 s.2.2.2.1 n := ef.symm
  have hp : match fileM s.1 s.2.2.1 s.2.2.2.1 n with
    | none => h5.1 97 60 = 1
    | some l => h5.1 97 60 = 0 ∧ FlV h5 l ∧ l.length ≤ 33000 := by rw [← ew]; exact hp
  have ag5 : Ag MCells h h5 := G5.agM (by simp)
  refine ⟨rfl, ?_⟩
  cases hf : fileM s.1 s.2.2.1 s.2.2.2.1 n with
  | none =>
    rw [hf] at hp
    have hp : h5.1 97 60 = 1 := hp
    exact ⟨fun c => absurd (hp.symm.trans c) (by decide), fun _ => ⟨rfl, X5, ag5⟩⟩
  | some l =>
    rw [hf] at hp
    obtain ⟨z, Y, hl⟩ := hp
    refine ⟨fun _ => ?_, fun c => absurd z c⟩
    rw [Y.1, show (8000 : Int32) = nI 8000 from rfl, nI_leI (by omega) (by decide)]
    refine ⟨fun c y9 e9 => ?_, fun c => ?_⟩
    · subst e9
      exact hL h5 ⟨rfl, l, 0, hf, c, rfl, by omega, rfl, Y, fun j hj => absurd hj (by simp), G5.mono (by simp) (by simp) (by simp)⟩
    rw [MkE_lo (by omega)]
    exact ⟨rfl, X5, ag5⟩
theorem MS.e0 {h : Hp} {s : St} (X : MS h s) : EntV h 0 (UBy, 4, 3) := X.2.2.1
theorem MS.e2 {h : Hp} {s : St} (X : MS h s) : EntV h 2 s.2.2.2.1 := X.2.2.2.1
theorem M_mk221 {w : Wd} {h h' : Hp} {s : St} {n : Nat} {tf : List Nat} {L116 L197 : Nat → Int32 → Int32 → Int32 → Hp → Prop} {L276 : Nat → Int32 → Hp → Prop} (X : MS h s) (F : Fm MkK MkC [] h h') (A : FlV h' (headB 2 ++ bigB (2 + tf.length) ++ [s.2.2.2.1.2.1, s.2.2.2.1.2.2] ++ tf)) (etf : tabFile s.2.2.2.1 = some tf) (htf : tf.length ≤ 2048) (h60 : h'.1 97 60 = 0) (hr : s.1.length ≤ 6000) (hn : n < 8) (hnm : n / 2 % 2 = 1) (hL : ∀ h5, mkI276 s n h 9000 97 0 h5 → L276 97 0 h5) : V_X12_make_221 w SH 97 (nI n) 1 h' L116 L197 L276 (MEnd h (MkE s (fileM s.1 s.2.2.1 s.2.2.2.1 n))) := by
  have b := bigLen_b (2 + tf.length)
  refine ⟨rfl, fun c => absurd c (by decide), fun _ => M_mk247 (t := 2) X F A ?_ h60 hr hn (by decide) (X.mk F).e2 ?_ hL⟩
  · simp only [List.length_append, bigB_len, headB, List.length_cons, List.length_nil]; omega
  · unfold fileM; rw [if_pos hnm, etf]
theorem M_mk142 {w : Wd} {h h' : Hp} {s : St} {n : Nat} {tf : List Nat} {y1 : Int32} {L116 L197 : Nat → Int32 → Int32 → Int32 → Hp → Prop} {L276 : Nat → Int32 → Hp → Prop} (X : MS h s) (F : Fm MkK MkC [] h h') (h60 : h'.1 97 60 = 0) (hr : s.1.length ≤ 6000) (hn : n < 8) (hy : y1 = 0 ∧ ¬ n / 2 % 2 = 1 ∨ y1 = 1 ∧ n / 2 % 2 = 1 ∧ tabFile s.2.2.2.1 = some tf ∧ tf.length ≤ 2048 ∧ h'.1 97 45 = nI tf.length ∧ ByV h' 116 tf) (hL : ∀ h5, mkI276 s n h 9000 97 0 h5 → L276 97 0 h5) (hL2 : ∀ h5, mkI197 s n tf h 53000 97 (nI n) 1 0 h5 → L197 97 (nI n) 1 0 h5) : V_X12_make_142 w SH 97 (nI n) y1 h' L116 L197 L276 (MEnd h (MkE s (fileM s.1 s.2.2.1 s.2.2.2.1 n))) := by
  refine ⟨rfl, fun h2 e2 => ?_⟩
  have F2 : Fm [43] [] [] h' h2 := by rw [e2]; exact Fm.rf.put (by simp)
  have G2 : Fm MkK MkC [] h h2 := F.tr (F2.mono (by simp) (by simp) (by simp))
  have f2 := G2.fin X.1
  have A2 : FlV h2 [] := ⟨by rw [e2, wI_same]; rfl, fun j hj => absurd hj (Nat.not_lt_zero _)⟩
  have z2 : h2.1 97 60 = 0 := by rw [F2.2.2.2 60 (by simp)]; exact h60
  rcases hy with ⟨rfl, hnm⟩ | ⟨rfl, hnm, etf, htf, e45, B116⟩
  · refine ⟨fun _ => ⟨rfl, _, M_sayHead f2 A2 0 (by decide), fun h5 hp => ⟨fun _ => ?_, fun c => absurd rfl c⟩⟩, fun c => absurd rfl c⟩
    obtain ⟨A5, F5⟩ := hp
    have G5 : Fm MkK MkC [] h h5 := G2.tr (F5.mono (by simp) (by simp) (by simp))
    refine ⟨rfl, fun _ => M_mk247 (t := 0) X G5 A5 (by decide) (by rw [F5.2.2.2 60 (by simp)]; exact z2) hr hn (by decide) (X.mk G5).e0 ?_ hL, fun c => absurd rfl c⟩
    unfold fileM; rw [if_neg hnm]
  · refine ⟨fun c => absurd c (by decide), fun _ => ⟨rfl, _, M_sayHead f2 A2 2 (by decide), fun h5 hp => ⟨fun c => absurd c (by decide), fun _ => ?_⟩⟩⟩
    obtain ⟨A5, F5⟩ := hp
    have F5' : Fm [43] [115] [] h' h5 := (F2.mono (by simp) (by simp) (by simp)).tr F5
    have G5 : Fm MkK MkC [] h h5 := G2.tr (F5.mono (by simp) (by simp) (by simp))
    have f5 := G5.fin X.1
    have e45' : h5.1 97 45 = nI tf.length := by rw [F5'.2.2.2 45 (by simp)]; exact e45
    have hb := bigLen_b (2 + tf.length)
    refine ⟨rfl, _, by rw [e45', show (2 : Int32) = nI 2 from rfl, nI_add]; exact M_sayBig f5 A5 (2 + tf.length) (by omega) (by show 5 + 5 ≤ 40000; decide), fun h11 hp => ?_⟩
    obtain ⟨A11, F11⟩ := hp
    have F11' := F5'.tr F11
    have G11 : Fm MkK MkC [] h h11 := G5.tr (F11.mono (by simp) (by simp) (by simp))
    have f11 := G11.fin X.1
    have X11 := X.mk G11
    obtain ⟨-, g1, g2, g3, g4, -⟩ := X11.e2
    have k10 := fx f11 97 10 102 (by decide +kernel)
    have l11 : (headB 2 ++ bigB (2 + tf.length)).length ≤ 10 := by rw [List.length_append, bigB_len]; show 5 + _ ≤ _; omega
    refine ⟨4, by rw [k10]; rfl, vp_in_nI (n := 2) (by decide) (by decide), _, by rw [k10, show ((2 : Int32).toNatClampNeg) = 2 from by decide, g1]; exact M_say f11 A11 (by omega) _, fun h18 hp => ?_⟩
    obtain ⟨A18, F18⟩ := hp
    rw [un_nI (by omega)] at A18
    have F18' := F11'.tr F18
    have G18 : Fm MkK MkC [] h h18 := G11.tr (F18.mono (by simp) (by simp) (by simp))
    have f18 := G18.fin X.1
    have X18 := X.mk G18
    obtain ⟨-, -, g2, -⟩ := X18.e2
    have k11 := fx f18 97 11 103 (by decide +kernel)
    refine ⟨4, by rw [k11]; rfl, vp_in_nI (n := 2) (by decide) (by decide), _, by rw [k11, show ((2 : Int32).toNatClampNeg) = 2 from by decide, g2]; exact M_say f18 A18 (by rw [List.length_append, List.length_singleton]; omega) _, fun h25 hp y26 e26 => ?_⟩
    obtain ⟨A25, F25⟩ := hp
    rw [un_nI (by omega)] at A25
    have F25' := F18'.tr F25
    subst e26
    refine hL2 h25 ⟨rfl, rfl, rfl, hnm, etf, htf, 0, rfl, by omega, rfl, by rw [F25'.2.2.2 45 (by simp)]; exact e45, ?_, F25'.by_ B116 (by decide) (by simp), by rw [F25'.2.2.2 60 (by simp)]; exact h60, F.tr (F25'.mono (by simp) (by simp) (by simp))⟩
    rw [List.take_zero, List.append_nil]
    rw [List.append_assoc (headB 2 ++ bigB (2 + tf.length))] at A25
    exact A25
theorem M_make {w : Wd} {h : Hp} {s : St} (q : Int32) (X : MS h s) : C_X12_make w SH 97 q h (MEnd h (makeF s q)) := by
  obtain ⟨row, came, old, g, o⟩ := s
  obtain ⟨f, ⟨⟨a1, a2, a3⟩, ⟨a4, a5, a6⟩, ⟨a7, a8, a9⟩⟩, mo⟩ := id X
  obtain ⟨E0, E2, -, B104, -⟩ := id mo
  by_cases c1 : q < 0
  · refine K_X12_make nlt_wf (fun m _ _ _ _ _ => False) (fun m _ _ _ _ _ => False) (fun m _ _ _ => False) ⟨fun _ => ?_, fun c => absurd c1 c⟩ (fun _ _ _ _ _ _ q => q.elim) (fun _ _ _ _ _ _ q => q.elim) (fun _ _ _ _ q => q.elim)
    unfold makeF; rw [if_pos (Or.inl c1)]; exact ⟨rfl, X, Ag.rf⟩
  by_cases c2 : q ≤ 7
  rotate_left
  · refine K_X12_make nlt_wf (fun m _ _ _ _ _ => False) (fun m _ _ _ _ _ => False) (fun m _ _ _ => False) ⟨fun c => absurd c c1, fun _ => ⟨fun c => absurd c c2, fun _ => ?_⟩⟩ (fun _ _ _ _ _ _ q => q.elim) (fun _ _ _ _ _ _ q => q.elim) (fun _ _ _ _ q => q.elim)
    unfold makeF; rw [if_pos (Or.inr (Int32.not_le.mp c2))]; exact ⟨rfl, X, Ag.rf⟩
  obtain ⟨n, hn, rfl⟩ := nI_of3 (x := q) (M := 8) (n := 8) rfl (by decide) c1 (by
    intro h8
    rw [Int32.le_iff_toInt_le] at h8 c2
    have a1 : (8 : Int32).toInt = 8 := by decide
    have a2 : (7 : Int32).toInt = 7 := by decide
    omega)
  have hq : ¬ (nI n < 0 ∨ 7 < nI n) := fun q => q.elim c1 fun q => absurd c2 (Int32.not_le.mpr q)
  have hN : (nI n).toNatClampNeg = n := nI_clamp (by omega)
  have eM : makeF (row, came, old, g, o) (nI n) = if n / 2 % 2 = 1 ∧ goodB g = false then (-3, (row, came, old, g, o)) else if 6000 < row.length then (-4, (row, came, old, g, o)) else MkE (row, came, old, g, o) (fileM row old g n) := by
    unfold makeF
    rw [if_neg hq, hN]
    rfl
  have z2 : ∀ b : Nat, b < 8 → (nI b &&& (2 : Int32) ≤ 0 ↔ ¬ b / 2 % 2 = 1) := by decide
  have g1536 : g.1.length = 1536 := E2.2.2.2.2.2.1
  obtain ⟨tf, etf, htf⟩ := tabFile_some g1536
  have gb1 : g.2.1 ≤ 32 := E2.2.2.2.1
  have gb2 : g.2.2 ≤ 16 := E2.2.2.2.2.1
  by_cases hsm : n / 2 % 2 = 1 ∧ goodB g = false
  · -- the given table is not good
    rw [eM, if_pos hsm]
    refine K_X12_make nlt_wf (fun m _ _ _ _ _ => False) (fun m _ _ _ _ _ => False) (fun m _ _ _ => False) ⟨fun c => absurd c c1, fun _ => ⟨fun _ => ⟨fun c => absurd hsm.1 ((z2 n hn).mp c), fun _ y1 e1 => ⟨fun c => absurd (e1.symm.trans c) (by decide), fun _ => ⟨rfl, _, M_isGood f (by decide) E2, fun v9 h8 hp => ?_⟩⟩⟩, fun c => absurd c2 c⟩⟩ (fun _ _ _ _ _ _ q => q.elim) (fun _ _ _ _ _ _ q => q.elim) (fun _ _ _ _ q => q.elim)
    obtain ⟨e2, ev, ig⟩ := hp
    obtain rfl := e2.symm
    refine ⟨fun c => ?_, fun _ => ⟨rfl, X, Ag.rf⟩⟩
    have := (goodB_iff g).mpr (ig.mp (ev.resolve_left c))
    rw [this] at hsm; cases hsm.2
  by_cases hr : 6000 < row.length
  · -- the row is too long
    rw [eM, if_neg hsm, if_pos hr]
    have v40 : ∀ y1 : Int32, V_X12_make_40 w SH 97 (nI n) y1 h (fun x0 x1 x2 x3 h => ∃ a : Nat, False) (fun x0 x1 x2 x3 h => ∃ a : Nat, False) (fun x0 x3 h => ∃ a : Nat, False) (MEnd h (-4, (row, came, old, g, o))) := by
      intro y1
      refine ⟨rfl, fun c => ?_, fun _ => ⟨rfl, X, Ag.rf⟩⟩
      rw [a1, show (6000 : Int32) = nI 6000 from rfl, nI_leI (by show row.length < _; have : row.length ≤ 8000 := a3; omega) (by decide)] at c
      have c : row.length ≤ 6000 := c
      omega
    refine K_X12_make nlt_wf (fun m _ _ _ _ _ => False) (fun m _ _ _ _ _ => False) (fun m _ _ _ => False) ⟨fun c => absurd c c1, fun _ => ⟨fun _ => ⟨fun c y1 e1 => ⟨fun _ => v40 y1, fun c3 => absurd e1 c3⟩, fun c y1 e1 => ⟨fun _ => v40 y1, fun _ => ⟨rfl, _, M_isGood f (by decide) E2, fun v9 h8 hp => ?_⟩⟩⟩, fun c => absurd c2 c⟩⟩ (fun _ _ _ _ _ _ q => q.elim) (fun _ _ _ _ _ _ q => q.elim) (fun _ _ _ _ q => q.elim)
    obtain ⟨e2, ev, ig⟩ := hp
    obtain rfl := e2.symm
    refine ⟨fun c => v40 y1, fun c3 => ?_⟩
    have hnm : n / 2 % 2 = 1 := Decidable.not_not.mp fun z => c ((z2 n hn).mpr z)
    have : goodB g = false := by
      cases hg : goodB g with
      | false => rfl
      | true => rw [ig.mpr ((goodB_iff g).mp hg)] at c3; exact absurd c3 (by decide)
    exact absurd ⟨hnm, this⟩ hsm
  rw [eM, if_neg hsm, if_neg hr]
  have hr' : row.length ≤ 6000 := by omega
  refine K_X12_make nlt_wf (mkI116 (row, came, old, g, o) n tf h) (mkI197 (row, came, old, g, o) n tf h) (mkI276 (row, came, old, g, o) n h) ?_ ?_ ?_ ?_
  · have v40 : ∀ y1 : Int32, (y1 = 0 ∧ ¬ n / 2 % 2 = 1 ∨ y1 = 1 ∧ n / 2 % 2 = 1) → V_X12_make_40 w SH 97 (nI n) y1 h (fun x0 x1 x2 x3 h1 => ∃ b, mkI116 (row, came, old, g, o) n tf h b x0 x1 x2 x3 h1) (fun x0 x1 x2 x3 h1 => ∃ b, mkI197 (row, came, old, g, o) n tf h b x0 x1 x2 x3 h1) (fun x0 x3 h1 => ∃ b, mkI276 (row, came, old, g, o) n h b x0 x3 h1) (MEnd h (MkE (row, came, old, g, o) (fileM row old g n))) := by
      intro y1 hy
      have a1 : h.1 97 1 = nI row.length := a1
      refine ⟨rfl, fun _ h3 e3 h5 e5 => ?_, fun c => ?_⟩
      rotate_left
      · rw [a1, show (6000 : Int32) = nI 6000 from rfl, nI_leI (by omega) (by decide)] at c; omega
      have F5 : Fm [45, 60] [] [] h h5 := by rw [e5, e3]; exact (Fm.rf.put (by simp)).put (by simp)
      have z5 : h5.1 97 60 = 0 := by rw [e5, wI_idx (by decide), e3, wI_same]
      have f5 := F5.fin f
      refine ⟨fun c => ?_, fun c => ?_⟩
      · have hy := hy.resolve_right fun q => by rw [q.1] at c; exact absurd c (by decide)
        exact M_mk142 (tf := tf) X (F5.mono (by simp) (by simp) (by simp)) z5 hr' hn (Or.inl hy) (fun h5 e => ⟨_, e⟩) (fun h5 e => ⟨_, e⟩)
      · obtain ⟨rfl, hnm⟩ := hy.resolve_left fun q => c q.1
        have k46 := fx f 97 46 117 (by decide +kernel)
        have E25 : EntV h5 2 g := E2.fm F5 (by simp) (by simp) (by simp)
        refine ⟨_, by rw [k46]; exact S_asBytes (N := 1536) (fx f5 97 9 101 (by decide +kernel)) (t := 2) (by decide) E25 rfl (by decide) (by decide) (by decide), fun h11 hp h12 e12 => ?_⟩
        obtain ⟨B11, Fr11⟩ := hp
        have F11 : Fm [] [117] [] h5 h11 := ⟨Fr11.1, fun c _ => by rw [Fr11.2.1], fun c _ hc => Fr11.2.2 c hc, fun k _ => by rw [Fr11.2.2 97 (by decide)]⟩
        have F12 : Fm [43, 45, 60] [117] [] h h12 := by
          rw [e12]
          exact ((F5.mono (by simp) (by simp) (by simp)).tr (F11.mono (by simp) (by simp) (by simp))).put (by simp)
        have A12 : FlV h12 [] := ⟨by rw [e12, wI_same]; rfl, fun j hj => absurd hj (Nat.not_lt_zero _)⟩
        have f12 := F12.fin f
        have B12 : ByV h12 117 g.1 := B11.of (by rw [e12, wI_cell (by decide)])
        have z12 : h12.1 97 60 = 0 := by rw [e12, wI_idx (by decide), F11.2.2.2 60 (by simp)]; exact z5
        refine ⟨_, M_sayHead f12 A12 0 (by decide), fun h17 hp => ?_⟩
        obtain ⟨A17, F17⟩ := hp
        have G17 : Fm [43, 45, 60] [115, 117] [] h h17 := (F12.mono (by simp) (by simp) (by simp)).tr (F17.mono (by simp) (by simp) (by simp))
        have f17 := G17.fin f
        have X17 := X.mk (G17.mono (by simp) (by simp) (by simp))
        have k46 := fx f17 97 46 117 (by decide +kernel)
        have k12 := fx f17 97 12 104 (by decide +kernel)
        have B17 : ByV h17 117 g.1 := F17.by_ B12 (by decide) (by simp)
        have H : wnH ((UBy, 4, 3), g.1, UBy, decide (0 % 2 = 1), decide (4 ≤ 0), 117, 104, 0, 0) 1536 1536 h17 := ⟨f17, X17.e0, by show (0 : Nat) < 4; decide, rfl, by show g.1.length ≤ 1536; omega, by decide, B17, by show (117 : Nat) ≠ 97; decide, by show (117 : Nat) ∉ WnC; decide, rfl, by show UBy.length ≤ 1536; rw [UBy_len]; decide, by decide, (show ByV h17 104 UBy from G17.by_ B104 (by decide) (by simp)), by show (104 : Nat) ≠ 97; decide, by show (104 : Nat) ∉ WnC; decide, by show g.1.length ≤ 6000; omega, by show UBy.length ≤ 4000; rw [UBy_len]; decide, by show (0 : Nat) < 8; decide, rfl, rfl⟩
        have wn := M_windows (w := w) H A17 (by decide) (by rw [F17.2.2.2 60 (by simp)]; exact z12)
        have eg : nI g.1.length = (1536 : Int32) := by rw [g1536]; rfl
        have eu : nI UBy.length = (1536 : Int32) := by rw [UBy_len]; rfl
        have wn : C_X12_windows w SH 97 117 (nI g.1.length) 104 (nI UBy.length) 0 0 h17 (wnZ (tabFile g) h17) := wn
        rw [eg, eu, etf] at wn
        refine ⟨_, by rw [k46, k12]; exact wn, fun h21 hp h22 e22 y24 e24 => ?_⟩
        obtain ⟨⟨z21, A21, -⟩, F21⟩ := hp
        have G22 : Fm MkK MkC [] h h22 := by
          rw [e22]
          exact (((G17.mono (by simp) (by simp) (by simp)).tr (F21.mono (by simp) (by simp) (by simp))) : Fm MkK MkC [] h h21).put (by simp)
        refine ⟨_, rfl, rfl, rfl, hnm, etf, htf, 0, e24, by omega, rfl, ?_, ⟨?_, A21.2.of (by rw [e22, wI_cell (by decide)])⟩, fun j hj => absurd hj (by simp), ?_, G22⟩
        · rw [e22, wI_same, A21.1]
        · rw [e22, wI_idx (by decide), A21.1]
        · rw [e22, wI_idx (by decide), z21]
    refine ⟨fun c => absurd c c1, fun _ => ⟨fun _ => ⟨fun c y1 e1 => ⟨fun _ => v40 y1 (Or.inl ⟨e1, (z2 n hn).mp c⟩), fun c3 => absurd e1 c3⟩, fun c y1 e1 => ⟨fun c3 => absurd (e1.symm.trans c3) (by decide), fun _ => ⟨rfl, _, M_isGood f (by decide) E2, fun v9 h8 hp => ?_⟩⟩⟩, fun c => absurd c2 c⟩⟩
    obtain ⟨e2, ev, ig⟩ := hp
    obtain rfl := e2.symm
    have hnm : n / 2 % 2 = 1 := Decidable.not_not.mp fun z => c ((z2 n hn).mpr z)
    refine ⟨fun c3 => v40 y1 (Or.inr ⟨e1, hnm⟩), fun c3 => ?_⟩
    have : goodB g = false := by
      cases hg : goodB g with
      | false => rfl
      | true => rw [ig.mpr ((goodB_iff g).mp hg)] at c3; exact absurd c3 (by decide)
    exact absurd ⟨hnm, this⟩ hsm
  · rintro m x0 x1 x2 x3 h' ⟨rfl, rfl, rfl, hnm, -, -, j, rfl, hj, rfl, e45, A, B, z60, F⟩
    have f' := F.fin f
    have k42 := fx f' 97 42 115 (by decide +kernel)
    have k44 := fx f' 97 44 116 (by decide +kernel)
    rw [V_X12_make_116, e45, nI_leI (by omega) (by omega)]
    refine ⟨rfl, fun c => ?_, fun c => ⟨40000, by rw [k42]; rfl, vp_in_nI (by omega) (by decide), 40000, by rw [k44]; rfl, vp_in_nI (by omega) (by decide), fun h9 e9 y11 e11 => ?_⟩⟩
    · rw [List.take_of_length_le (by omega)] at B
      exact M_mk142 (tf := tf) X F z60 hr' hn (Or.inr ⟨rfl, hnm, etf, htf, e45, B⟩) (fun h5 e => ⟨_, by omega, e⟩) (fun h5 e => ⟨_, by omega, e⟩)
    · rw [k42, k44, nI_clamp (by omega)] at e9
      rw [nI_1] at e11
      have F9 : Fm [] [116] [] h' h9 := by rw [e9]; exact Fm.rf.putC (by decide) (by simp)
      refine ⟨_, ?_, rfl, rfl, rfl, hnm, etf, htf, j + 1, e11, by omega, rfl, by rw [F9.2.2.2 45 (by simp)]; exact e45, A.fm F9 (by simp) (by simp), ?_, by rw [F9.2.2.2 60 (by simp)]; exact z60, F.tr (F9.mono (by simp) (by simp) (by simp))⟩
      · omega
      · have hl : (tf.take j).length = j := by rw [List.length_take]; omega
        have := ByV.push B (b8 (h'.1 115 j))
        rw [hl, ← e9, b8_by A.2 (by omega)] at this
        rw [List.take_add_one, List.getElem?_eq_getElem (by omega)]
        rw [List.getD_eq_getElem?_getD, List.getElem?_eq_getElem (by omega)] at this
        exact this
  · rintro m x0 x1 x2 x3 h' ⟨rfl, rfl, rfl, hnm, -, -, j, rfl, hj, rfl, e45, A, B, z60, F⟩
    have f' := F.fin f
    have k44 := fx f' 97 44 116 (by decide +kernel)
    have hb := bigLen_b (2 + tf.length)
    rw [V_X12_make_197, e45, nI_leI (by omega) (by omega)]
    refine ⟨rfl, fun c => ?_, fun c => ⟨40000, by rw [k44]; rfl, vp_in_nI (by omega) (by decide), _, M_say f' A ?_ _, fun h9 hp y10 e10 => ?_⟩⟩
    · rw [List.take_of_length_le (by omega)] at A
      exact M_mk221 X F A etf htf z60 hr' hn hnm (fun h5 e => ⟨_, by omega, e⟩)
    · simp only [List.length_append, List.length_take, bigB_len, headB, List.length_cons, List.length_nil]; omega
    · obtain ⟨A9, F9⟩ := hp
      rw [nI_1] at e10
      rw [k44, nI_clamp (by omega), un_b8, B j (by omega), List.append_assoc] at A9
      refine ⟨_, ?_, rfl, rfl, rfl, hnm, etf, htf, j + 1, e10, by omega, rfl, by rw [F9.2.2.2 45 (by simp)]; exact e45, ?_, F9.by_ B (by decide) (by simp), by rw [F9.2.2.2 60 (by simp)]; exact z60, F.tr (F9.mono (by simp) (by simp) (by simp))⟩
      · omega
      · rw [List.take_add_one, List.getElem?_eq_getElem (by omega)]
        exact A9
  · rintro m x0 x3 h' ⟨rfl, l, j, ef, hl, rfl, hj, rfl, A, B, F⟩
    have f' := F.fin f
    have k42 := fx f' 97 42 115 (by decide +kernel)
    have k2 := fx f' 97 2 99 (by decide +kernel)
    have ef : fileM row old g n = some l := ef
    rw [V_X12_make_276, A.1, nI_leI (by omega) (by omega)]
    refine ⟨rfl, fun c h3 e3 => ?_, fun c => ⟨40000, by rw [k42]; rfl, vp_in_nI (by omega) (by decide), 8000, by rw [k2]; rfl, vp_in_nI (by omega) (by decide), fun h11 e11 y13 e13 => ?_⟩⟩
    · rw [List.take_of_length_le (by omega)] at B
      have G : Fm (3 :: MkK) (99 :: MkC) [] h h3 := by
        rw [e3]; exact (F.mono (by simp) (by simp) (by simp)).put (by simp)
      rw [ef, MkE_ok (by omega)]
      have e33 : h3.1 97 3 = nI l.length := by rw [e3, wI_same]
      refine ⟨e33, ⟨G.fin f, ⟨⟨by rw [G.2.2.2 1 (by simp)]; exact a1, G.by_ a2 (by decide) (by simp), a3⟩, ⟨e33, ?_, hl⟩, ⟨by rw [G.2.2.2 5 (by simp)]; exact a7, G.by_ a8 (by decide) (by simp), a9⟩⟩, mo.cong (fun c h1 h2 => ⟨G.2.2.1 c (by omega) (by simp; omega), G.2.1 c (by simp)⟩) (G.2.2.2 8 (by simp)) (G.2.2.2 31 (by simp))⟩, G.agM (by simp)⟩
      exact B.of (by rw [e3, wI_cell (by decide)])
    · rw [k42, k2, nI_clamp (by omega)] at e11
      rw [nI_1] at e13
      have F9 : Fm [] [99] [] h' h11 := by rw [e11]; exact Fm.rf.putC (by decide) (by simp)
      refine ⟨_, ?_, rfl, l, j + 1, ef, hl, e13, by omega, rfl, A.fm F9 (by simp) (by simp), ?_, F.tr (F9.mono (by simp) (by simp) (by simp))⟩
      · omega
      · have hl2 : (l.take j).length = j := by rw [List.length_take]; omega
        have := ByV.push B (b8 (h'.1 115 j))
        rw [hl2, ← e11, b8_by A.2 (by omega)] at this
        rw [List.take_add_one, List.getElem?_eq_getElem (by omega)]
        rw [List.getD_eq_getElem?_getD, List.getElem?_eq_getElem (by omega)] at this
        exact this
theorem make_ok : MakeOk := ⟨makeF, fun _ _ _ q X => S_make q X, fun _ _ _ q X => M_make q X⟩
