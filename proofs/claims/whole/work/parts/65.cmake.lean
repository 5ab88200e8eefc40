/-! the class makes (my own) -/
theorem headL : lowL (3603153920 : Int64) 4 = [214, 195, 196, 0] := by decide
theorem S_startFile {w : Wd} {h : Hp} {r a N : Nat} {b0 : List Nat} {l0 : Bool} (R : RowV SH h r a N b0 l0) (b : Nat) (hb : b < 256) : C_X11_startFile w SH r (nI b) h (fun h1 => RowL h1 r a N (headB b) ∧ Fr [r, a] h h1) := by
  refine K_X11_startFile ⟨R.1, _, S_clear R, fun h5 hp => ?_⟩
  obtain ⟨R5, F5⟩ := hp
  have Q5 : RowL h5 r a N [] := ⟨([], false), R5, Or.inl ⟨by simp, rfl⟩⟩
  obtain ⟨P1, c1, q1⟩ := R_low (w := w) Q5 3603153920 4 (by decide)
  refine ⟨P1, c1, fun h9 hp => ?_⟩
  obtain ⟨Q9, F9⟩ := q1 _ hp
  rw [headL] at Q9
  obtain ⟨P2, c2, q2⟩ := R_push (w := w) Q9 (nI b)
  refine ⟨P2, c2, fun h13 hp => ?_⟩
  obtain ⟨Q13, F13⟩ := q2 _ hp
  rw [un_nI hb] at Q13
  exact ⟨Q13, ((F5.mono (by simp)).tr1 F9).tr1 F13⟩
theorem S_tellTable {w : Wd} {h : Hp} {rs : Nat} {g : Tb} {acc tf : List Nat} (f : Fin h) (hrs : 2 ≤ rs ∧ rs ≤ 6) (e2 : h.2.1 1 2 = rs) (T : TabV h 15 16 17 g) (R : RowV SH h 10 11 2048 tf false) (Q : RowL h rs (rs + 1) 8000 acc) : C_X11_tellTable w SH 1 h (fun h1 => RowL h1 rs (rs + 1) 8000 (acc ++ bigB (2 + tf.length) ++ [g.2.1, g.2.2] ++ tf) ∧ Fr [rs, rs + 1] h h1) := by
  have k4 := fx f 1 4 10 (by decide +kernel)
  have l1 := R.2.2.2.2.1
  have sh8 : shAt SH rs = some (.inr 8) := by obtain ⟨q, V, -⟩ := Q; exact V.1
  refine K_X11_tellTable ⟨rfl, by rw [k4]; rfl, _, by rw [k4]; exact S_length R, fun v7 h6 hp => ?_⟩
  obtain ⟨e1, e3⟩ := hp
  obtain rfl := e1.symm
  subst e3
  rw [show (2 : Int32) = nI 2 from rfl, nI_add, e2]
  obtain ⟨P1, c1, q1⟩ := R_big (w := w) Q (2 + tf.length) (by omega)
  refine ⟨sh8, P1, c1, fun h12 hp => ?_⟩
  obtain ⟨Q12, F12⟩ := q1 _ hp
  have f12 := f.fr F12
  have e212 : h12.2.1 1 2 = rs := by rw [F12.1]; exact e2
  have T12 : TabV h12 15 16 17 g := T.ag ⟨F12.2.2 _ (by simp; omega), by rw [F12.1]⟩ ⟨F12.2.2 _ (by simp; omega), by rw [F12.1]⟩ (F12.2.2 _ (by simp; omega))
  have k6 := fx f12 1 6 15 (by decide +kernel)
  rw [k6, e212, T12.2.2.2.2.1]
  obtain ⟨P2, c2, q2⟩ := R_push (w := w) Q12 (nI g.2.1)
  refine ⟨rfl, sh8, P2, c2, fun h18 hp => ?_⟩
  obtain ⟨Q18, F18⟩ := q2 _ hp
  have f18 := f12.fr F18
  have e218 : h18.2.1 1 2 = rs := by rw [F18.1]; exact e212
  have T18 : TabV h18 15 16 17 g := T12.ag ⟨F18.2.2 _ (by simp; omega), by rw [F18.1]⟩ ⟨F18.2.2 _ (by simp; omega), by rw [F18.1]⟩ (F18.2.2 _ (by simp; omega))
  have k6 := fx f18 1 6 15 (by decide +kernel)
  rw [k6, e218, T18.2.2.2.2.2.1]
  obtain ⟨P3, c3, q3⟩ := R_push (w := w) Q18 (nI g.2.2)
  refine ⟨rfl, sh8, P3, c3, fun h24 hp => ?_⟩
  obtain ⟨Q24, F24⟩ := q3 _ hp
  have f24 := f18.fr F24
  have e224 : h24.2.1 1 2 = rs := by rw [F24.1]; exact e218
  have G := (F12.tr1 F18).tr1 F24
  have R24 := R.fr G (by simp; omega) (by simp; omega)
  have k4 := fx f24 1 4 10 (by decide +kernel)
  refine ⟨by rw [k4]; rfl, _, by rw [k4]; exact S_length R24, fun v30 h29 hp => ?_⟩
  obtain ⟨e1, e3⟩ := hp
  obtain rfl := e1.symm
  subst e3
  rw [e224, k4]
  obtain ⟨P4, c4, q4⟩ := R_app (w := w) Q24 R24
  refine ⟨sh8, P4, c4, fun h35 hp => ?_⟩
  obtain ⟨Q35, F35⟩ := q4 _ hp
  have g1 := T.2.2.2.2.2.2.1
  have g2 := T.2.2.2.2.2.2.2
  rw [un_nI (by omega), un_nI (by omega)] at Q35
  refine ⟨?_, G.tr1 F35⟩
  simp only [List.append_assoc, List.singleton_append, List.cons_append, List.nil_append] at Q35 ⊢
  exact Q35
def MK (rs : Nat) : List Nat := MWs rs (rs + 1) ++ [10, 11]
theorem XO.mk {h h1 : Hp} {g : Tb} {o : OI} {rs : Nat} (X : XO h g o) (hrs : 2 ≤ rs ∧ rs ≤ 6) (F : Fr (MK rs) h h1) (K : MkR h1) (R : ∃ tf lo, RowV SH h1 10 11 2048 tf lo) : XO h1 g o := by
  obtain ⟨q1, q2, q3, -, q5, q6, q7, q8, q9, -, -, -, -⟩ := X
  obtain ⟨-, k1, k2, k3, k4⟩ := K
  have n : ∀ c, (12 ≤ c ∧ c ≤ 26) ∨ 49 ≤ c → c ∉ MK rs := fun c hc q => by simp [MK, MWs] at q; omega
  have E : ∀ c, (12 ≤ c ∧ c ≤ 26) ∨ 49 ≤ c → h1.1 c = h.1 c ∧ h1.2.1 c = h.2.1 c := fun c hc => ⟨F.2.2 c (n c hc), by rw [F.1]⟩
  refine ⟨q1.ag (E 12 (by omega)) (E 13 (by omega)) (E 14 (by omega)).1, q2.ag (E 15 (by omega)) (E 16 (by omega)) (E 17 (by omega)).1, q3.ag (E 18 (by omega)) (E 19 (by omega)) (E 20 (by omega)).1, R, ?_, ?_, ?_, ?_, ?_, k1, k2, k3, k4⟩
  · unfold LogV; rw [(E 22 (by omega)).1, (E 21 (by omega)).1, (E 23 (by omega)).1]; exact q5
  · unfold CacV; rw [(E 24 (by omega)).1, (E 25 (by omega)).1, (E 26 (by omega)).1]; exact q6
  · rw [(E 49 (by omega)).1]; exact q7
  · rw [(E 49 (by omega)).1]; exact q8
  · rw [(E 70 (by omega)).1]; exact q9
/-- how the making ends: the bytes said, or none -/
def MkE (s : St) (o : Option (List Nat)) : Int32 × St := match o with
  | none => (-3, s)
  | some f => if 8000 < f.length then (-4, s) else (nI f.length, (s.1, f, s.2.2.1, s.2.2.2.1, s.2.2.2.2))
theorem MkE_lo {s : St} {f : List Nat} (h : 8000 < f.length) : MkE s (some f) = (-4, s) := if_pos h
theorem MkE_ok {s : St} {f : List Nat} (h : ¬ 8000 < f.length) : MkE s (some f) = (nI f.length, (s.1, f, s.2.2.1, s.2.2.2.1, s.2.2.2.2)) := if_neg h
def XEnd (h : Hp) (q : Int32 × St) (r : Int32) (h1 : Hp) : Prop := r = q.1 ∧ XS h1 q.2 ∧ Ag XCells h h1
theorem make148 {w : Wd} {h0 h : Hp} {row came old acc : List Nat} {g T : Tb} {o : OI} {ra rc rs t tr ta : Nat} (hp : PermR (ra, rc, rs)) (X : XO h g o) (f : Fin h) (r1 : h.2.1 1 0 = ra ∧ h.2.1 1 1 = rc ∧ h.2.1 1 2 = rs) (rw_ : RowV SH h ra (ra + 1) 8000 row false) (rcm : RowV SH h rc (rc + 1) 8000 came false) (rol : RowV SH h 8 9 4000 old false) (V : TabV h t tr ta T) (ht : 12 ≤ t ∧ t < 18 ∧ 12 ≤ tr ∧ tr < 18 ∧ 12 ≤ ta ∧ ta < 18) (Q : RowL h rs (rs + 1) 8000 acc) (hrow : row.length ≤ 6000) (A : Ag XCells h0 h) (marks : Nat) (hm : marks < 8) : V_X11_make_148 w SH 1 (nI marks) t 8 ra 27 h (XEnd h0 (MkE (row, came, old, g, o) (winsM T row old (decide (marks % 2 = 1)) (decide (4 ≤ marks)) 4 0 acc))) := by
  obtain ⟨pb, pc⟩ := perm_b hp
  have pcs := hp.cs
  have lold := rol.2.2.2.2.1
  obtain ⟨-, -, -, r10, -, -, -, -, -, k1, k2, k3, k4⟩ := id X
  have K : MkR h := ⟨f, k1, k2, k3, k4⟩
  have sh8 : shAt SH rs = some (.inr 8) := by obtain ⟨q, V, -⟩ := Q; exact V.1
  refine ⟨rfl, rfl, _, by rw [r1.2.2]; exact S_makeWindows K V rw_ rol Q ⟨by omega, by omega, by omega, by omega, by omega, by omega, by omega⟩ ⟨by omega, by omega, sh8⟩ ⟨by omega, by omega, by omega, by omega⟩ ⟨by omega, by omega, by omega, by omega, by omega, by omega, by omega, by omega, by omega, by omega⟩ (by omega) hrow marks hm, fun v7 h6 hp6 y8 e8 => ?_⟩
  subst e8
  obtain ⟨ws, K6, F6⟩ := hp6
  generalize winsM T row old (decide (marks % 2 = 1)) (decide (4 ≤ marks)) 4 0 acc = tot at ws ⊢
  have f6 := K6.1
  have F6' : Fr (MK rs) h h6 := F6.mono (fun c hc => List.mem_append.mpr (Or.inl hc))
  have nin : ∀ c, c < 12 → c ≠ rs → c ≠ rs + 1 → c ∉ MWs rs (rs + 1) := fun c h1 h2 h3 q => by simp [MWs] at q; omega
  have X6 := X.mk ⟨by omega, by omega⟩ F6' K6 (by
    obtain ⟨tf, lo, R⟩ := r10
    exact ⟨tf, lo, R.fr F6 (nin _ (by omega) (by omega) (by omega)) (nin _ (by omega) (by omega) (by omega))⟩)
  have q0 : h6.2.1 1 0 = ra := by rw [F6.1]; exact r1.1
  have q1 : h6.2.1 1 1 = rc := by rw [F6.1]; exact r1.2.1
  have q2 : h6.2.1 1 2 = rs := by rw [F6.1]; exact r1.2.2
  have ra6 := rw_.fr F6 (nin _ (by omega) (by omega) (by omega)) (nin _ (by omega) (by omega) (by omega))
  have rc6 := rcm.fr F6 (nin _ (by omega) (by omega) (by omega)) (nin _ (by omega) (by omega) (by omega))
  have ro6 := rol.fr F6 (nin _ (by omega) (by omega) (by omega)) (nin _ (by omega) (by omega) (by omega))
  have A6 : Ag XCells h0 h6 := A.tr (F6.ag fun c hc => by simp [MWs] at hc; simp [XCells]; omega)
  cases tot with
  | none =>
    obtain ⟨rfl, b, l, R6⟩ := ws
    refine ⟨fun c => absurd rfl c, fun _ => ⟨rfl, ⟨f6, ⟨ra, rc, rs, hp, q0, q1, q2, ra6, rc6, ⟨b, l, R6⟩, ro6⟩, X6⟩, A6⟩⟩
  | some b =>
    obtain ⟨rfl, ⟨qb, ql⟩, R6, Z⟩ := ws
    refine ⟨fun _ => ⟨by rw [q2]; exact sh8, _, by rw [q2]; exact S_hasLost R6, fun v16 h15 hp15 => ?_⟩, fun c => absurd c (by decide)⟩
    obtain ⟨e1, e2⟩ := hp15
    obtain rfl := e1.symm
    subst e2
    rcases Z with ⟨z1, z2⟩ | ⟨z1, z2, z3⟩
    · injection z2 with z2 z3
      subst z2; subst z3
      refine ⟨fun _ => ⟨_, K_X11_letOut (RET := fun h9 => h9 = wR (wR h6 1 1 rs) 1 2 rc) ⟨rfl, fun y2 e2 h4 e4 h9 e9 => ?_⟩, fun h22 e22 => ?_⟩, fun c => absurd rfl c⟩
      · rw [e9, e4, e2, q2, q1]
      · subst e22
        have o1 : (wR (wR h6 1 1 rs) 1 2 rc).2.1 1 1 = rs := by rw [wR_cellx (by decide), wR_samex]
        have W : ∀ (S : List Nat), Rg S [(1, 1), (1, 2)] h6 (wR (wR h6 1 1 rs) 1 2 rc) := fun S => (Rg.rf.putR (by simp)).putR (by simp)
        have rs22 : RowV SH (wR (wR h6 1 1 rs) 1 2 rc) rs (rs + 1) 8000 qb false := R6.rg (W []) (by simp) (by simp) (by simp)
        have ra22 := ra6.rg (W []) (by simp) (by simp) (by simp)
        have rc22 := rc6.rg (W []) (by simp) (by simp) (by simp)
        have ro22 := ro6.rg (W []) (by simp) (by simp) (by simp)
        have f22 : Fin (wR (wR h6 1 1 rs) 1 2 rc) := (W []).fin f6 (by decide +kernel)
        have o0 : (wR (wR h6 1 1 rs) 1 2 rc).2.1 1 0 = ra := by rw [wR_cellx (by decide), wR_cellx (by decide)]; exact q0
        have o2 : (wR (wR h6 1 1 rs) 1 2 rc).2.1 1 2 = rc := wR_samex
        have X22 : XO (wR (wR h6 1 1 rs) 1 2 rc) g o := X6.cong fun c a b => ⟨rfl, funext fun k => (wR_cellx (by simp; omega)).trans (wR_cellx (by simp; omega))⟩
        have agw : Ag XCells h6 (wR (wR h6 1 1 rs) 1 2 rc) := (W []).ag (by simp) (by simp [XCells])
        generalize wR (wR h6 1 1 rs) 1 2 rc = h22 at o1 rs22 ra22 rc22 ro22 f22 o0 o2 X22 agw ⊢
        refine ⟨by rw [o1]; exact rs22.1, _, by rw [o1]; exact S_length rs22, fun v28 h27 hp27 => ?_⟩
        obtain ⟨e1, e2⟩ := hp27
        obtain rfl := e1.symm
        subst e2
        rw [MkE_ok (by omega)]
        exact ⟨rfl, ⟨f22, ⟨ra, rs, rc, perm_sw hp, o0, o1, o2, ra22, rs22, ⟨came, false, rc22⟩, ro22⟩, X22⟩, A6.tr agw⟩
    · have z2 : ql = true := z2
      subst z2
      refine ⟨fun c => absurd c (show ¬ (1 : Int32) = 0 by decide), fun _ => ?_⟩
      rw [MkE_lo z1]
      exact ⟨rfl, ⟨f6, ⟨ra, rc, rs, hp, q0, q1, q2, ra6, rc6, ⟨_, _, R6⟩, ro6⟩, X6⟩, A6⟩
theorem and2' : ∀ b : Nat, b < 8 → (nI b &&& (2 : Int32) = 0 ↔ ¬ b / 2 % 2 = 1) := by decide
theorem S_make {w : Wd} {h : Hp} {s : St} (q : Int32) (X : XS h s) : C_X11_make w SH 1 q h (XEnd h (makeF s q)) := by
  obtain ⟨row, came, old, g, o⟩ := s
  obtain ⟨f, ⟨ra, rc, rs, hp, r0, r1, r2, rw_, rcm, ⟨sp, lo, rsp⟩, rol⟩, XO_⟩ := id X
  obtain ⟨pb, pc⟩ := perm_b hp
  have pcs := hp.cs
  have k6 := fx f 1 6 15 (by decide +kernel)
  have rw_ : RowV SH h ra (ra + 1) 8000 row false := rw_
  have lrow := rw_.2.2.2.2.1
  refine K_X11_make ⟨fun c1 => ?_, fun c1 => ⟨fun c2 => ?_, fun c2 => ?_⟩⟩
  · unfold makeF; rw [if_pos (Or.inl c1)]; exact ⟨rfl, X, Ag.rf⟩
  rotate_left
  · unfold makeF; rw [if_pos (Or.inr (Int32.not_le.mp c2))]; exact ⟨rfl, X, Ag.rf⟩
  obtain ⟨n, hn, rfl⟩ := nI_of3 (x := q) (M := 8) (n := 8) rfl (by decide) c1 (by
    intro h8
    rw [Int32.le_iff_toInt_le] at h8 c2
    have a1 : (8 : Int32).toInt = 8 := by decide
    have a2 : (7 : Int32).toInt = 7 := by decide
    omega)
  have hq : ¬ (nI n < 0 ∨ 7 < nI n) := fun q => q.elim c1 fun q => absurd c2 (Int32.not_le.mpr q)
  have hN : (nI n).toNatClampNeg = n := nI_clamp (by omega)
  have eM : makeF (row, came, old, g, o) (nI n) = if n / 2 % 2 = 1 ∧ goodB g = false then (-3, (row, came, old, g, o)) else if 6000 < row.length then (-4, (row, came, old, g, o)) else MkE (row, came, old, g, o) (fileM row old g n) := by
    unfold makeF
    rw [if_neg hq, hN]
    rfl
  rw [eM, and2' n hn]
  -- the rest, the row being short
  have v42 : ∀ y1 : Int32, (y1 = 0 ↔ ¬ n / 2 % 2 = 1) → ¬ (n / 2 % 2 = 1 ∧ goodB g = false) → V_X11_make_42 w SH 1 (nI n) y1 h (XEnd h (if n / 2 % 2 = 1 ∧ goodB g = false then (-3, (row, came, old, g, o)) else if 6000 < row.length then (-4, (row, came, old, g, o)) else MkE (row, came, old, g, o) (fileM row old g n))) := by
    intro y1 hy hg
    rw [if_neg hg]
    refine ⟨rfl, by rw [r0]; exact rw_.1, _, by rw [r0]; exact S_length rw_, fun v7 h6 hp6 => ?_⟩
    obtain ⟨e1, e2⟩ := hp6
    obtain rfl := e1.symm
    subst e2
    rw [show (6000 : Int32) = nI 6000 from rfl, nI_leI (by omega) (by decide)]
    refine ⟨fun c3 => ?_, fun c3 => by rw [if_pos (by omega)]; exact ⟨rfl, X, Ag.rf⟩⟩
    rw [if_neg (by omega), r2]
    have nin : ∀ c, (8 ≤ c ∨ c < 2) → c ∉ [rs, rs + 1] := fun c h1 q => by simp at q; omega
    have ag2 : ∀ {h1 : Hp}, Fr [rs, rs + 1] h h1 → Ag XCells h h1 := fun F => F.ag fun c hc => by simp at hc; simp [XCells]; omega
    refine ⟨fun c4 => ⟨_, S_startFile rsp 0 (by decide), fun h4 hp4 => ⟨fun _ => ?_, fun c5 => absurd c4 c5⟩⟩, fun c4 => ⟨_, S_startFile rsp 2 (by decide), fun h4 hp4 => ⟨fun c5 => absurd c5 c4, fun _ => ?_⟩⟩⟩
    · obtain ⟨Q4, F4⟩ := hp4
      have f4 := f.fr F4
      have X4 := XO_.fr F4 (fun c hc => by simp at hc; omega)
      refine ⟨rfl, fun _ => ?_, fun c5 => absurd c4 c5⟩
      rw [fx f4 1 5 12 (by decide +kernel), fx f4 1 3 8 (by decide +kernel), fx f4 1 12 27 (by decide +kernel), show h4.2.1 1 0 = ra by rw [F4.1]; exact r0]
      have := make148 (w := w) hp X4 f4 ⟨by rw [F4.1]; exact r0, by rw [F4.1]; exact r1, by rw [F4.1]; exact r2⟩ (rw_.fr F4 (by simp; omega) (by simp; omega)) (rcm.fr F4 (by simp; omega) (by simp; omega)) (rol.fr F4 (by simp; omega) (by simp; omega)) X4.1 ⟨by decide, by decide, by decide, by decide, by decide, by decide⟩ Q4 (by omega) (ag2 F4) n hn
      have ef : fileM row old g n = winsM (UBy, 4, 3) row old (decide (n % 2 = 1)) (decide (4 ≤ n)) 4 0 (headB 0) := by unfold fileM; rw [if_neg (hy.mp c4)]
      rw [ef]; exact this
    · obtain ⟨Q4, F4⟩ := hp4
      have f4 := f.fr F4
      have X4 := XO_.fr F4 (fun c hc => by simp at hc; omega)
      obtain ⟨t12, t15, -, ⟨tf0, l0, r10⟩, -⟩ := id X4
      have hnm : n / 2 % 2 = 1 := Decidable.not_not.mp fun q => c4 (hy.mpr q)
      have k4 := fx f4 1 4 10 (by decide +kernel)
      refine ⟨rfl, _, by rw [k4]; exact S_startFile r10 0 (by decide), fun h10 hp10 => ?_⟩
      obtain ⟨Q10, F10⟩ := hp10
      have f10 := f4.fr F10
      have k41 := fx f10 1 4 10 (by decide +kernel)
      have k51 := fx f10 1 5 12 (by decide +kernel)
      have k61 := fx f10 1 6 15 (by decide +kernel)
      have k121 := fx f10 1 12 27 (by decide +kernel)
      have t12' : TabV h10 12 13 14 (UBy, 4, 3) := t12.ag ⟨F10.2.2 _ (by decide), by rw [F10.1]⟩ ⟨F10.2.2 _ (by decide), by rw [F10.1]⟩ (F10.2.2 _ (by decide))
      have t15' : TabV h10 15 16 17 g := t15.ag ⟨F10.2.2 _ (by decide), by rw [F10.1]⟩ ⟨F10.2.2 _ (by decide), by rw [F10.1]⟩ (F10.2.2 _ (by decide))
      have K10 : MkR h10 := by
        obtain ⟨-, -, -, -, -, -, -, -, -, ⟨b1, l1, q1⟩, ⟨b2, l2, q2⟩, ⟨b3, l3, q3⟩, ⟨b4, l4, q4⟩⟩ := X4
        exact ⟨f10, ⟨b1, l1, q1.fr F10 (by decide) (by decide)⟩, ⟨b2, l2, q2.fr F10 (by decide) (by decide)⟩, ⟨b3, l3, q3.fr F10 (by decide) (by decide)⟩, ⟨b4, l4, q4.fr F10 (by decide) (by decide)⟩⟩
      have k50 := fx f10 12 0 13 (by decide +kernel)
      have k60 := fx f10 15 0 16 (by decide +kernel)
      rw [k61, k51, k121, k41, k50, k60]
      refine ⟨rfl, rfl, rfl, _, S_makeWindows K10 t12' t15'.2.2.1 t12'.2.2.1 Q10 ⟨by decide, by decide, by decide, by decide, by decide, by decide, by decide⟩ ⟨by decide, by decide, rfl⟩ ⟨by decide, by decide, by decide, by decide⟩ ⟨by decide, by decide, by decide, by decide, by decide, by decide, by decide, by decide, by decide, by decide⟩ (by rw [UBy_len]; decide) (by rw [t15.2.2.2.1]; decide) 0 (by decide), fun v18 h17 hp17 => ?_⟩
      obtain ⟨ws, K17, F17⟩ := hp17
      obtain ⟨tf, etf, htf⟩ := tabFile_some t15.2.2.2.1
      have etf' : winsM (UBy, 4, 3) g.1 UBy (decide (0 % 2 = 1)) (decide (4 ≤ 0)) 4 0 (headB 0) = some tf := etf
      rw [etf'] at ws
      obtain ⟨-, ⟨qb, ql⟩, R17, Z⟩ := ws
      rcases Z with ⟨z1, z2⟩ | ⟨z1, z2, z3⟩
      rotate_left
      · omega
      injection z2 with z2 z3
      subst z2; subst z3
      have f17 := K17.1
      have G17 : Fr (MWs 10 11) h4 h17 := (F10.mono (by simp [MWs])).tr1 F17
      have n17 : ∀ c, c < 27 → c ≠ 10 → c ≠ 11 → c ∉ MWs 10 11 := fun c h1 h2 h3 q => by simp [MWs] at q; omega
      have X17 : XO h17 g o := X4.mk (rs := rs) ⟨by omega, by omega⟩ (G17.mono fun c hc => by simp [MWs] at hc; simp [MK, MWs]; omega) K17 ⟨_, _, R17⟩
      have H17 : Ag XCells h h17 := (ag2 F4).tr (G17.ag fun c hc => by simp [MWs] at hc; simp [XCells]; omega)
      have e0 : h17.2.1 1 0 = ra := by rw [G17.1, F4.1]; exact r0
      have e1 : h17.2.1 1 1 = rc := by rw [G17.1, F4.1]; exact r1
      have e2 : h17.2.1 1 2 = rs := by rw [G17.1, F4.1]; exact r2
      refine ⟨_, S_tellTable f17 ⟨by omega, by omega⟩ e2 X17.2.1 R17 (Q4.fr G17 (n17 _ (by omega) (by omega) (by omega)) (n17 _ (by omega) (by omega) (by omega))), fun h22 hp22 => ?_⟩
      obtain ⟨Q22, F22⟩ := hp22
      have f22 := f17.fr F22
      have X22 := X17.fr F22 (fun c hc => by simp at hc; omega)
      refine ⟨rfl, fun c5 => absurd c5 c4, fun _ => ?_⟩
      rw [fx f22 1 6 15 (by decide +kernel), fx f22 1 3 8 (by decide +kernel), fx f22 1 12 27 (by decide +kernel), show h22.2.1 1 0 = ra by rw [F22.1]; exact e0]
      have := make148 (w := w) hp X22 f22 ⟨by rw [F22.1]; exact e0, by rw [F22.1]; exact e1, by rw [F22.1]; exact e2⟩ (((rw_.fr F4 (by simp; omega) (by simp; omega)).fr G17 (n17 _ (by omega) (by omega) (by omega)) (n17 _ (by omega) (by omega) (by omega))).fr F22 (by simp; omega) (by simp; omega)) (((rcm.fr F4 (by simp; omega) (by simp; omega)).fr G17 (n17 _ (by omega) (by omega) (by omega)) (n17 _ (by omega) (by omega) (by omega))).fr F22 (by simp; omega) (by simp; omega)) (((rol.fr F4 (by simp; omega) (by simp; omega)).fr G17 (n17 _ (by omega) (by omega) (by omega)) (n17 _ (by omega) (by omega) (by omega))).fr F22 (by simp; omega) (by simp; omega)) X22.2.1 ⟨by decide, by decide, by decide, by decide, by decide, by decide⟩ Q22 (by omega) (H17.tr (F22.ag fun c hc => by simp at hc; simp [XCells]; omega)) n hn
      have ef : fileM row old g n = winsM g row old (decide (n % 2 = 1)) (decide (4 ≤ n)) 4 0 (headB 2 ++ bigB (2 + qb.length) ++ [g.2.1, g.2.2] ++ qb) := by unfold fileM; rw [if_pos hnm, etf]
      rw [ef]; exact this
  refine ⟨fun c3 y1 e1 => ⟨fun c4 => v42 y1 ?_ ?_, fun c4 => absurd (by rw [e1]) c4⟩, fun c3 y1 e1 => ⟨fun c4 => absurd (e1.symm.trans c4) (by decide), fun c4 => ⟨rfl, by rw [k6]; rfl, _, by rw [k6]; exact S_isGood XO_.2.1, fun v10 h9 hp9 => ?_⟩⟩⟩
  · rw [e1]; exact ⟨fun _ => c3, fun _ => rfl⟩
  · exact fun q => c3 q.1
  · obtain ⟨e2, ev, ig⟩ := hp9
    obtain rfl := e2.symm
    have hnm : n / 2 % 2 = 1 := Decidable.not_not.mp c3
    refine ⟨fun c5 => v42 y1 ?_ ?_, fun c5 => ?_⟩
    · exact ⟨fun q => absurd q c4, fun q => absurd hnm q⟩
    · rintro ⟨-, q⟩
      have := (goodB_iff g).mpr (ig.mp (ev.resolve_left c5))
      rw [this] at q; cases q
    · have : goodB g = false := by
        cases hg : goodB g with
        | false => rfl
        | true =>
          have := ig.mpr ((goodB_iff g).mp hg)
          rw [this] at c5; exact absurd c5 (by decide)
      rw [if_pos ⟨hnm, this⟩]
      exact ⟨rfl, X, Ag.rf⟩
