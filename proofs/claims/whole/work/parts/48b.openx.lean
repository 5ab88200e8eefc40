/-! the class: open (my own) -/
theorem headP_ok {own : Bool} {src : List Nat} {e p b q : Nat} (h : headP own src e p = .inr (b, q)) : q = p + 5 ∧ q ≤ e ∧ (b = 0 ∨ b = 4 ∨ own = true ∧ (b = 2 ∨ b = 6)) := by
  unfold headP at h
  split at h
  · cases h
  split at h
  · cases h
  split at h
  · cases h
  split at h
  · cases h
  rename_i h1 h2 h3 h4
  injection h with h; injection h with a b
  subst a; subst b
  exact ⟨rfl, by omega, Decidable.not_not.mp h4⟩
theorem tabHP_ok {src : List Nat} {e p n q : Nat} (h : tabHP src e p = .inr (n, q)) : p < q ∧ q + n ≤ e ∧ 2 ≤ n ∧ src.getD q 0 ≤ 32 ∧ src.getD (q + 1) 0 ≤ 16 := by
  unfold tabHP at h
  split at h
  · cases h
  rename_i n1 q1 h1
  have k1 := hbP_ok h1
  split at h
  · cases h
  split at h
  · cases h
  injection h with h; injection h with a b
  subst a; subst b
  omega
theorem Rg.ag {S T : List Nat} {R : List (Nat × Nat)} {h h1 : Hp} (F : Rg S R h h1) (hs : ∀ c, c ∈ S → c ∈ T) (hr : ∀ q, q ∈ R → q.1 ∈ T) : Ag T h h1 := fun c hc => ⟨F.1 c fun q => hc (hs c q), funext fun k => F.2.1 c k fun q => hc (hr _ q), by rw [F.2.2]⟩
def OS (rs : Nat) : List Nat := [18, 19, 20, 21, 22, 23, 24, 25, 26, 49, 50, 53, 56, 59, 62, 65, 70, 71, 72, 73, 74, 75, 76, 77, 80, 83, 86, 89, 92, rs, rs + 1]
def OR : List (Nat × Nat) := [(50, 0), (53, 0), (56, 0), (59, 0), (62, 0), (65, 0), (65, 3), (49, 10), (49, 11), (77, 0), (80, 0), (83, 0), (86, 0), (89, 0), (92, 0), (92, 3), (70, 10), (70, 11)]
/-- the own opener while the other one works -/
theorem HV49.tab {h h1 : Hp} {ra rs e : Nat} {src base : List Nat} {T : Tb} {s : Ost} (X : HV49 h ra rs e src base T s) {out : List Nat} (F : Rg [70, 71, 72, 73, 74, 75, 76, 77, 80, 83, 86, 89, 92, rs, rs + 1] [(77, 0), (80, 0), (83, 0), (86, 0), (89, 0), (92, 0), (92, 3), (70, 10), (70, 11)] h h1) (ro : RowV SH h1 rs (rs + 1) 8000 out false) : HV49 h1 ra rs e src base T (s.sout out) := by
  have b := X.b
  exact HV49.of ⟨F.fin X.f (by decide +kernel), b, X.rr.rg F (by simp; omega) (by simp; omega) (by simp; omega), ro, X.rb.rg F (by simp; omega) (by simp; omega) (by decide), X.t.rg F (by simp; omega) (by simp; omega) (by simp; omega) (by decide) (by decide), X.cf.rg F (by simp; omega) (by decide), X.k.rg F (by simp; omega) (by simp; omega) (by simp; omega), X.l.rg F (by simp; omega) (by simp; omega) (by simp; omega), by rw [F.2.1 49 10 (by decide), F.2.1 49 11 (by decide), F.1 49 (by simp; omega)]; exact X.o, X.kN, X.e, X.nr, X.sm, X.nx, X.ac, X.g, X.ft⟩
theorem perm_b {ra rc rs : Nat} (p : PermR (ra, rc, rs)) : (2 ≤ ra ∧ ra ≤ 6 ∧ 2 ≤ rs ∧ rs ≤ 6 ∧ ra ≠ rs ∧ ra + 1 ≠ rs ∧ rs + 1 ≠ ra) ∧ (2 ≤ rc ∧ rc ≤ 6 ∧ rc ≠ rs ∧ rc + 1 ≠ rs ∧ rs + 1 ≠ rc) := by
  simp [PermR] at p
  omega
theorem perm_sw {ra rc rs : Nat} (p : PermR (ra, rc, rs)) : PermR (ra, rs, rc) := by
  simp [PermR] at p ⊢
  omega
theorem XO.op {h h1 : Hp} {g : Tb} {o : OI} {rs : Nat} (X : XO h g o) (hrs : 2 ≤ rs ∧ rs ≤ 6) (F : Rg (OS rs) OR h h1) {ra e : Nat} {src base : List Nat} {T : Tb} {s : Ost} (H : HV49 h1 ra rs e src base T s) (h70 : h1.1 70 3 = 4) : XO h1 g (T, s.tl, s.ac, s.nr, s.sm, if s.ft = 0 then -1 else nI s.pl) := by
  obtain ⟨t1, t2, t3, ⟨tf, lo, r10⟩, lg, cv, p49, p3, p4, ⟨b1, l1, r29⟩, ⟨b2, l2, r43⟩, ⟨b3, l3, r45⟩, ⟨b4, l4, r47⟩⟩ := X
  refine ⟨t1.rg F (by simp [OS]; omega) (by simp [OS]; omega) (by simp [OS]; omega) (by decide) (by decide), t2.rg F (by simp [OS]; omega) (by simp [OS]; omega) (by simp [OS]; omega) (by decide) (by decide), H.t, ⟨tf, lo, r10.rg F (by simp [OS]; omega) (by simp [OS]; omega) (by decide)⟩, ?_, ?_, H.o.2.2.2.1, H.o.2.2.2.2, h70, ⟨b1, l1, r29.rg F (by simp [OS]; omega) (by simp [OS]; omega) (by decide)⟩, ⟨b2, l2, r43.rg F (by simp [OS]; omega) (by simp [OS]; omega) (by decide)⟩, ⟨b3, l3, r45.rg F (by simp [OS]; omega) (by simp [OS]; omega) (by decide)⟩, ⟨b4, l4, r47.rg F (by simp [OS]; omega) (by simp [OS]; omega) (by decide)⟩⟩
  · have := H.l
    unfold LogW at this
    rw [if_pos rfl] at this
    exact this
  · have k := H.k
    exact ⟨k.1, k.2.1, H.t.2.2.2.2.2.2.1, H.t.2.2.2.2.2.2.2, k.2.2.2.1, k.2.2.2.2⟩
def OpEnd (h : Hp) (s : St) (r : Int32) (h1 : Hp) : Prop := r = (openF s).1 ∧ XS h1 (openF s).2 ∧ Ag XCells h h1
theorem openTail {w : Wd} {h h1 : Hp} {row came old : List Nat} {g : Tb} {o : OI} {ra rc rs : Nat} (hp : PermR (ra, rc, rs)) (X : XO h g o) (r1 : h.2.1 1 0 = ra ∧ h.2.1 1 1 = rc ∧ h.2.1 1 2 = rs) (rw_ : RowV SH h ra (ra + 1) 8000 row false) (rcm : RowV SH h rc (rc + 1) 8000 came false) (rol : RowV SH h 8 9 4000 old false) (f1 : Fin h1) (F : Rg (OS rs) OR h h1) (h70 : h1.1 70 3 = 4) (HA : ∃ P : Hp → Prop, C_X7_readAppendix w SH 49 h1 P ∧ ∀ h6, P h6 → (∃ s2, HV49 h6 ra rs row.length row old (openP old row).1 s2 ∧ ∃ p o', winsP true (openP old row).1 old row row.length (row.length - s2.fa) s2 = ((openP old row).2.sfa p).sout o' ∧ ((openP old row).2.ft = 0 → o' = (openP old row).2.out)) ∧ Fr [49, 50, 22] h1 h6) : V_X11_open_139 w SH 1 h1 (OpEnd h (row, came, old, g, o)) := by
  obtain ⟨pb, pc⟩ := perm_b hp
  obtain ⟨P, c1, k1⟩ := HA
  refine ⟨rfl, by rw [fx f1 1 10 49 (by decide +kernel)]; rfl, P, by rw [fx f1 1 10 49 (by decide +kernel)]; exact c1, fun h6 h6p => ?_⟩
  obtain ⟨⟨s2, H6, p, o', ew, eo⟩, F6⟩ := k1 h6 h6p
  have f6 := f1.fr F6
  have G6 : Rg (OS rs) OR h h6 := F.tr (F6.up (by simp [OS]))
  have s6 : h6.1 70 3 = 4 := by rw [F6.2.2 70 (by decide)]; exact h70
  refine ⟨by rw [fx f6 1 10 49 (by decide +kernel)]; rfl, _, by rw [fx f6 1 10 49 (by decide +kernel)]; exact readWindows49 H6, fun h11 hp11 => ?_⟩
  obtain ⟨⟨p', H11⟩, F11⟩ := hp11
  rw [ew] at H11
  have f11 := F11.fin f6 (by decide +kernel)
  have G11 : Rg (OS rs) OR h h11 := G6.tr (F11.mono (by intro c hc; simp [WS49] at hc; simp [OS]; omega) (by decide))
  have s11 : h11.1 70 3 = 4 := by rw [F11.1 70 (by simp [WS49]; omega)]; exact s6
  have X11 := X.op ⟨pb.2.2.1, pb.2.2.2.1⟩ G11 H11 s11
  have hft := H11.ft
  have hft : (openP old row).2.ft < 17 := hft
  have e12 : h11.1 49 12 = nI (openP old row).2.ft := H11.o.2.2.1
  have ra11 : RowV SH h11 ra (ra + 1) 8000 row false := H11.rr
  have rc11 : RowV SH h11 rc (rc + 1) 8000 came false := rcm.rg G11 (by simp [OS]; omega) (by simp [OS]; omega) (by simp [OR]; omega)
  have ro11 : RowV SH h11 8 9 4000 old false := H11.rb
  have q0 : h11.2.1 1 0 = ra := by rw [G11.2.1 1 0 (by decide)]; exact r1.1
  have q1 : h11.2.1 1 1 = rc := by rw [G11.2.1 1 1 (by decide)]; exact r1.2.1
  have q2 : h11.2.1 1 2 = rs := by rw [G11.2.1 1 2 (by decide)]; exact r1.2.2
  have rs11 := H11.ro
  have ff : ∀ h9 : Hp, C_X7_faultFound w SH 49 h9 (fun v h1 => h1 = h9 ∧ v = h9.1 49 12) := fun h9 => K_X7_faultFound ⟨rfl, rfl, rfl⟩
  have agx : Ag XCells h h11 := G11.ag (by intro c hc; simp [OS] at hc; simp [XCells]; omega) (by decide +kernel)
  have len : ((((openP old row).2.sfa p).sout o').sfa p').out = o' := rfl
  rw [len] at rs11
  refine ⟨by rw [fx f11 1 10 49 (by decide +kernel)]; rfl, _, by rw [fx f11 1 10 49 (by decide +kernel)]; exact ff h11, fun v17 h16 hp16 => ?_⟩
  obtain ⟨e1, e2⟩ := hp16
  obtain rfl := e1.symm
  rw [e2, e12, nIz (by omega)]
  refine ⟨fun c7 => ⟨_, K_X11_letOut (RET := fun h9 => h9 = wR (wR h11 1 1 rs) 1 2 rc) ⟨rfl, fun y2 e2 h4 e4 h6 e6 => ?_⟩, fun h22 e22 => ?_⟩, fun c7 => ⟨by rw [fx f11 1 10 49 (by decide +kernel)]; rfl, _, by rw [fx f11 1 10 49 (by decide +kernel)]; exact ff h11, fun v34 h33 hp33 => ?_⟩⟩
  · rw [e6, e4, e2, q2, q1]
  · subst e22
    have o1 : (wR (wR h11 1 1 rs) 1 2 rc).2.1 1 1 = rs := by rw [wR_cellx (by decide), wR_samex]
    have eo' := eo c7
    have W : ∀ (S : List Nat), Rg S [(1, 1), (1, 2)] h11 (wR (wR h11 1 1 rs) 1 2 rc) := fun S => (Rg.rf.putR (by simp)).putR (by simp)
    have rs22 : RowV SH (wR (wR h11 1 1 rs) 1 2 rc) rs (rs + 1) 8000 o' false := rs11.rg (W []) (by simp) (by simp) (by simp)
    have ra22 := ra11.rg (W []) (by simp) (by simp) (by simp)
    have rc22 := rc11.rg (W []) (by simp) (by simp) (by simp)
    have ro22 := ro11.rg (W []) (by simp) (by simp) (by simp)
    have f22 : Fin (wR (wR h11 1 1 rs) 1 2 rc) := (W []).fin f11 (by decide +kernel)
    have o0 : (wR (wR h11 1 1 rs) 1 2 rc).2.1 1 0 = ra := by rw [wR_cellx (by decide), wR_cellx (by decide)]; exact q0
    have o2 : (wR (wR h11 1 1 rs) 1 2 rc).2.1 1 2 = rc := wR_samex
    have X22 : XO (wR (wR h11 1 1 rs) 1 2 rc) g ((openP old row).1, (openP old row).2.tl, (openP old row).2.ac, (openP old row).2.nr, (openP old row).2.sm, -1) := by
      have e : (if ((((openP old row).2.sfa p).sout o').sfa p').ft = 0 then (-1 : Int32) else nI ((((openP old row).2.sfa p).sout o').sfa p').pl) = -1 := if_pos c7
      have X11 : XO h11 g ((openP old row).1, (openP old row).2.tl, (openP old row).2.ac, (openP old row).2.nr, (openP old row).2.sm, _) := X11
      rw [e] at X11
      exact X11.cong fun c a b => ⟨rfl, funext fun k => (wR_cellx (by simp; omega)).trans (wR_cellx (by simp; omega))⟩
    have agw : Ag XCells h11 (wR (wR h11 1 1 rs) 1 2 rc) := (W []).ag (by simp) (by simp [XCells])
    generalize wR (wR h11 1 1 rs) 1 2 rc = h22 at o1 rs22 ra22 rc22 ro22 f22 o0 o2 X22 agw ⊢
    refine ⟨by rw [o1]; exact rs22.1, _, by rw [o1]; exact S_length rs22, fun v28 h27 hp27 => ?_⟩
    obtain ⟨e1, e2⟩ := hp27
    obtain rfl := e1.symm
    subst e2; subst eo'
    have eF : openF (row, came, old, g, o) = (nI (openP old row).2.out.length, (row, (openP old row).2.out, old, g, ((openP old row).1, (openP old row).2.tl, (openP old row).2.ac, (openP old row).2.nr, (openP old row).2.sm, -1))) := by
      unfold openF
      simp only []
      rw [if_pos c7]
    unfold OpEnd
    rw [eF]
    exact ⟨rfl, ⟨f22, ⟨ra, rs, rc, perm_sw hp, o0, o1, o2, ra22, rs22, ⟨came, false, rc22⟩, ro22⟩, X22⟩, agx.tr agw⟩
  · obtain ⟨e1, e3⟩ := hp33
    obtain rfl := e1.symm
    rw [e3, e12]
    have eF : openF (row, came, old, g, o) = (-10 - nI (openP old row).2.ft, (row, came, old, g, ((openP old row).1, (openP old row).2.tl, (openP old row).2.ac, (openP old row).2.nr, (openP old row).2.sm, nI (openP old row).2.pl))) := by
      unfold openF
      simp only []
      rw [if_neg c7]
    unfold OpEnd
    rw [eF]
    have e : (if ((((openP old row).2.sfa p).sout o').sfa p').ft = 0 then (-1 : Int32) else nI ((((openP old row).2.sfa p).sout o').sfa p').pl) = nI (openP old row).2.pl := if_neg c7
    have X11 : XO h11 g ((openP old row).1, (openP old row).2.tl, (openP old row).2.ac, (openP old row).2.nr, (openP old row).2.sm, _) := X11
    rw [e] at X11
    exact ⟨rfl, ⟨f11, ⟨ra, rc, rs, hp, q0, q1, q2, ra11, rc11, ⟨o', false, rs11⟩, ro11⟩, X11⟩, agx⟩
