/-! the reference: a given table, through (my own) -/
theorem MH.ap {h h1 : Hp} {t tc e : Nat} {own : Bool} {src base : List Nat} {T : Tb} {s : Ost} {f q p : Nat} {tl : Nat → Nat} (X : MH h t tc e own src base T s) (F : Fm [6, 7, 14, 36, 37] [110] [] h h1) (A : Fa h1 f q) (V : h1.1 97 14 = nI p) (hp : p ≤ e) (tt : ∀ j, j < 8 → h1.1 110 j = nI (tl j)) : MH h1 t tc e own src base T (((s.sfa p).stl tl).bad f q) := MH.of ⟨
    (X.r.fm F (by decide)),
    (⟨X.t.1, X.t.2.fm F (by decide) (by decide) (by decide)⟩),
    (V),
    (by rw [F.2.2.2 15 (by decide)]; exact X.i15),
    (by rw [F.2.2.2 17 (by decide)]; exact X.i17),
    (by rw [F.2.2.2 18 (by decide)]; exact X.i18),
    (by rw [F.2.2.2 19 (by decide)]; exact X.i19),
    (by rw [F.2.2.2 23 (by decide)]; exact X.i23),
    (by rw [F.2.2.2 29 (by decide)]; exact X.i29),
    (by rw [F.1]; exact X.c16.imp (fun q => ⟨q.1, q.2.1, F.by_ q.2.2 (by decide) (by decide)⟩) (fun q => ⟨q.1, q.2.1, F.by_ q.2.2 (by decide) (by decide)⟩)),
    (by rw [F.1]; exact X.c22),
    (F.by_ X.o (by have := X.c22.1; omega) (by have := X.c22.1; simp <;> omega)),
    (X.ol),
    (by rw [F.2.1 108 (by decide)]; exact X.nr),
    (by rw [F.2.1 109 (by decide)]; exact X.sm),
    (tt),
    (X.ac.fm F (by decide) (by decide) (by decide) (by decide) (by decide)),
    (⟨hp, X.e.2⟩),
    (X.hn),
    (X.hs),
    (X.nx),
    (X.g),
    (A),
    (X.bb)
  ⟩
theorem M_g259 {w : Wd} {h h2 : Hp} {e p n q : Nat} {src : List Nat} {L207 : Nat → Int32 → Int32 → Int32 → Hp → Prop} (hT : tabHP src e p = .inr (n, q)) (he : q + n ≤ e ∧ e ≤ src.length) {L259 : Nat → Int32 → Int32 → Int32 → Int32 → Int32 → Hp → Prop} {m x0 : Nat} {x3 x4 x5 x7 x8 : Int32} (hL : ∀ a x3 x4 x5 x7 x8 h3, a < m → J9 h e src n q a 97 x3 x4 x5 x7 x8 h3 → L259 97 x3 x4 x5 x7 x8 h3) (I : J9 h e src n q m x0 x3 x4 x5 x7 x8 h2) : V_X12_givenTable_259 w SH x0 x3 x4 x5 x7 x8 h2 L207 L259 (fun h1 => GtS e src p h1 ∧ MFr h h1) := by
  obtain ⟨rfl, rfl, rfl, rfl, X, k, rfl, hk, rfl, st⟩ := I
  have ht := tabHP_ok hT
  have f := X.1.1
  have k9 := fx f 97 9 101 (by decide +kernel)
  have k21 := fx f 97 21 106 (by decide +kernel)
  have v318 : (k = 1536 ∨ x7 = 0) → ∀ L259, V_X12_givenTable_318 w SH 97 (nI q) (nI (q + n)) (nI e) x7 h2 L207 L259 (fun h1 => GtS e src p h1 ∧ MFr h h1) := by
    intro hst L259
    rcases st with ⟨rfl, ng⟩ | ⟨rfl, g1, g2, g3, B, en⟩
    · exact ⟨fun _ => M_g336 hT he X 0 (Or.inr ⟨rfl, fun a => ng ⟨a.1, a.2.1⟩⟩), fun c => absurd rfl c⟩
    · have hk2 : k = 1536 := hst.resolve_right (by decide)
      subst hk2
      have V3 : EntV h2 3 ((subP src (q + 2) (q + n)).out, src.getD q 0, src.getD (q + 1) 0) := by
        refine ⟨fun what i hw hi => ?_, X.2.2.2.1, X.2.2.2.2.1, ht.2.2.2.1, ht.2.2.2.2, g2, g3⟩
        have := ix3_cell hi hw
        rw [← this.2]; exact en _ this.1
      refine ⟨fun c => absurd c (by decide), fun _ => ⟨rfl, _, M_isGood f (t := 3) (by decide) V3, fun v7 h6 hp => ?_⟩⟩
      obtain ⟨e1, ev, ig⟩ := hp
      obtain rfl := e1.symm
      refine ⟨fun c => M_g336 hT he X 0 (Or.inr ⟨rfl, fun a => ?_⟩), fun c => M_g336 hT he X 1 (Or.inl ⟨rfl, ⟨g1, g2, (goodB_iff _).mpr (ig.mp (ev.resolve_left c))⟩, V3⟩)⟩
      have := ig.mpr ((goodB_iff _).mp a.2.2)
      rw [c] at this
      exact absurd this (by decide)
  rw [V_X12_givenTable_259, show (1536 : Int32) = nI 1536 from rfl, nI_leI (by omega) (by omega)]
  refine ⟨fun c7 => v318 (Or.inl (by omega)) _, fun c7 => ⟨fun c8 => v318 (Or.inr c8) _, fun c8 => ⟨rfl, ?_⟩⟩⟩
  obtain ⟨rfl, g1, g2, g3, B, en⟩ := st.resolve_left fun a => c8 a.1
  rw [show (256 : Int32) = nI 256 from rfl, pk_div (by omega) (by decide) (by decide)]
  refine ⟨_, S_rowOf (k / 256) (by omega), fun v8 h7 hp => ?_⟩
  obtain ⟨e1, e2⟩ := hp
  obtain rfl := e1.symm
  subst e2
  have ei : (4608 : Int32) + nI 256 * nI (if k / 256 % 2 = 0 then k / 256 / 2 else 3 + k / 256 / 2) + (nI k - nI (k / 256) * nI 256) = nI (ix3 k) := by
    have : k / 256 * 256 ≤ k := Nat.div_mul_le_self k 256
    rw [pk_mul, pk_mul, pk_sub this, show (4608 : Int32) = nI 4608 from rfl, nI_add, nI_add]
    congr 1
    unfold ix3 r3
    omega
  have hx := ix3_lt (k := k) (by omega)
  rw [ei, k21, k9, nI_clamp (by omega), nI_clamp (by omega)]
  refine ⟨8000, rfl, vp_in_nI (by omega) (by decide), 6144, rfl, vp_in_nI (by omega) (by decide), fun h15 e15 y17 e17 => ?_⟩
  rw [b8_un, B k (by omega), ← getD_at (l := (subP src (q + 2) (q + n)).out) (i := k) (by omega)] at e15
  subst e15
  refine hL (1536 - (k + 1)) _ _ _ _ _ _ (by omega) ⟨rfl, rfl, rfl, rfl, X.w3 hx.1, k + 1, by rw [e17, nI_1], by omega, rfl, Or.inr ⟨rfl, g1, g2, g3, B.of (wI_cell (by decide)), fun j hj => ?_⟩⟩
  by_cases hjk : j = k
  · subst hjk; rw [wI_same]
  · rw [wI_idx (fun q => hjk (ix3_inj (by omega) (by omega) q))]; exact en j (by omega)
theorem M_g207 {w : Wd} {h hb h2 : Hp} {e p n q : Nat} {src : List Nat} (hT : tabHP src e p = .inr (n, q)) (he : q + n ≤ e ∧ e ≤ src.length) (hbV : EntV hb 1 (UBy, 4, 3) ∧ hb.1 102 3 = nI (src.getD q 0) ∧ hb.1 103 3 = nI (src.getD (q + 1) 0) ∧ MFr h hb) {L207 : Nat → Int32 → Int32 → Int32 → Hp → Prop} {L259 : Nat → Int32 → Int32 → Int32 → Int32 → Int32 → Hp → Prop} {m x0 : Nat} {x3 x4 x5 : Int32} (hL7 : ∀ a x3 x4 x5 h3, a < m → J7 h hb e src n q a 97 x3 x4 x5 h3 → L207 97 x3 x4 x5 h3) (hL9 : ∀ a x3 x4 x5 x7 x8 h3, a < m → J9 h e src n q a 97 x3 x4 x5 x7 x8 h3 → L259 97 x3 x4 x5 x7 x8 h3) (I : J7 h hb e src n q m x0 x3 x4 x5 h2) : V_X12_givenTable_207 w SH x0 x3 x4 x5 h2 L207 L259 (fun h1 => GtS e src p h1 ∧ MFr h h1) := by
  obtain ⟨rfl, rfl, rfl, rfl, tot, p', m', et, rfl, I⟩ := I
  have v232 : (¬ h2.1 97 6 = 0 ∨ h2.1 97 15 ≤ h2.1 97 14) → V_X12_givenTable_232 w SH 97 (nI q) (nI (q + n)) (nI e) h2 L207 L259 (fun h1 => GtS e src p h1 ∧ MFr h h1) := by
    intro hs
    obtain ⟨⟨pp, o, X, k⟩, F⟩ := I.stop hs
    have A := X.fa
    have A : Fa h2 tot.ft tot.pl := A
    have stl := subP_tl src (q + 2) (q + n)
    have G : GS h src (src.getD q 0) (src.getD (q + 1) 0) h2 := by
      refine ⟨X.r, hbV.1.fm F (by decide) (by decide) (by decide), X.t.2, by rw [F.2.2.1 102 (by decide) (by decide)]; exact hbV.2.1, by rw [F.2.2.1 103 (by decide) (by decide)]; exact hbV.2.2.1, fun j hj => ?_, ?_, hbV.2.2.2.tr (F.mf (by decide) (by decide) (by decide))⟩
      · have := X.tl j hj
        have this : h2.1 110 j = nI (tot.tl j) := this
        rw [this, et]
        show nI ((subP src (q + 2) (q + n)).tl j) = _
        rw [stl.1]
      · have := X.ac
        have this : ActV h2 tot.ac := this
        rw [et] at this
        have this : ActV h2 (subP src (q + 2) (q + n)).ac := this
        rw [stl.2] at this
        exact this
    have hft : tot.ft = (subP src (q + 2) (q + n)).ft := by rw [et]
    have hto : tot.out = (subP src (q + 2) (q + n)).out := by rw [et]
    have no : ¬ ((subP src (q + 2) (q + n)).ft = 0 ∧ (subP src (q + 2) (q + n)).out.length = 1536) → V_X12_givenTable_253 w SH 97 (nI q) (nI (q + n)) (nI e) h2 L207 L259 (fun h1 => GtS e src p h1 ∧ MFr h h1) := by
      intro ng y1 e1 y3 e3
      exact hL9 1536 _ _ _ _ _ _ (by omega) ⟨rfl, rfl, rfl, rfl, G, 0, e3, by omega, rfl, Or.inl ⟨e1, ng⟩⟩
    refine ⟨rfl, fun c => no fun a => c (A.eq.mpr (hft.trans a.1)), fun c => ?_⟩
    have q0 := A.eq.mp c
    obtain ⟨k1, k2⟩ := k q0
    have i23 : h2.1 97 23 = nI o.length := X.i23
    have hol := X.ol
    have hol : o.length ≤ 8000 ∧ ∀ b ∈ o, b < 256 := hol
    rw [k2, hto] at i23 hol
    rw [i23, show (1536 : Int32) = nI 1536 from rfl, nI_eq (by omega) (by omega)]
    refine ⟨fun c2 => no fun a => c2 a.2, fun c2 y1 e1 y3 e3 => hL9 1536 _ _ _ _ _ _ (by omega) ⟨rfl, rfl, rfl, rfl, G, 0, e3, by omega, rfl, Or.inr ⟨e1, hft.symm.trans q0, c2, hol.2, ?_, fun j hj => absurd hj (by omega)⟩⟩⟩
    have B := X.o
    have B : ByV h2 106 o := B
    rw [k2, hto] at B
    exact B
  refine ⟨rfl, fun c => v232 (Or.inl c), fun c => ⟨fun c2 => v232 (Or.inr c2), fun c2 => ?_⟩⟩
  obtain ⟨P, c1, k1⟩ := I.go (w := w) c c2
  refine ⟨P, c1, fun h7 hp => ?_⟩
  obtain ⟨a, ha, I7⟩ := k1 h7 hp
  exact hL7 (2000 + a) _ _ _ _ (by omega) ⟨rfl, rfl, rfl, rfl, tot, p', a, et, rfl, I7⟩
/-- the table's file, behind its head -/
theorem M_gsub {w : Wd} {h hb h1 : Hp} {e n q : Nat} {src : List Nat} {x3 x4 x5 : Int32} (ex : x3 = nI q ∧ x4 = nI (q + n) ∧ x5 = nI e) (X : MH hb 0 106 (q + n) false src UBy (UBy, 4, 3) (ost0 (q + 2) fun _ => 0)) {v : Int32} (hd : hdS (q + n) (headP false src (q + n) (q + 2)) v h1) (F : Fm [6, 7, 14] [] [] hb h1) : (¬ h1.1 97 6 = 0 → ∃ a, J7 h hb e src n q a 97 x3 x4 x5 h1) ∧ (h1.1 97 6 = 0 → (v &&& (4 : Int32) ≤ 0 → ∃ a, J7 h hb e src n q a 97 x3 x4 x5 h1) ∧ (¬ v &&& (4 : Int32) ≤ 0 → ∃ P : Hp → Prop, C_X12_appendix w SH 97 h1 P ∧ ∀ h2, P h2 → ∃ a, J7 h hb e src n q a 97 x3 x4 x5 h2)) := by
  obtain ⟨rfl, rfl, rfl⟩ := ex
  have F1 : Fm [6, 7, 14, 36, 37] [] [] hb h1 := F.mono (by decide) (by decide) (by decide)
  have W1 : Fm WK WSm AL hb h1 := F.mono (by decide) (by decide) (by decide)
  have mk : ∀ (h2 : Hp) (s : Ost) (p' : Nat), MH h2 0 106 (q + n) false src UBy (UBy, 4, 3) s → Fm WK WSm AL hb h2 → winsP false (UBy, 4, 3) UBy src (q + n) (q + n - s.fa) s = (subP src (q + 2) (q + n)).sfa p' → ∃ a, J7 h hb e src n q a 97 (nI q) (nI (q + n)) (nI e) h2 := by
    intro h2 s p' Y G ew
    exact ⟨_, rfl, rfl, rfl, rfl, _, p', _, ew, rfl, WI.fst Y G⟩
  cases hH : headP false src (q + n) (q + 2) with
  | inl x =>
    obtain ⟨f, q'⟩ := x
    rw [hH] at hd
    obtain ⟨-, A, hf, p', hp', V⟩ := hd
    have Y := X.hb F1 A V hp'
    refine ⟨fun _ => mk h1 _ p' Y W1 ?_, fun c => absurd (A.eq.mp c) hf⟩
    rw [winsP_stop (Or.inl hf)]
    have : subP src (q + 2) (q + n) = (ost0 (q + 2) fun _ => 0).bad f q' := by simp only [subP, hH]
    rw [this]; rfl
  | inr x =>
  obtain ⟨b, q'⟩ := x
  rw [hH] at hd
  obtain ⟨rfl, A, V⟩ := hd
  have hk := headP_ok hH
  have hb4 : b = 0 ∨ b = 4 := by
    rcases hk.2.2 with a | a | a
    · exact Or.inl a
    · exact Or.inr a
    · exact absurd a.1 (by decide)
  have es : subP src (q + 2) (q + n) = bodyP false (UBy, 4, 3) UBy src (q + n) b (ost0 q' fun _ => 0) := by simp only [subP, hH]
  have Y : MH h1 0 106 (q + n) false src UBy (UBy, 4, 3) (ost0 q' fun _ => 0) := X.hb F1 (f := 0) (q := 0) A V hk.2.1
  refine ⟨fun c => absurd (A.eq.mpr rfl) c, fun _ => ⟨fun c => ?_, fun c => ?_⟩⟩
  · rw [and4z (by omega)] at c
    refine mk h1 _ (subP src (q + 2) (q + n)).fa Y W1 ?_
    have : subP src (q + 2) (q + n) = winsP false (UBy, 4, 3) UBy src (q + n) (q + n - q') (ost0 q' fun _ => 0) := by
      rw [es]; unfold bodyP; rw [if_neg (by omega)]
      rfl
    rw [this]
    rfl
  · rw [and4z (by omega)] at c
    refine ⟨_, M_appendix (own := false) (tl := fun _ => 0) Y.r A V Y.i15 ⟨hk.2.1, Y.e.2⟩ Y.i19 Y.tl rfl, fun h2 hp => ?_⟩
    obtain ⟨ap, F2⟩ := hp
    have W2 : Fm WK WSm AL hb h2 := W1.tr (F2.mono (by decide) (by decide) (by decide))
    cases hA : apxP src (q + n) q' with
    | inl x =>
      obtain ⟨f, q2⟩ := x
      rw [hA] at ap
      obtain ⟨A2, hf, ⟨p', hp', V2⟩, t2⟩ := ap
      have G2 : Fm [6, 7, 14, 36, 37] [] [] h1 h2 := ⟨F2.1, F2.2.1, fun c h0 _ => by
        by_cases q : c = 110
        · rw [q]; exact t2
        · exact F2.2.2.1 c h0 (by simp; exact q), F2.2.2.2⟩
      refine mk h2 _ p' (Y.hb G2 A2 V2 hp') W2 ?_
      rw [winsP_stop (Or.inl hf)]
      have : subP src (q + 2) (q + n) = (ost0 q' fun _ => 0).bad f q2 := by
        rw [es]; unfold bodyP; rw [if_pos (by omega)]
        rw [show (ost0 q' fun _ => 0).fa = q' from rfl, hA]
      rw [this]; rfl
    | inr x =>
      obtain ⟨k, q2⟩ := x
      rw [hA] at ap
      obtain ⟨A2, V2, t2⟩ := ap
      have ka := apxP_ok hA
      have Y2 := Y.ap F2 A2 V2 ka.2 t2
      have es2 : subP src (q + 2) (q + n) = winsP false (UBy, 4, 3) UBy src (q + n) (q + n - q2) (((ost0 q' fun _ => 0).sfa q2).stl (cntP false (fun _ => 0) 6 k)) := by
        rw [es]; unfold bodyP; rw [if_pos (by omega)]
        rw [show (ost0 q' fun _ => 0).fa = q' from rfl, hA]
        rfl
      refine mk h2 _ (subP src (q + 2) (q + n)).fa Y2 W2 ?_
      rw [es2]
      rfl
