/-! the reference: open, from its beginning (my own) -/
theorem M_o118 {w : Wd} {h hA h1 : Hp} {row came old : List Nat} {g : Tb} {o : OI} {L54 : Nat → Int32 → Hp → Prop} {L147 : Nat → Hp → Prop} {L197 : Nat → Int32 → Hp → Prop} (Z : MZ h hA row came old g) (hob : ∀ b ∈ old, b < 256) (hL7 : ∀ a h3, a ≤ 20000 → N7 hA row old a 97 h3 → L147 97 h3) (M : MFr hA h1) {s : Ost} (X : MP h1 row.length row (openP old row).1 s) (p' : Nat) (et : winsP true (openP old row).1 old row row.length (row.length - s.fa) s = (openP old row).2.sfa p') : V_X12_open_118 w SH 97 h1 L54 L147 L197 (OpEndM h (row, came, old, g, o)) := by
  obtain ⟨z1, z2, z3, z4, z5, z6, z7, z8, z9⟩ := id Z
  have f1 := X.1.1
  have i5 : h1.1 97 5 = nI old.length := by rw [M.2.2.2.1 5 (by simp)]; exact z4.1
  have r4 := fx f1 97 4 100 (by decide +kernel)
  have r20 := fx f1 97 20 105 (by decide +kernel)
  refine ⟨rfl, fun h2 e2 h4 e4 h6 e6 h8 e8 => ?_⟩
  rw [r4] at e2
  have j5 : h2.1 97 5 = nI old.length := by rw [e2]; exact i5
  have j20 : h2.2.1 97 20 = 105 := by rw [e2, wR_cellx (by decide)]; exact r20
  rw [j5] at e4
  rw [j20] at e6
  subst e2; subst e4; subst e6; subst e8
  obtain ⟨Y, M8⟩ := X.begin r4 r20 i5 (z4.2.1.of (M.1 100 (by decide))) z4.2.2 hob rfl
  have hlr := X.1.2.2.2.1
  refine hL7 _ _ ?_ ⟨rfl, _, _, p', _, rfl, M.tr M8, et, WI.fst Y Fm.rf⟩
  split <;> omega
theorem and2z {b : Nat} (hb : b = 0 ∨ b = 2 ∨ b = 4 ∨ b = 6) : (nI b &&& (2 : Int32) ≤ 0) ↔ ¬ (b = 2 ∨ b = 6) := by
  rcases hb with rfl | rfl | rfl | rfl <;> decide
theorem M_o101 {w : Wd} {h hA h1 : Hp} {row came old : List Nat} {g : Tb} {o : OI} {L54 : Nat → Int32 → Hp → Prop} {L147 : Nat → Hp → Prop} {L197 : Nat → Int32 → Hp → Prop} (Z : MZ h hA row came old g) (hob : ∀ b ∈ old, b < 256) (hL7 : ∀ a h3, a ≤ 20000 → N7 hA row old a 97 h3 → L147 97 h3) (M : MFr hA h1) {s : Ost} (X : MP h1 row.length row (openP old row).1 s) (x1 : Int32) (hs : (s.ft ≠ 0 ∧ ∃ p', s = (openP old row).2.sfa p') ∨ (s.ft = 0 ∧ ∃ b, x1 = nI b ∧ (b = 0 ∨ b = 2 ∨ b = 4 ∨ b = 6) ∧ (∃ q tl, s = ost0 q tl ∧ tl 6 = 0) ∧ (openP old row).2 = bodyP true (openP old row).1 old row row.length b s)) : V_X12_open_101 w SH 97 x1 h1 L54 L147 L197 (OpEndM h (row, came, old, g, o)) := by
  obtain ⟨x1', x2', x3', x4', x5', x6', x7', x8', x9', x10', x11', A⟩ := id X
  rcases hs with ⟨hf, p', es⟩ | ⟨h0, b, rfl, hb, ⟨q, tl, es, h6⟩, eb⟩
  · refine ⟨rfl, fun _ => M_o118 Z hob hL7 M X p' ?_, fun c => absurd (A.eq.mp c) hf⟩
    rw [winsP_stop (Or.inl hf)]; exact es
  · have A0 : Fa h1 0 0 := ⟨by rw [A.1, h0], by decide, fun q => absurd rfl q⟩
    have hb8 : b < 8 := by omega
    rw [V_X12_open_101, and4z hb8]
    refine ⟨rfl, fun c => absurd (A.eq.mpr h0) c, fun _ => ⟨fun c => M_o118 Z hob hL7 M X (openP old row).2.fa ?_, fun c => ?_⟩⟩
    · have : (openP old row).2 = winsP true (openP old row).1 old row row.length (row.length - s.fa) s := by
        rw [eb]; unfold bodyP; rw [if_neg (by omega)]
      rw [← this]
    · have c4 : b = 4 ∨ b = 6 := by omega
      have i14 : h1.1 97 14 = nI s.fa := x5'.1
      refine ⟨_, M_appendix (own := true) (tl := s.tl) x1' A0 i14 x4'.1 x5'.2 x4'.2.2 x9' (by rw [es]; exact h6), fun h2 hp => ?_⟩
      obtain ⟨ap, F2⟩ := hp
      have M2 : MFr hA h2 := M.tr (F2.mf (by decide) (by decide) (by decide))
      cases hA' : apxP row row.length s.fa with
      | inl x =>
        obtain ⟨f, q2⟩ := x
        rw [hA'] at ap
        obtain ⟨A2, hf, ⟨p', hp', V2⟩, t2⟩ := ap
        have G2 : Fm [6, 7, 14, 36, 37] [] [] h1 h2 := ⟨F2.1, F2.2.1, fun c h0 _ => by
          by_cases q : c = 110
          · rw [q]; exact t2
          · exact F2.2.2.1 c h0 (by simp; exact q), F2.2.2.2⟩
        refine M_o118 Z hob hL7 M2 (X.hb G2 A2 V2 hp') p' ?_
        rw [winsP_stop (Or.inl hf)]
        have : (openP old row).2 = s.bad f q2 := by
          rw [eb]; unfold bodyP; rw [if_pos c4, hA']
        rw [this]; rfl
      | inr x =>
        obtain ⟨n, q2⟩ := x
        rw [hA'] at ap
        obtain ⟨A2, V2, t2⟩ := ap
        have ka := apxP_ok hA'
        have X2 : MP h2 row.length row (openP old row).1 ((s.sfa q2).stl (cntP true s.tl 6 n)) := by
          refine ⟨x1'.fm F2 (by decide), x2'.fm F2 (by decide) (by decide) (by decide), x3'.fm F2 (by decide) (by decide) (by decide), ⟨by rw [F2.2.2.2 15 (by decide)]; exact x4'.1, by rw [F2.2.2.2 18 (by decide)]; exact x4'.2.1, by rw [F2.2.2.2 19 (by decide)]; exact x4'.2.2⟩, ⟨V2, ka.2, x5'.2.2⟩, by rw [F2.2.1 108 (by decide)]; exact x6', by rw [F2.2.1 109 (by decide)]; exact x7', by rw [F2.2.2.2 29 (by decide)]; exact x8', t2, ⟨x10'.1.fm F2 (by decide) (by decide) (by decide) (by decide) (by decide), x10'.2⟩, x11', ⟨?_, ?_, fun q => absurd h0 q⟩⟩
          · rw [A2.1]; show nI 0 = nI s.ft; rw [h0]
          · show s.ft < 17; omega
        have : (openP old row).2 = winsP true (openP old row).1 old row row.length (row.length - q2) ((s.sfa q2).stl (cntP true s.tl 6 n)) := by
          rw [eb]; unfold bodyP; rw [if_pos c4, hA']
        refine M_o118 Z hob hL7 M2 X2 (openP old row).2.fa ?_
        show winsP true (openP old row).1 old row row.length (row.length - q2) ((s.sfa q2).stl (cntP true s.tl 6 n)) = _
        rw [← this]
def N5 (hA : Hp) (row : List Nat) (m x0 : Nat) (x1 : Int32) (h2 : Hp) : Prop := x0 = 97 ∧ ∃ k, x1 = nI k ∧ k ≤ 8 ∧ m = 100000 - k ∧ Sr h2 row ∧ EntV h2 1 (UBy, 4, 3) ∧ EntV h2 0 (UBy, 4, 3) ∧ (h2.1 97 15 = nI row.length ∧ h2.1 97 18 = nI 1 ∧ h2.1 97 19 = 1 ∧ h2.1 97 14 = nI 0 ∧ h2.1 97 31 = nI 0 ∧ h2.1 97 6 = nI 0) ∧ (∀ j, j < k → h2.1 110 j = nI 0) ∧ MFr hA h2
theorem M_o54 {w : Wd} {h hA h2 : Hp} {row came old : List Nat} {g : Tb} {o : OI} {L147 : Nat → Hp → Prop} {L197 : Nat → Int32 → Hp → Prop} (Z : MZ h hA row came old g) (hob : ∀ b ∈ old, b < 256) {m x0 : Nat} {x1 : Int32} (hL7 : ∀ a h3, a ≤ 20000 → N7 hA row old a 97 h3 → L147 97 h3) (I : N5 hA row m x0 x1 h2) : V_X12_open_54 w SH x0 x1 h2 (fun x0 x1 h3 => ∃ a, a < m ∧ N5 hA row a x0 x1 h3) L147 L197 (OpEndM h (row, came, old, g, o)) := by
  obtain ⟨rfl, k, rfl, hk, rfl, S2, V1, V0, ii, tz, M2⟩ := I
  have f2 := S2.1
  have hlr := S2.2.2.2.1
  have k30 := fx f2 97 30 110 (by decide +kernel)
  rw [V_X12_open_54, show (8 : Int32) = nI 8 from rfl, nI_leI (by omega) (by omega), k30, nI_clamp (by omega)]
  refine ⟨fun c7 => ⟨rfl, _, M_noCaches f2, fun h6 hp => ?_⟩, fun c7 => ⟨rfl, 8, rfl, vp_in_nI (by omega) (by decide), fun h24 e24 y26 e26 => ?_⟩⟩
  · have hk8 : k = 8 := by omega
    subst hk8
    obtain ⟨n1, n2, n3, F6⟩ := hp
    have M6 : MFr hA h6 := M2.tr (F6.mf (by decide) (by decide) (by decide))
    have X6 : MP h6 row.length row (UBy, 4, 3) (ost0 0 fun _ => 0) := by
      refine ⟨S2.fm F6 (by decide), V1.fm F6 (by decide) (by decide) (by decide), V0.fm F6 (by decide) (by decide) (by decide), ⟨by rw [F6.2.2.2 15 (by decide)]; exact ii.1, by rw [F6.2.2.2 18 (by decide)]; exact ii.2.1, by rw [F6.2.2.2 19 (by decide)]; exact ii.2.2.1⟩, ⟨by rw [F6.2.2.2 14 (by decide)]; exact ii.2.2.2.1, Nat.zero_le _, Nat.le_refl _⟩, n1, n2, n3, by rw [F6.2.2.1 110 (by decide) (by decide)]; exact tz, ⟨⟨by rw [F6.2.2.2 31 (by decide)]; exact ii.2.2.2.2.1, by simp, fun i hi => absurd hi (by simp)⟩, rfl, rfl, rfl, rfl, rfl⟩, GoodU, ⟨by rw [F6.2.2.2 6 (by decide)]; exact ii.2.2.2.2.2, by show (0 : Nat) < 17; decide, fun q => absurd rfl q⟩⟩
    have A6 : Fa h6 0 0 := X6.2.2.2.2.2.2.2.2.2.2.2
    refine ⟨_, M_head (own := true) X6.1 A6 X6.2.2.2.2.1.1 X6.2.2.2.1.1 ⟨Nat.zero_le _, Nat.le_refl _⟩, fun v11 h10 hp y12 e12 => ?_⟩
    subst e12
    obtain ⟨hd, F10⟩ := hp
    have hd : hdS row.length (headP true row row.length 0) y12 h10 := hd
    have G10 : Fm [6, 7, 14, 36, 37] [] [] h6 h10 := F10.mono (by decide) (by decide) (by decide)
    have M10 : MFr hA h10 := M6.tr (F10.mf (by decide) (by decide) (by decide))
    cases hH : headP true row row.length 0 with
    | inl x =>
      obtain ⟨f, q⟩ := x
      rw [hH] at hd
      obtain ⟨rfl, A, hf, p', hp', V⟩ := hd
      have hO : openP old row = ((UBy, 4, 3), (ost0 0 fun _ => 0).bad f q) := by simp only [openP, hH]
      have X10 := X6.hb G10 A V hp'
      refine ⟨fun _ => M_o101 Z hob hL7 M10 (s := ((ost0 0 fun _ => 0).sfa p').bad f q) (by rw [hO]; exact X10) _ (Or.inl ⟨hf, p', by rw [hO]; rfl⟩), fun c => absurd (A.eq.mp c) hf⟩
    | inr x =>
    obtain ⟨b, q⟩ := x
    rw [hH] at hd
    obtain ⟨rfl, A, V⟩ := hd
    have hk := headP_ok hH
    have hb : b = 0 ∨ b = 2 ∨ b = 4 ∨ b = 6 := by
      rcases hk.2.2 with a | a | ⟨-, a⟩ <;> omega
    have X10 : MP h10 row.length row (UBy, 4, 3) (ost0 q fun _ => 0) := X6.hb G10 A V hk.2.1
    rw [and2z hb]
    refine ⟨fun c => absurd (A.eq.mpr rfl) c, fun _ => ⟨fun c => ?_, fun c => ?_⟩⟩
    · have hO : openP old row = ((UBy, 4, 3), bodyP true (UBy, 4, 3) old row row.length b (ost0 q fun _ => 0)) := by
        simp only [openP, hH]
        rw [if_neg c]
      exact M_o101 Z hob hL7 M10 (s := ost0 q fun _ => 0) (by rw [hO]; exact X10) _ (Or.inr ⟨rfl, b, rfl, hb, ⟨q, _, rfl, rfl⟩, by rw [hO]⟩)
    · have hb2 : b = 2 ∨ b = 6 := Decidable.not_not.mp c
      have B10 : ByV h10 104 UBy := Z.2.2.2.2.2.2.1.of (M10.1 104 (by decide))
      refine ⟨_, M_givenT X10 B10, fun h19 hp => ?_⟩
      obtain ⟨gt, M19⟩ := hp
      have M19' := M10.tr M19
      unfold GtS at gt
      cases hT : tabHP row row.length q with
      | inl x =>
        obtain ⟨f, q'⟩ := x
        rw [hT] at gt
        obtain ⟨hf, p', X19⟩ := gt
        have hO : openP old row = ((UBy, 4, 3), (ost0 q fun _ => 0).bad f q') := by
          simp only [openP, hH]
          rw [if_pos hb2, hT]
        exact M_o101 Z hob hL7 M19' (s := ((ost0 q fun _ => 0).sfa p').bad f q') (by rw [hO]; exact X19) _ (Or.inl ⟨hf, p', by rw [hO]; rfl⟩)
      | inr x =>
      obtain ⟨n, q'⟩ := x
      rw [hT] at gt
      have gt : (if (subP row (q' + 2) (q' + n)).ft = 0 ∧ (subP row (q' + 2) (q' + n)).out.length = 1536 ∧ goodB ((subP row (q' + 2) (q' + n)).out, row.getD q' 0, row.getD (q' + 1) 0) = true then MP h19 row.length row ((subP row (q' + 2) (q' + n)).out, row.getD q' 0, row.getD (q' + 1) 0) (ost0 (q' + n) (cntP true (fun _ => 0) 7 1)) else ∃ p', MP h19 row.length row (UBy, 4, 3) (((ost0 q fun _ => 0).sfa p').bad 5 q')) := gt
      by_cases cd : (subP row (q' + 2) (q' + n)).ft = 0 ∧ (subP row (q' + 2) (q' + n)).out.length = 1536 ∧ goodB ((subP row (q' + 2) (q' + n)).out, row.getD q' 0, row.getD (q' + 1) 0) = true
      · rw [if_pos cd] at gt
        have hO : openP old row = (((subP row (q' + 2) (q' + n)).out, row.getD q' 0, row.getD (q' + 1) 0), bodyP true ((subP row (q' + 2) (q' + n)).out, row.getD q' 0, row.getD (q' + 1) 0) old row row.length b (ost0 (q' + n) (cntP true (fun _ => 0) 7 1))) := by
          simp only [openP, hH]
          rw [if_pos hb2, hT]
          simp only []
          rw [if_pos cd]
        exact M_o101 Z hob hL7 M19' (s := ost0 (q' + n) (cntP true (fun _ => 0) 7 1)) (by rw [hO]; exact gt) _ (Or.inr ⟨rfl, b, rfl, hb, ⟨_, _, rfl, rfl⟩, by rw [hO]⟩)
      · rw [if_neg cd] at gt
        obtain ⟨p', X19⟩ := gt
        have hO : openP old row = ((UBy, 4, 3), (ost0 q fun _ => 0).bad 5 q') := by
          simp only [openP, hH]
          rw [if_pos hb2, hT]
          simp only []
          rw [if_neg cd]
        exact M_o101 Z hob hL7 M19' (s := ((ost0 q fun _ => 0).sfa p').bad 5 q') (by rw [hO]; exact X19) _ (Or.inl ⟨by show (5 : Nat) ≠ 0; decide, p', by rw [hO]; rfl⟩)
  · have F24 : Fm [] [110] [] h2 h24 := by rw [e24]; exact Fm.rf.putC (by decide) (by decide)
    have k97 : h24.1 97 = h2.1 97 := by rw [e24, wI_cell (by decide)]
    refine ⟨100000 - (k + 1), by omega, rfl, k + 1, by rw [e26, nI_1], by omega, rfl, S2.fm F24 (by decide), V1.fm F24 (by decide) (by decide) (by decide), V0.fm F24 (by decide) (by decide) (by decide), by rw [k97]; exact ii, fun j hj => ?_, M2.tr (F24.mf (by decide) (by decide) (by decide))⟩
    rw [e24, wI_if]
    split
    · rfl
    · exact tz j (by omega)
theorem M_open {w : Wd} {h : Hp} {s : St} (X : MS h s) : C_X12_open w SH 97 h (OpEndM h s) := by
  obtain ⟨row, came, old, g, o⟩ := s
  obtain ⟨f, ⟨a1, a2, a3⟩, ⟨o1, o2, o3, o4, o5, o6, o7, o8, o9⟩⟩ := X
  have k0 := fx f 97 0 98 (by decide +kernel)
  have hA0 : Hp := h
  have key : ∀ h10 : Hp, h10 = wI (wI (wR (wI (wI h 97 6 0) 97 8 (-1)) 97 13 98) 97 14 0) 97 15 (nI row.length) → MZ h h10 row came old g ∧ h10.1 97 6 = nI 0 ∧ h10.1 97 14 = nI 0 ∧ h10.1 97 15 = nI row.length ∧ h10.2.1 97 13 = 98 := by
    intro h10 e10
    have ci : ∀ c, c ≠ 97 → h10.1 c = h.1 c := by
      intro c hc
      rw [e10, wI_cell hc, wI_cell hc]
      show (wI (wI h 97 6 0) 97 8 (-1)).1 c = _
      rw [wI_cell hc, wI_cell hc]
    have ck : ∀ k, k ≠ 6 → k ≠ 8 → k ≠ 14 → k ≠ 15 → h10.1 97 k = h.1 97 k := by
      intro k a b c d
      rw [e10, wI_idx d, wI_idx c]
      show (wI (wI h 97 6 0) 97 8 (-1)).1 97 k = _
      rw [wI_idx b, wI_idx a]
    have rr : ∀ c k, (c, k) ≠ (97, 13) → h10.2.1 c k = h.2.1 c k := by
      intro c k a
      rw [e10]
      show (wR (wI (wI h 97 6 0) 97 8 (-1)) 97 13 98).2.1 c k = _
      rw [wR_cellx a]; rfl
    have VV : ∀ t T, EntV h t T → EntV h10 t T := fun t T V => V.of (fun k _ => by rw [ci 101 (by decide)]) (by rw [ci 102 (by decide)]) (by rw [ci 103 (by decide)])
    refine ⟨⟨fun z hz => ?_, ⟨by rw [ck 1 (by decide) (by decide) (by decide) (by decide)]; exact a1.1, a1.2.1.of (ci 98 (by decide)), a1.2.2⟩, ⟨by rw [ck 3 (by decide) (by decide) (by decide) (by decide)]; exact a2.1, a2.2.1.of (ci 99 (by decide)), a2.2.2⟩, ⟨by rw [ck 5 (by decide) (by decide) (by decide) (by decide)]; exact a3.1, a3.2.1.of (ci 100 (by decide)), a3.2.2⟩, VV _ _ o1, VV _ _ o2, o4.of (ci 104 (by decide)), ?_, fun c hc => ?_⟩, ?_, ?_, ?_, ?_⟩
    · rw [rr z.1 z.2.1 (fun a => (show ∀ z ∈ FINS, (z.1, z.2.1) ≠ (97, 13) by decide +kernel) z hz a)]; exact f z hz
    · rw [e10, wI_idx (by decide), wI_idx (by decide)]
      show (wI (wI h 97 6 0) 97 8 (-1)).1 97 8 = _
      rw [wI_same]
    · have nc : ¬ (97 ≤ c ∧ c ≤ 125) := fun q => hc (mem_M q.1 q.2)
      refine ⟨ci c (by omega), funext fun k => rr c k (fun a => ?_), by rw [e10]; rfl⟩
      have : c = 97 := (Prod.mk.injEq .. ▸ a : c = 97 ∧ k = 13).1
      omega
    · rw [e10, wI_idx (by decide), wI_idx (by decide)]
      show (wI (wI h 97 6 0) 97 8 (-1)).1 97 6 = _
      rw [wI_idx (by decide), wI_same]; rfl
    · rw [e10, wI_idx (by decide), wI_same]; rfl
    · rw [e10, wI_same]
    · rw [e10]
      show (wR (wI (wI h 97 6 0) 97 8 (-1)) 97 13 98).2.1 97 13 = _
      rw [wR_samex]
  generalize eA : wI (wI (wR (wI (wI h 97 6 0) 97 8 (-1)) 97 13 98) 97 14 0) 97 15 (nI row.length) = hA at key
  obtain ⟨Z, z6, z14, z15, z13⟩ := key hA rfl
  have rb : ∀ b ∈ row, b < 256 := fun b hb => by
    obtain ⟨j, hj, rfl⟩ := List.getElem_of_mem hb
    rw [← a1.2.1 j hj]; exact un_lt _
  have ob : ∀ b ∈ old, b < 256 := fun b hb => by
    obtain ⟨j, hj, rfl⟩ := List.getElem_of_mem hb
    rw [← a3.2.1 j hj]; exact un_lt _
  refine K_X12_open nlt_wf (N5 hA row) (N7 hA row old) (N9 h row came old g) ?_ ?_ ?_ ?_
  · refine ⟨rfl, fun h2 e2 h4 e4 h6 e6 h8 e8 h10 e10 => ?_⟩
    have e8' : h8.1 97 1 = nI row.length := by
      rw [e8, wI_idx (by decide), e6]
      show h4.1 97 1 = _
      rw [e4, wI_idx (by decide), e2, wI_idx (by decide)]; exact a1.1
    rw [e8'] at e10
    rw [k0] at e6
    have eh : h10 = hA := by rw [e10, e8, e6, e4, e2]; exact eA
    subst eh
    refine ⟨_, S_takeTable Z.1 0 1 (by decide) (by decide) (by decide), fun h15 K h16 e16 h18 e18 h20 e20 y22 e22 => ?_⟩
    have F20 : Fm [18, 19, 31] [] [] h15 h20 := by
      rw [e20, e18, e16]; exact ((Fm.rf.put (by decide)).put (by decide)).put (by decide)
    have c97 : h15.1 97 = h10.1 97 := K.1.2.2 97 (by decide)
    have S15 : Sr h15 row := ⟨Z.1.fr K.1, by rw [K.1.1]; exact z13, Z.2.1.2.1.of (K.1.2.2 98 (by decide)), Z.2.1.2.2, rb⟩
    refine ⟨100000, rfl, 0, e22, by omega, rfl, S15.fm F20 (by decide), (K.to Z.2.2.2.2.1).fm F20 (by decide) (by decide) (by decide), (K.other Z.2.2.2.2.1 (by decide)).fm F20 (by decide) (by decide) (by decide), ⟨?_, ?_, ?_, ?_, ?_, ?_⟩, fun j hj => absurd hj (by omega), (K.mf (Or.inl rfl)).tr (F20.mf (by decide) (by decide) (by decide))⟩
    · rw [F20.2.2.2 15 (by decide), c97]; exact z15
    · rw [e20, wI_idx (by decide), e18, wI_idx (by decide), e16, wI_same]; rfl
    · rw [e20, wI_idx (by decide), e18, wI_same]
    · rw [F20.2.2.2 14 (by decide), c97]; exact z14
    · rw [e20, wI_same]; rfl
    · rw [F20.2.2.2 6 (by decide), c97]; exact z6
  · intro m x0 x1 h2 I
    have hm : 99992 ≤ m := by
      obtain ⟨-, k, -, hk, hm, -⟩ := id I
      omega
    have hx : x0 = 97 := I.1
    subst hx
    exact M_o54 Z ob (fun a h3 ha j => ⟨a, by omega, j⟩) I
  · intro m x0 h2 I
    have hx : x0 = 97 := I.1
    subst hx
    exact M_o147 Z (fun a h3 ha j => ⟨a, ha, j⟩) (fun a x2 h3 ha j => ⟨a, ha, j⟩) I
  · intro m x0 x2 h2 I
    exact M_o197 I
theorem open_ok : OpenOk := ⟨openF, fun w h s X => S_open X, fun w h s X => M_open X⟩
