/-! the class: moves and the codes' index (my own) -/
theorem S_layF {w : Wd} {h : Hp} {r1 a1 N1 r2 a2 N2 : Nat} {b1 b2 : List Nat} {l1 l2 : Bool} {sp0 : List Nat} {lo0 : Bool} (f : Fin h) (R : RowV SH h 29 30 6048 sp0 lo0) (R1 : RowV SH h r1 a1 N1 b1 l1) (R2 : RowV SH h r2 a2 N2 b2 l2) (n1 : r1 ≠ 29 ∧ r1 ≠ 30 ∧ a1 ≠ 29 ∧ a1 ≠ 30) (n2 : r2 ≠ 29 ∧ r2 ≠ 30 ∧ a2 ≠ 29 ∧ a2 ≠ 30) (p1 k1 p2 k2 : Nat) (h1 : p1 + k1 ≤ b1.length) (h2 : p2 + k2 ≤ b2.length) (hs' : k1 + k2 ≤ 6048) : C_X3_lay w SH 28 r1 (nI p1) (nI k1) r2 (nI p2) (nI k2) h (fun h1 => FnV h1 ((b1.drop p1).take k1 ++ (b2.drop p2).take k2) 0 ∧ Fr [28, 29, 30, 31] h h1) := by
  have k0 := fx f 28 0 29 (by decide +kernel)
  have kk := fx f 28 1 31 (by decide +kernel)
  refine K_X3_lay ⟨rfl, by rw [k0]; rfl, _, by rw [k0]; exact S_clear R, fun h6 hp => ?_⟩
  obtain ⟨Ra, Fa'⟩ := hp
  have fa := f.fr Fa'
  refine ⟨by rw [fx fa 28 0 29 (by decide +kernel)]; rfl, _, by rw [fx fa 28 0 29 (by decide +kernel)]; exact S_append Ra (R1.fr Fa' (by simp; omega) (by simp; omega)) p1 k1 h1, fun h11 hp => ?_⟩
  obtain ⟨Rb, Fb⟩ := hp
  have fb := fa.fr Fb
  have e1 : ((b1.drop p1).take k1).length = k1 := by simp; omega
  have e2 : ((b2.drop p2).take k2).length = k2 := by simp; omega
  have ea : appL 6048 ([], false) ((b1.drop p1).take k1) = ((b1.drop p1).take k1, false) := by
    unfold appL
    simp only [List.length_nil, Nat.sub_zero, List.nil_append, Bool.false_or]
    rw [List.take_of_length_le (by omega), decide_eq_false (by omega)]
  rw [ea] at Rb
  have FF := (Fa'.mono (T := [28, 29, 30, 31]) (by simp)).tr1 (Fb.mono (by simp))
  refine ⟨by rw [fx fb 28 0 29 (by decide +kernel)]; rfl, _, by rw [fx fb 28 0 29 (by decide +kernel)]; exact S_append Rb ((R2.fr Fa' (by simp; omega) (by simp; omega)).fr Fb (by simp; omega) (by simp; omega)) p2 k2 h2, fun h16 hp => ?_⟩
  obtain ⟨Rc, Fc⟩ := hp
  have fc := fb.fr Fc
  have ec : appL 6048 ((b1.drop p1).take k1, false) ((b2.drop p2).take k2) = ((b1.drop p1).take k1 ++ (b2.drop p2).take k2, false) := by
    unfold appL
    simp only [Bool.false_or]
    rw [List.take_of_length_le (l := (b2.drop p2).take k2) (by omega), decide_eq_false (by omega)]
  rw [ec] at Rc
  refine ⟨_, by rw [fx fc 28 1 31 (by decide +kernel)]; exact S_fill rfl (by decide) (-1), fun h20 hp h21 e21 => ?_⟩
  obtain ⟨z, Fd⟩ := hp
  have F21 : Fr [28, 31] h16 h21 := by rw [e21]; exact (Fd.mono (by simp)).put (by simp)
  refine ⟨⟨fc.fr F21, Rc.fr F21 (by decide) (by decide), by rw [e21, wI_same]; rfl, Or.inl rfl, fun c hc => ?_, fun q hq => absurd hq (by omega)⟩, (FF.tr1 (Fc.mono (by simp))).tr1 (F21.mono (by simp))⟩
  rw [e21, wI_cell (by decide), z c hc]; rfl
def MvV (h : Hp) (L : List Sp3) (md : List Nat) : Prop := Fin h ∧ h.1 33 3 = nI L.length ∧ L.length ≤ 1024 ∧ md.length = L.length ∧ ∀ i, i < L.length → h.1 34 i = nI (L.getD i (0, 0, 0)).1 ∧ h.1 35 i = nI (L.getD i (0, 0, 0)).2.1 ∧ h.1 36 i = nI (md.getD i 0)
theorem MvV.fr {h h1 : Hp} {L : List Sp3} {md : List Nat} {S : List Nat} (X : MvV h L md) (F : Fr S h h1) (a : 33 ∉ S) (b : 34 ∉ S) (c : 35 ∉ S) (d : 36 ∉ S) : MvV h1 L md := by
  refine ⟨X.1.fr F, by rw [F.2.2 33 a]; exact X.2.1, X.2.2.1, X.2.2.2.1, ?_⟩
  rw [F.2.2 34 b, F.2.2 35 c, F.2.2 36 d]; exact X.2.2.2.2
theorem getD_snoc {α : Type} (L : List α) (x d : α) (i : Nat) : (L ++ [x]).getD i d = if i = L.length then x else L.getD i d := by
  rw [List.getD_eq_getElem?_getD, List.getD_eq_getElem?_getD]
  by_cases h : i < L.length
  · rw [List.getElem?_append_left h, if_neg (by omega)]
  · by_cases e : i = L.length
    · subst e; rw [if_pos rfl]; simp
    · rw [if_neg e, List.getElem?_eq_none (by simp; omega), List.getElem?_eq_none (by omega)]
theorem S_mpush {w : Wd} {h : Hp} {L : List Sp3} {md : List Nat} (X : MvV h L md) (hl : L.length < 1024) (k n a m : Nat) : C_X6_push w SH 33 (nI k) (nI n) (nI m) h (fun h1 => MvV h1 (L ++ [(k, n, a)]) (md ++ [m]) ∧ Fr [33, 34, 35, 36] h h1) := by
  obtain ⟨f, x3, xl, xm, xx⟩ := X
  have k0 := fx f 33 0 34 (by decide +kernel)
  have k1 := fx f 33 1 35 (by decide +kernel)
  have k2 := fx f 33 2 36 (by decide +kernel)
  refine K_X6_push ?_
  rw [V_X6_push_0, x3, show (1024 : Int32) = nI 1024 from rfl, nI_leI (by omega) (by omega), k0, k1, k2, nI_clamp (by omega)]
  refine ⟨rfl, fun c => absurd c (by omega), fun _ => ⟨1024, rfl, vp_in_nI hl (by decide), fun h6 e6 => ?_⟩⟩
  have y6 : h6.1 33 3 = nI L.length := by rw [e6, wI_cell (by decide)]; exact x3
  rw [y6, nI_clamp (by omega)]
  refine ⟨1024, rfl, vp_in_nI hl (by decide), fun h11 e11 => ?_⟩
  have y11 : h11.1 33 3 = nI L.length := by rw [e11, wI_cell (by decide)]; exact y6
  rw [y11, nI_clamp (by omega)]
  refine ⟨1024, rfl, vp_in_nI hl (by decide), fun h16 e16 h18 e18 => ?_⟩
  have y16 : h16.1 33 3 = nI L.length := by rw [e16, wI_cell (by decide)]; exact y11
  rw [y16, nI_1] at e18
  have F : Fr [33, 34, 35, 36] h h18 := by
    rw [e18, e16, e11, e6]
    exact (((Fr.rf.put (by simp)).put (by simp)).put (by simp)).put (by simp)
  refine ⟨⟨f.fr F, by rw [e18, wI_same]; congr 1; simp, by simp; omega, by simp; omega, fun i hi => ?_⟩, F⟩
  rw [getD_snoc, getD_snoc, xm]
  rw [e18, wI_cell (by decide), wI_cell (by decide), wI_cell (by decide), e16, wI_cell (by decide), wI_cell (by decide), wI_if, e11, wI_cell (by decide), wI_if, wI_cell (by decide), e6, wI_if, wI_cell (by decide), wI_cell (by decide)]
  by_cases e : i = L.length
  · rw [if_pos e, if_pos e, if_pos e, if_pos e, if_pos e]; exact ⟨rfl, rfl, rfl⟩
  · rw [if_neg e, if_neg e, if_neg e, if_neg e, if_neg e]
    simp at hi
    exact xx i (by omega)
theorem S_pushAdded {w : Wd} {h : Hp} {L : List Sp3} {md : List Nat} (X : MvV h L md) (hl : L.length < 1024) (hk : ∀ i, i < L.length → (L.getD i (0, 0, 0)).1 < 2 ^ 31 ∧ (L.getD i (0, 0, 0)).2.1 < 2 ^ 31) : C_X6_pushAdded w SH 33 h (fun h1 => MvV h1 (addS L) (if (lastS L).1 = 1 ∧ (lastS L).2.1 < 255 then md else md ++ [0]) ∧ Fr [33, 34, 35, 36] h h1) := by
  obtain ⟨f, x3, xl, xm, xx⟩ := id X
  have k0 := fx f 33 0 34 (by decide +kernel)
  have k1 := fx f 33 1 35 (by decide +kernel)
  have new : ¬ ((lastS L).1 = 1 ∧ (lastS L).2.1 < 255) → V_X6_pushAdded_46 w SH 33 h (fun h1 => MvV h1 (addS L) (if (lastS L).1 = 1 ∧ (lastS L).2.1 < 255 then md else md ++ [0]) ∧ Fr [33, 34, 35, 36] h h1) := by
    intro hn
    refine ⟨rfl, _, S_mpush X hl 1 1 0 0, fun h5 hp => ?_⟩
    unfold addS
    rw [if_neg hn, if_neg hn]
    exact hp
  refine K_X6_pushAdded ⟨rfl, fun y2 e2 => ?_⟩
  rw [x3] at e2
  by_cases h0 : L.length = 0
  · have hL : L = [] := List.length_eq_zero_iff.mp h0
    rw [h0] at e2
    have e2 : y2 = -1 := e2
    subst e2
    refine ⟨fun _ => new ?_, fun c => absurd (by decide) c⟩
    rw [hL]
    exact fun q => absurd q.1 (by decide)
  · rw [show L.length = (L.length - 1) + 1 by omega, nI_pred] at e2
    subst e2
    obtain ⟨g0, g1, -⟩ := xx (L.length - 1) (by omega)
    obtain ⟨b0, b1⟩ := hk (L.length - 1) (by omega)
    rw [k0, k1, nI_clamp (by omega), g0, g1, show (1 : Int32) = nI 1 from rfl, nI_eq (by omega) (by omega), show (255 : Int32) = nI 255 from rfl, nI_leI (by omega) (by omega)]
    refine ⟨fun c => absurd c (nI_pos (by omega)), fun _ => ⟨1024, rfl, vp_in_nI (by omega) (by decide), fun c => new fun q => c q.1, fun c1 => ⟨1024, rfl, vp_in_nI (by omega) (by decide), fun c => new fun q => absurd q.2 (by show ¬ (L.getD (L.length - 1) (0, 0, 0)).2.1 < 255; omega), fun c2 => ⟨vp_in_nI (by omega) (by decide), vp_in_nI (by omega) (by decide), fun h15 e15 => ?_⟩⟩⟩⟩
    have hm : (lastS L).1 = 1 ∧ (lastS L).2.1 < 255 := ⟨c1, by show (L.getD (L.length - 1) (0, 0, 0)).2.1 < 255; omega⟩
    have F : Fr [33, 34, 35, 36] h h15 := by rw [e15]; exact Fr.rf.put (by simp)
    rw [if_pos hm]
    unfold addS
    rw [if_pos hm]
    refine ⟨⟨f.fr F, by rw [e15, wI_cell (by decide), List.length_set]; exact x3, by rw [List.length_set]; exact xl, by rw [List.length_set]; exact xm, fun i hi => ?_⟩, F⟩
    rw [List.length_set] at hi
    have eg : (L.set (L.length - 1) (1, (lastS L).2.1 + 1, (lastS L).2.2)).getD i (0, 0, 0) = if i = L.length - 1 then (1, (lastS L).2.1 + 1, (lastS L).2.2) else L.getD i (0, 0, 0) := by
      rw [List.getD_eq_getElem?_getD, List.getElem?_set]
      by_cases e : L.length - 1 = i
      · rw [if_pos e, if_pos e.symm, if_pos (by omega)]; rfl
      · rw [if_neg e, if_neg (Ne.symm e), List.getD_eq_getElem?_getD]
    rw [eg, e15, wI_cell (by decide), wI_if, wI_cell (by decide), nI_add]
    obtain ⟨q0, q1, q2⟩ := xx i hi
    by_cases e : i = L.length - 1
    · rw [if_pos e, if_pos e]
      refine ⟨?_, rfl, q2⟩
      rw [q0, e, c1]
    · rw [if_neg e, if_neg e]; exact ⟨q0, q1, q2⟩
theorem movesP_get {L : List Sp3} {md : List Nat} {i : Nat} (h : i < L.length) : (movesP L md).getD i (0, 0, 0) = ((L.getD i (0, 0, 0)).1, (L.getD i (0, 0, 0)).2.1, md.getD i 0) := by
  unfold movesP
  rw [List.getD_eq_getElem?_getD, List.getElem?_map, List.getElem?_range h]
  rfl
theorem movesP_len (L : List Sp3) (md : List Nat) : (movesP L md).length = L.length := by unfold movesP; simp
/-- the kinds, sizes, modes are small -/
def Sml (L : List Sp3) (md : List Nat) : Prop := ∀ i, i < L.length → (L.getD i (0, 0, 0)).1 < 4 ∧ (L.getD i (0, 0, 0)).2.1 < 2 ^ 30 ∧ md.getD i 0 < 2 ^ 30
theorem S_sizeOf {w : Wd} {h : Hp} {L : List Sp3} {md : List Nat} (X : MvV h L md) (i : Nat) (hi : i < 2 ^ 31) : C_X6_sizeOf w SH 33 (nI i) h (fun v h1 => h1 = h ∧ v = nI (L.getD i (0, 0, 0)).2.1) := by
  obtain ⟨f, x3, xl, xm, xx⟩ := X
  refine K_X6_sizeOf ⟨fun c => absurd c (nI_pos hi), fun _ => ⟨rfl, ?_⟩⟩
  rw [x3, nI_leI (by omega) hi, fx f 33 1 35 (by decide +kernel), nI_clamp hi]
  refine ⟨fun c => ⟨rfl, ?_⟩, fun c => ⟨1024, rfl, vp_in_nI (by omega) (by decide), rfl, (xx i (by omega)).2.1⟩⟩
  rw [List.getD_eq_getElem?_getD, List.getElem?_eq_none (by omega)]; rfl
theorem S_isHalf {w : Wd} {h : Hp} {L : List Sp3} {md : List Nat} {t r a : Nat} {T : Tb} (X : MvV h L md) (V : TabV h t r a T) (sm : Sml L md) (i c hf n : Nat) (hi : i < 2 ^ 31) (hc : c < 256) (hh : hf = 0 ∨ hf = 3) (hn : n < 2 ^ 31) : C_X6_isHalf w SH 33 (nI i) t (nI c) (nI hf) (nI n) h (fun v h1 => h1 = h ∧ (v = 0 ∨ v = 1) ∧ (v = 1 ↔ (i < L.length ∧ tE T c hf = (L.getD i (0, 0, 0)).1 ∧ tE T c (hf + 1) = n ∧ tE T c (hf + 2) = md.getD i 0))) := by
  obtain ⟨f, x3, xl, xm, xx⟩ := X
  have k0 := fx f 33 0 34 (by decide +kernel)
  have k2 := fx f 33 2 36 (by decide +kernel)
  have bt := V.2.2.1.bys
  have no : ∀ {p : Prop}, ¬ p → h = h ∧ ((0 : Int32) = 0 ∨ (0 : Int32) = 1) ∧ ((0 : Int32) = 1 ↔ p) := fun q => ⟨rfl, Or.inl rfl, ⟨fun e => absurd e (by decide), fun e => absurd e q⟩⟩
  refine K_X6_isHalf ⟨fun c => absurd c (nI_pos hi), fun _ => ⟨rfl, ?_⟩⟩
  rw [x3, nI_leI (by omega) hi]
  refine ⟨fun c => no fun q => by omega, fun c7 => ⟨V.1, _, by rw [show (0 : Int32) = nI 0 from rfl, nI_add]; exact S_get V c (hf + 0) hc (by omega), fun v9 h8 hp => ?_⟩⟩
  obtain ⟨e1, e2⟩ := hp
  obtain rfl := e1.symm
  subst e2
  obtain ⟨g0, g1, g2⟩ := xx i (by omega)
  obtain ⟨s0, s1, s2⟩ := sm i (by omega)
  have b0 := getD_lt bt (cellT c (hf + 0))
  rw [k0, nI_clamp hi, g0, nI_eq (by omega) (by omega)]
  refine ⟨1024, rfl, vp_in_nI (by omega) (by decide), fun c8 => no fun q => c8 q.2.1, fun c8 => ⟨_, by rw [show (1 : Int32) = nI 1 from rfl, nI_add]; exact S_get V c (hf + 1) hc (by omega), fun v18 h17 hp => ?_⟩⟩
  obtain ⟨e1, e2⟩ := hp
  obtain rfl := e1.symm
  subst e2
  have b1 := getD_lt bt (cellT c (hf + 1))
  rw [nI_eq (by omega) hn]
  refine ⟨fun c9 => no fun q => c9 q.2.2.1, fun c9 => ⟨_, by rw [show (2 : Int32) = nI 2 from rfl, nI_add]; exact S_get V c (hf + 2) hc (by omega), fun v24 h23 hp => ?_⟩⟩
  obtain ⟨e1, e2⟩ := hp
  obtain rfl := e1.symm
  subst e2
  have b2 := getD_lt bt (cellT c (hf + 2))
  rw [k2, g2, nI_eq (by omega) (by omega)]
  exact ⟨1024, rfl, vp_in_nI (by omega) (by decide), fun c10 => no fun q => c10 q.2.2.2, fun c10 => ⟨rfl, Or.inr rfl, ⟨fun _ => ⟨by omega, c8, c9, c10⟩, fun _ => rfl⟩⟩⟩
/-! the codes by their size -/
def szB (T : Tb) (s c : Nat) : Bool := decide (tE T c 1 = s)
def IxV (h : Hp) (T : Tb) : Prop := Fin h ∧ (∀ s, s < 256 → h.1 38 s = enc (lf (szB T s) 256)) ∧ ∀ c, c < 256 → h.1 39 c = enc (lf (szB T (tE T c 1)) (255 - c))
theorem IxV.fr {h h1 : Hp} {T : Tb} {S : List Nat} (X : IxV h T) (F : Fr S h h1) (a : 38 ∉ S) (b : 39 ∉ S) : IxV h1 T := ⟨X.1.fr F, by rw [F.2.2 38 a]; exact X.2.1, by rw [F.2.2 39 b]; exact X.2.2⟩
theorem isB {w : Wd} {h : Hp} {n : Nat} (hn : n < 2 ^ 31) : C_X11_isByte w SH (nI n) h (fun v h1 => h1 = h ∧ v = if n < 256 then 1 else 0) := by
  have e : (if nI n < 0 ∨ 255 < nI n then (0 : Int32) else 1) = if n < 256 then 1 else 0 := by
    have a : ¬ nI n < 0 := nI_pos hn
    have b : (255 : Int32) < nI n ↔ 255 < n := by rw [show (255 : Int32) = nI 255 from rfl, nI_ltI (by decide) hn]
    by_cases q : n < 256
    · rw [if_neg (by rw [b]; rintro (x | x); exact a x; omega), if_pos q]
    · rw [if_pos (Or.inr (b.mpr (by omega))), if_neg q]
  have := S_isByte (w := w) (sh := SH) (h := h) (nI n)
  rw [e] at this
  exact this
theorem S_ixLay {w : Wd} {h : Hp} {t r a : Nat} {T : Tb} (f : Fin h) (V : TabV h t r a T) (nt : t ≠ 38 ∧ t ≠ 39 ∧ r ≠ 38 ∧ r ≠ 39 ∧ a ≠ 38 ∧ a ≠ 39) : C_X1_lay w SH 37 t h (fun h1 => IxV h1 T ∧ Fr [38, 39] h h1) := by
  have k0 := fx f 37 0 38 (by decide +kernel)
  have k1 := fx f 37 1 39 (by decide +kernel)
  refine K_X1_lay nlt_wf (fun m x0 x1 x2 h' => x0 = 37 ∧ x1 = t ∧ Fr [38, 39] h h' ∧ ∃ j, j ≤ 256 ∧ m = 256 - j ∧ x2 = nI (256 - j) + (-1) ∧ (∀ s, s < 256 → h'.1 38 s = enc (lf (szB T s) j)) ∧ ∀ c, c < 256 → 256 - j ≤ c → h'.1 39 c = enc (lf (szB T (tE T c 1)) (255 - c))) ?_ ?_
  · refine ⟨rfl, _, by rw [k0]; exact S_fill rfl (by decide) (-1), fun h5 hp y6 e6 => ?_⟩
    obtain ⟨z, F⟩ := hp
    exact ⟨256, rfl, rfl, F.mono (by simp), 0, by omega, rfl, by rw [e6]; rfl, fun s hs => z s hs, fun c h1 h2 => by omega⟩
  · rintro m x0 x1 x2 h' ⟨rfl, rfl, F, j, hj, rfl, rfl, hh, hl⟩
    by_cases h256 : j = 256
    · subst h256
      refine ⟨fun _ => ⟨⟨f.fr F, hh, fun c hc => hl c hc (by omega)⟩, F⟩, fun c => absurd (by decide) c⟩
    · rw [show 256 - j = (255 - j) + 1 by omega, pk_m1]
      have V' : TabV h' x1 r a T := V.ag ⟨F.2.2 _ (by simp; omega), by rw [F.1]⟩ ⟨F.2.2 _ (by simp; omega), by rw [F.1]⟩ (F.2.2 _ (by simp; omega))
      have bt := V.2.2.1.bys
      refine ⟨fun c => absurd c (nI_pos (by omega)), fun _ => ⟨V.1, _, S_get V' (255 - j) 1 (by omega) (by decide), fun v7 h6 hp y8 e8 => ?_⟩⟩
      obtain ⟨e1, e2⟩ := hp
      obtain rfl := e1.symm
      rw [e2] at e8
      have e8 : y8 = nI (tE T (255 - j) 1) := e8
      subst e8
      have bs : tE T (255 - j) 1 < 256 := getD_lt bt _
      refine ⟨_, isB (by omega), fun v14 h13 hp => ?_⟩
      obtain ⟨e1, e3⟩ := hp
      obtain rfl := e1.symm
      rw [if_pos bs] at e3
      subst e3
      refine ⟨fun c => absurd c (by decide), fun _ => ⟨rfl, ?_⟩⟩
      rw [F.1, k0, k1, nI_clamp (by omega), nI_clamp (by omega)]
      refine ⟨256, rfl, vp_in_nI bs (by decide), 256, rfl, vp_in_nI (by omega) (by decide), fun h23 e23 => ⟨vp_in_nI bs (by decide), fun h26 e26 y1 e1 => ?_⟩⟩
      refine ⟨256 - (j + 1), by omega, rfl, rfl, ?_, j + 1, by omega, rfl, by rw [e1, show 256 - (j + 1) = 255 - j by omega], fun s hs => ?_, fun c hc h1 => ?_⟩
      · rw [e26, e23]; exact (F.put (by simp)).put (by simp)
      · rw [e26, wI_if, e23, wI_cell (by decide), lf]
        by_cases e : s = tE T (255 - j) 1
        · rw [if_pos e, if_pos (by unfold szB; simp [e])]; rfl
        · rw [if_neg e, if_neg (by unfold szB; simp; exact Ne.symm e)]; exact hh s hs
      · rw [e26, wI_cell (by decide), e23, wI_if]
        by_cases e : c = 255 - j
        · rw [if_pos e, e, hh _ bs, show 255 - (255 - j) = j by omega]
        · rw [if_neg e]; exact hl c hc (by omega)
theorem S_ixHead {w : Wd} {h : Hp} {T : Tb} (X : IxV h T) (bt : ∀ b ∈ T.1, b < 256) (n : Nat) (hn : n < 2 ^ 31) : C_X1_head w SH 37 (nI n) h (fun v h1 => h1 = h ∧ v = enc (lf (szB T n) 256)) := by
  refine K_X1_head ⟨_, isB hn, fun v5 h4 hp => ?_⟩
  obtain ⟨e1, e2⟩ := hp
  obtain rfl := e1.symm
  subst e2
  by_cases q : n < 256
  · rw [if_pos q]
    refine ⟨fun c => absurd c (by decide), fun _ => ⟨rfl, ?_⟩⟩
    rw [fx X.1 37 0 38 (by decide +kernel), nI_clamp hn]
    exact ⟨256, rfl, vp_in_nI q (by decide), rfl, X.2.1 n q⟩
  · rw [if_neg q]
    refine ⟨fun _ => ⟨rfl, ?_⟩, fun c => absurd rfl c⟩
    have : lf (szB T n) 256 = none := (lf_none (Nat.le_refl _)).mpr fun c _ _ => by
      have : tE T c 1 < 256 := getD_lt bt _
      unfold szB
      simp
      omega
    rw [this]; rfl
/-- one step along a chain of codes -/
theorem lf_chain {T : Tb} {n j c : Nat} {P : Nat → Bool} (hj : j ≤ 256) (hP : ∀ c, P c = true → tE T c 1 = n) (h : lf (szB T n) j = some c) : c < 256 ∧ 256 - j ≤ c ∧ tE T c 1 = n ∧ lf P j = lf P (256 - c) ∧ lf P (256 - c) = (if P c = true then some c else lf P (255 - c)) := by
  obtain ⟨a, b, d⟩ := lf_lt hj h
  have d : tE T c 1 = n := by unfold szB at d; simpa using d
  refine ⟨a, b, d, lf_skip (by omega) hj fun c' h1 h2 => ?_, ?_⟩
  · have hn : lf (szB T n) j = lf (szB T n) j := rfl
    cases hPc : P c' with
    | false => rfl
    | true =>
      exfalso
      have e := hP c' hPc
      have key : ∀ {j : Nat}, j ≤ 256 → lf (szB T n) j = some c → 256 - j ≤ c' → c' < c → False := by
        intro j
        induction j with
        | zero => intro _ h; cases h
        | succ j ih =>
          intro hj h h1 h2
          rw [lf] at h
          split at h
          · injection h with h; omega
          · rename_i q
            by_cases e2 : c' = 255 - j
            · apply q
              unfold szB
              rw [← e2]; simp [e]
            · exact ih (by omega) h (by omega) h2
      exact key hj h h1 (by omega)
  · rw [show 256 - c = (255 - c) + 1 by omega, lf, show 255 - (255 - c) = c by omega]
theorem lf_chain0 {T : Tb} {n j : Nat} {P : Nat → Bool} (hj : j ≤ 256) (hP : ∀ c, P c = true → tE T c 1 = n) (h : lf (szB T n) j = none) : lf P j = none := by
  rw [lf_none hj] at h ⊢
  intro c h1 h2
  cases hPc : P c with
  | false => rfl
  | true =>
    have := h c h1 h2
    unfold szB at this
    simp [hP c hPc] at this
theorem fst_iff {T : Tb} {m : Mv} {n c : Nat} : fstB T m n c = true ↔ (tE T c 0 = m.1 ∧ tE T c 1 = n ∧ tE T c 2 = m.2.2) := by unfold fstB; simp
theorem S_pairCode {w : Wd} {h : Hp} {L : List Sp3} {md : List Nat} {t r a : Nat} {T : Tb} (X : IxV h T) (Y : MvV h L md) (V : TabV h t r a T) (sm : Sml L md) (i : Nat) (hi : i < L.length) : C_X1_pairCode w SH 37 t 33 (nI i) h (fun v h1 => h1 = h ∧ v = enc (lf (botB T (movesP L md) i) 256)) := by
  have bt := V.2.2.1.bys
  have hll := Y.2.2.1
  obtain ⟨s0, s1, s2⟩ := sm i hi
  generalize hn : (L.getD i (0, 0, 0)).2.1 = n at s1
  generalize hn2 : (L.getD (i + 1) (0, 0, 0)).2.1 = n2
  have hn2b : n2 < 2 ^ 30 := by
    by_cases q : i + 1 < L.length
    · rw [← hn2]; exact (sm (i + 1) q).2.1
    · rw [← hn2, List.getD_eq_getElem?_getD, List.getElem?_eq_none (by omega)]; decide
  have hB : ∀ c, botB T (movesP L md) i c = true ↔ ((tE T c 0 = (L.getD i (0, 0, 0)).1 ∧ tE T c 1 = n ∧ tE T c 2 = md.getD i 0) ∧ i + 1 < L.length ∧ tE T c 3 = (L.getD (i + 1) (0, 0, 0)).1 ∧ tE T c 4 = n2 ∧ tE T c 5 = md.getD (i + 1) 0) := by
    intro c
    unfold botB
    rw [Bool.and_eq_true, Bool.and_eq_true, fst_iff, movesP_len, movesP_get hi, hn]
    constructor
    · rintro ⟨⟨q1, q2⟩, q3⟩
      have q2 : i + 1 < L.length := by simpa using q2
      rw [movesP_get q2] at q3
      have q3 := of_decide_eq_true q3
      rw [hn2] at q3
      exact ⟨q1, q2, q3⟩
    · rintro ⟨q1, q2, q3⟩
      refine ⟨⟨q1, by simpa using q2⟩, ?_⟩
      rw [movesP_get q2, hn2]
      exact decide_eq_true q3
  have hP : ∀ c, botB T (movesP L md) i c = true → tE T c 1 = n := fun c q => ((hB c).mp q).1.2.1
  generalize botB T (movesP L md) i = P at hB hP
  have k1 := fx X.1 37 1 39 (by decide +kernel)
  refine K_X1_pairCode nlt_wf (fun m x0 x1 x2 x3 x4 x5 x6 x7 h' => x0 = 37 ∧ x1 = t ∧ x2 = 33 ∧ x3 = nI i ∧ x4 = nI n ∧ x5 = nI n2 ∧ h' = h ∧ ∃ j k, m = j ∧ j ≤ 256 ∧ k + j ≤ 256 ∧ x6 = enc (lf (szB T n) j) ∧ x7 = nI k ∧ lf P j = lf P 256) ?_ ?_
  · refine ⟨rfl, _, S_sizeOf Y i (by omega), fun v6 h5 hp y7 e7 => ?_⟩
    obtain ⟨e1, e2⟩ := hp
    obtain rfl := e1.symm
    rw [e2, hn] at e7
    refine ⟨_, by rw [nI_1]; exact S_sizeOf Y (i + 1) (by omega), fun v13 h12 hp y14 e14 => ?_⟩
    obtain ⟨e1, e3⟩ := hp
    obtain rfl := e1.symm
    rw [e3, hn2] at e14
    subst e7
    refine ⟨rfl, _, S_ixHead X bt n (by omega), fun v21 h20 hp y22 e22 y24 e24 => ?_⟩
    obtain ⟨e1, e4⟩ := hp
    obtain rfl := e1.symm
    rw [e4] at e22
    exact ⟨256, rfl, rfl, rfl, rfl, rfl, e14, rfl, 256, 0, rfl, by omega, by omega, e22, e24, rfl⟩
  · rintro m x0 x1 x2 x3 x4 x5 x6 x7 h' ⟨rfl, rfl, rfl, rfl, rfl, rfl, rfl, j, k, em, hj, hk, rfl, rfl, el⟩
    obtain rfl := em.symm
    rw [V_X1_pairCode_27, show (256 : Int32) = nI 256 from rfl, nI_leI (by omega) (by omega)]
    have none' : lf P j = none → h' = h' ∧ (-1 : Int32) = enc (lf P 256) := fun q => ⟨rfl, by rw [← el, q]; rfl⟩
    refine ⟨fun c7 => none' ?_, fun c7 => ?_⟩
    · rw [show j = 0 by omega]; rfl
    cases hC : lf (szB T n) j with
    | none => exact ⟨fun _ => none' (lf_chain0 hj hP hC), fun c => absurd (by decide) c⟩
    | some c =>
    obtain ⟨c1, c2, c3, c4, c5⟩ := lf_chain hj hP hC
    have nx : P c = false → V_X1_pairCode_81 w SH 37 x1 33 (nI i) (nI n) (nI n2) (nI c) (nI k) h' (fun x0 x1_1 x2 x3 x4 x5 x6 x7 h_1 => ∃ a, a < j ∧ x0 = 37 ∧ x1_1 = x1 ∧ x2 = 33 ∧ x3 = nI i ∧ x4 = nI n ∧ x5 = nI n2 ∧ h_1 = h' ∧ ∃ j k, a = j ∧ j ≤ 256 ∧ k + j ≤ 256 ∧ x6 = enc (lf (szB T n) j) ∧ x7 = nI k ∧ lf P j = lf P 256) (fun v h1 => h1 = h' ∧ v = enc (lf P 256)) := by
      intro q
      rw [V_X1_pairCode_81, k1, nI_clamp (by omega)]
      refine ⟨rfl, 256, rfl, vp_in_nI c1 (by decide), fun y5 e5 y7 e7 => ?_⟩
      refine ⟨255 - c, by omega, rfl, rfl, rfl, rfl, rfl, rfl, rfl, 255 - c, k + 1, rfl, by omega, by omega, ?_, by rw [e7, nI_1], ?_⟩
      · rw [e5, X.2.2 c c1, c3]
      · rw [← el, c4, c5, if_neg (by rw [q]; decide)]
    refine ⟨fun q => absurd q (nI_pos (by omega)), fun _ => ⟨fun q => absurd ((nI_leI (a := 256) (b := c) (by omega) (by omega)).mp q) (by omega), fun _ => ⟨rfl, _, S_isHalf Y V sm i c 0 n (by omega) c1 (Or.inl rfl) (by omega), fun v8 h7 hp => ?_⟩⟩⟩
    obtain ⟨e1, e2, e3⟩ := hp
    obtain rfl := e1.symm
    refine ⟨fun q => nx ?_, fun q => ⟨_, by rw [nI_1]; exact S_isHalf Y V sm (i + 1) c 3 n2 (by omega) c1 (Or.inr rfl) (by omega), fun v14 h13 hp => ?_⟩⟩
    · cases hPc : P c with
      | false => rfl
      | true =>
        have := e3.mpr ⟨hi, ((hB c).mp hPc).1⟩
        rw [q] at this
        exact absurd this (by decide)
    · obtain ⟨e1, e4, e5⟩ := hp
      obtain rfl := e1.symm
      refine ⟨fun q2 => nx ?_, fun q2 => ⟨rfl, ?_⟩⟩
      · cases hPc : P c with
        | false => rfl
        | true =>
          have := e5.mpr ((hB c).mp hPc).2
          rw [q2] at this
          exact absurd this (by decide)
      · have hPc : P c = true := (hB c).mpr ⟨(e3.mp (e2.resolve_left q)).2, e5.mp (e4.resolve_left q2)⟩
        rw [← el, c4, c5, if_pos hPc]
theorem S_singleCode {w : Wd} {h : Hp} {L : List Sp3} {md : List Nat} {t r a : Nat} {T : Tb} (X : IxV h T) (Y : MvV h L md) (V : TabV h t r a T) (sm : Sml L md) (i n : Nat) (hi : i < L.length) (hn : n < 2 ^ 30) : C_X1_singleCode w SH 37 t 33 (nI i) (nI n) h (fun v h1 => h1 = h ∧ v = enc (lf (alnB T ((movesP L md).getD i (0, 0, 0)) n) 256)) := by
  have bt := V.2.2.1.bys
  have hll := Y.2.2.1
  have hB : ∀ c, alnB T ((movesP L md).getD i (0, 0, 0)) n c = true ↔ (tE T c 3 = 0 ∧ tE T c 0 = (L.getD i (0, 0, 0)).1 ∧ tE T c 1 = n ∧ tE T c 2 = md.getD i 0) := by
    intro c
    unfold alnB
    rw [Bool.and_eq_true, fst_iff, movesP_get hi]
    simp
  have hP : ∀ c, alnB T ((movesP L md).getD i (0, 0, 0)) n c = true → tE T c 1 = n := fun c q => ((hB c).mp q).2.2.1
  generalize alnB T ((movesP L md).getD i (0, 0, 0)) n = P at hB hP
  have k1 := fx X.1 37 1 39 (by decide +kernel)
  refine K_X1_singleCode nlt_wf (fun m x0 x1 x2 x3 x4 x5 x6 h' => x0 = 37 ∧ x1 = t ∧ x2 = 33 ∧ x3 = nI i ∧ x4 = nI n ∧ h' = h ∧ ∃ j k, m = j ∧ j ≤ 256 ∧ k + j ≤ 256 ∧ x5 = enc (lf (szB T n) j) ∧ x6 = nI k ∧ lf P j = lf P 256) ?_ ?_
  · refine ⟨rfl, _, S_ixHead X bt n (by omega), fun v21 h20 hp y22 e22 y24 e24 => ?_⟩
    obtain ⟨e1, e4⟩ := hp
    obtain rfl := e1.symm
    rw [e4] at e22
    exact ⟨256, rfl, rfl, rfl, rfl, rfl, rfl, 256, 0, rfl, by omega, by omega, e22, e24, rfl⟩
  · rintro m x0 x1 x2 x3 x4 x5 x6 h' ⟨rfl, rfl, rfl, rfl, rfl, rfl, j, k, em, hj, hk, rfl, rfl, el⟩
    obtain rfl := em.symm
    rw [V_X1_singleCode_11, show (256 : Int32) = nI 256 from rfl, nI_leI (by omega) (by omega)]
    have none' : lf P j = none → h' = h' ∧ (-1 : Int32) = enc (lf P 256) := fun q => ⟨rfl, by rw [← el, q]; rfl⟩
    refine ⟨fun c7 => none' ?_, fun c7 => ?_⟩
    · rw [show j = 0 by omega]; rfl
    cases hC : lf (szB T n) j with
    | none => exact ⟨fun _ => none' (lf_chain0 hj hP hC), fun c => absurd (by decide) c⟩
    | some c =>
    obtain ⟨c1, c2, c3, c4, c5⟩ := lf_chain hj hP hC
    have nx : P c = false → V_X1_singleCode_59 w SH 37 x1 33 (nI i) (nI n) (nI c) (nI k) h' (fun x0 x1_1 x2 x3 x4 x5 x6 h_1 => ∃ a, a < j ∧ x0 = 37 ∧ x1_1 = x1 ∧ x2 = 33 ∧ x3 = nI i ∧ x4 = nI n ∧ h_1 = h' ∧ ∃ j k, a = j ∧ j ≤ 256 ∧ k + j ≤ 256 ∧ x5 = enc (lf (szB T n) j) ∧ x6 = nI k ∧ lf P j = lf P 256) (fun v h1 => h1 = h' ∧ v = enc (lf P 256)) := by
      intro q
      rw [V_X1_singleCode_59, k1, nI_clamp (by omega)]
      refine ⟨rfl, 256, rfl, vp_in_nI c1 (by decide), fun y5 e5 y7 e7 => ?_⟩
      refine ⟨255 - c, by omega, rfl, rfl, rfl, rfl, rfl, rfl, 255 - c, k + 1, rfl, by omega, by omega, ?_, by rw [e7, nI_1], ?_⟩
      · rw [e5, X.2.2 c c1, c3]
      · rw [← el, c4, c5, if_neg (by rw [q]; decide)]
    refine ⟨fun q => absurd q (nI_pos (by omega)), fun _ => ⟨fun q => absurd ((nI_leI (a := 256) (b := c) (by omega) (by omega)).mp q) (by omega), fun _ => ⟨V.1, _, S_get V c 3 c1 (by decide), fun v8 h7 hp => ?_⟩⟩⟩
    obtain ⟨e1, e2⟩ := hp
    obtain rfl := e1.symm
    subst e2
    have b3 : tE T c 3 < 256 := getD_lt bt _
    rw [show T.1.getD (cellT c 3) 0 = tE T c 3 from rfl, nIz (by omega)]
    refine ⟨fun q => nx ?_, fun q => ⟨rfl, _, S_isHalf Y V sm i c 0 n (by omega) c1 (Or.inl rfl) (by omega), fun v14 h13 hp => ?_⟩⟩
    · cases hPc : P c with
      | false => rfl
      | true => exact absurd ((hB c).mp hPc).1 q
    · obtain ⟨e1, e4, e5⟩ := hp
      obtain rfl := e1.symm
      refine ⟨fun q2 => nx ?_, fun q2 => ⟨rfl, ?_⟩⟩
      · cases hPc : P c with
        | false => rfl
        | true =>
          have := e5.mpr ⟨hi, ((hB c).mp hPc).2⟩
          rw [q2] at this
          exact absurd this (by decide)
      · have hPc : P c = true := (hB c).mpr ⟨q, (e5.mp (e4.resolve_left q2)).2⟩
        rw [← el, c4, c5, if_pos hPc]
