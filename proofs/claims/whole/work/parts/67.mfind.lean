/-! the reference finds its steps (my own) -/
def StV (h : Hp) (L : List Sp3) (md : List Nat) : Prop := h.1 97 51 = nI L.length ∧ ∀ i, i < L.length → h.1 119 i = nI (L.getD i (0, 0, 0)).1 ∧ h.1 120 i = nI (L.getD i (0, 0, 0)).2.1 ∧ ((L.getD i (0, 0, 0)).1 = 3 → h.1 121 i = nI (L.getD i (0, 0, 0)).2.2) ∧ h.1 122 i = nI (md.getD i 0)
theorem StV.fm {K S Q : List Nat} {h h1 : Hp} {L : List Sp3} {md : List Nat} (X : StV h L md) (F : Fm K S Q h h1) (a : 51 ∉ K) (b : 119 ∉ S ∧ 120 ∉ S ∧ 121 ∉ S ∧ 122 ∉ S) : StV h1 L md := by
  unfold StV
  rw [F.2.2.2 51 a, F.2.2.1 119 (by decide) b.1, F.2.2.1 120 (by decide) b.2.1, F.2.2.1 121 (by decide) b.2.2.1, F.2.2.1 122 (by decide) b.2.2.2]
  exact X
theorem M_step {w : Wd} {h : Hp} {L : List Sp3} (f : Fin h) (X : StV h L []) (hl : L.length < 2000) (k n a : Nat) (x : Int32) (hx : k = 3 → x = nI a) : C_X12_step w SH 97 (nI k) (nI n) x h (fun h1 => StV h1 (L ++ [(k, n, a)]) [] ∧ Fm [51] [119, 120, 121, 122] [] h h1) := by
  have k52 := fx f 97 52 119 (by decide +kernel)
  have k53 := fx f 97 53 120 (by decide +kernel)
  have k54 := fx f 97 54 121 (by decide +kernel)
  have k55 := fx f 97 55 122 (by decide +kernel)
  obtain ⟨X1, X2⟩ := X
  have hin : vp_in (nI L.length) 2100 := vp_in_nI (by omega) (by decide)
  refine K_X12_step ⟨rfl, 2100, by rw [k52]; rfl, by rw [X1]; exact hin, fun h5 e5 => ?_⟩
  rw [k52, X1, nI_clamp (by omega)] at e5
  have y5 : h5.1 97 51 = nI L.length := by rw [e5, wI_cell (by decide)]; exact X1
  refine ⟨2100, by rw [k53]; rfl, by rw [y5]; exact hin, fun h10 e10 => ?_⟩
  rw [k53, y5, nI_clamp (by omega)] at e10
  have y10 : h10.1 97 51 = nI L.length := by rw [e10, wI_cell (by decide)]; exact y5
  refine ⟨2100, by rw [k54]; rfl, by rw [y10]; exact hin, fun h15 e15 => ?_⟩
  rw [k54, y10, nI_clamp (by omega)] at e15
  have y15 : h15.1 97 51 = nI L.length := by rw [e15, wI_cell (by decide)]; exact y10
  refine ⟨2100, by rw [k55]; rfl, by rw [y15]; exact hin, fun h20 e20 h22 e22 => ?_⟩
  rw [k55, y15, nI_clamp (by omega)] at e20
  have y20 : h20.1 97 51 = nI L.length := by rw [e20, wI_cell (by decide)]; exact y15
  rw [y20, nI_1] at e22
  have c19 : h22.1 119 = (wI h 119 L.length (nI k)).1 119 := by
    rw [e22, wI_cell (by decide), e20, wI_cell (by decide), e15, wI_cell (by decide), e10, wI_cell (by decide), e5]
  have c20 : h22.1 120 = (wI h 120 L.length (nI n)).1 120 := by
    rw [e22, wI_cell (by decide), e20, wI_cell (by decide), e15, wI_cell (by decide), e10]
    funext j; rw [wI_if, wI_if, e5, wI_cell (by decide)]
  have c21 : h22.1 121 = (wI h 121 L.length x).1 121 := by
    rw [e22, wI_cell (by decide), e20, wI_cell (by decide), e15]
    funext j; rw [wI_if, wI_if, e10, wI_cell (by decide), e5, wI_cell (by decide)]
  have c22 : h22.1 122 = (wI h 122 L.length 0).1 122 := by
    rw [e22, wI_cell (by decide), e20]
    funext j; rw [wI_if, wI_if, e15, wI_cell (by decide), e10, wI_cell (by decide), e5, wI_cell (by decide)]
  refine ⟨⟨?_, fun i hi => ?_⟩, ?_⟩
  · rw [e22, wI_same, List.length_append]; rfl
  · rw [c19, c20, c21, c22, getD_snoc, wI_if, wI_if, wI_if, wI_if]
    by_cases e : i = L.length
    · rw [if_pos e, if_pos e, if_pos e, if_pos e, if_pos e]
      exact ⟨rfl, rfl, hx, rfl⟩
    · rw [if_neg e, if_neg e, if_neg e, if_neg e, if_neg e]
      exact X2 i (by simp at hi; omega)
  · rw [e22]
    refine Fm.put ?_ (by simp)
    rw [e20, e15, e10, e5]
    exact (((Fm.rf.putC (by decide) (by simp)).putC (by decide) (by simp)).putC (by decide) (by simp)).putC (by decide) (by simp)
theorem stepP_StI {sp : List Nat} {beg p : Nat} {L : List Sp3} (hl : sp.length ≤ 6048) (X : StI L) (e : p = beg + sS L) (hp : p < sp.length) : StI (stepP sp p L).2 ∧ (stepP sp p L).1 = beg + sS (stepP sp p L).2 := by
  have hr := runN_le hp
  have hf := findP_ok sp p
  unfold stepP
  split
  · rename_i q
    exact ⟨X.copy 2 _ 0 (Or.inl rfl) q.1 (by decide), by show p + runN sp p = beg + sS (L ++ [_]); rw [sS_snoc]; show _ = beg + (sS L + runN sp p); omega⟩
  split
  · rename_i q
    exact ⟨X.copy 3 _ _ (Or.inr rfl) (by omega) (by omega), by show p + (findP sp p).2 = beg + sS (L ++ [_]); rw [sS_snoc]; show _ = beg + (sS L + (findP sp p).2); omega⟩
  · have := X.add
    exact ⟨this.1, by show p + 1 = beg + sS (addS L); omega⟩
def bestV (x4 x5 : Int32) (b m : Nat) : Prop := (x4 = -1 ∧ x5 = 0 ∧ m = 0) ∨ (x4 = nI b ∧ x5 = nI m ∧ 4 ≤ m ∧ b < 8000 ∧ m < 8000)
/-- the space: segment and target -/
def SpV (h : Hp) (sp : List Nat) : Prop := ByV h 125 sp ∧ sp.length ≤ 6048
theorem SpV.fm {K S L : List Nat} {h h1 : Hp} {sp : List Nat} (X : SpV h sp) (F : Fm K S L h h1) (b : 125 ∉ S) : SpV h1 sp := ⟨F.by_ X.1 (by decide) b, X.2⟩
theorem SpV.eq {h : Hp} {sp : List Nat} (X : SpV h sp) {i j : Nat} (hi : i < sp.length) (hj : j < sp.length) : b8 (h.1 125 i) = b8 (h.1 125 j) ↔ sp.getD i 0 = sp.getD j 0 := by
  rw [un_eq_b8, X.1 i hi, X.1 j hj, getD_at hi, getD_at hj]
abbrev FK : List Nat := [119, 120, 121, 122]
theorem M_fs176 {w : Wd} {h : Hp} {sp : List Nat} {p : Nat} {L : List Sp3} {x4 x5 : Int32} {L17 : Nat → Int32 → Int32 → Hp → Prop} {L36 : Nat → Int32 → Int32 → Int32 → Int32 → Int32 → Int32 → Hp → Prop} {L58 : Nat → Int32 → Int32 → Int32 → Int32 → Int32 → Int32 → Int32 → Hp → Prop} {L144 : Nat → Int32 → Int32 → Int32 → Int32 → Int32 → Hp → Prop} {RET : Hp → Prop} (f : Fin h) (X : StV h L []) (I : StI L) (hs : sS L < 2048) (hp : p < sp.length) (hl : sp.length ≤ 6048) (hb : bestV x4 x5 (findP sp p).1 (findP sp p).2) (hL : ∀ h', StV h' (stepP sp p L).2 [] → Fm [51] FK [] h h' → L17 97 (nI (stepP sp p L).1) (nI sp.length) h') : V_X12_findSteps_176 w SH 97 (nI p) (nI sp.length) x4 x5 (nI (runN sp p)) h L17 L36 L58 L144 RET := by
  have hr := runN_le hp
  have hf := findP_ok sp p
  have hll := I.len (by omega)
  have k52 := fx f 97 52 119 (by decide +kernel)
  have k53 := fx f 97 53 120 (by decide +kernel)
  have hx5 : x5 = nI (findP sp p).2 := by rcases hb with ⟨_, b, c⟩ | ⟨_, b, _⟩ <;> rw [b]; rw [c]; rfl
  have v205 : ¬ (4 ≤ runN sp p ∧ (findP sp p).2 ≤ runN sp p) → V_X12_findSteps_205 w SH 97 (nI p) (nI sp.length) x4 x5 h L17 L36 L58 L144 RET := by
    intro hn
    have v278 : stepP sp p L = (p + 1, L ++ [(1, 1, 0)]) → V_X12_findSteps_278 w SH 97 (nI p) (nI sp.length) h L17 L36 L58 L144 RET := by
      intro es
      refine ⟨rfl, _, M_step f X (by omega) 1 1 0 _ (fun q => absurd q (by decide)), fun h5 hp5 y1 e1 => ?_⟩
      rw [es] at hL
      rw [nI_1] at e1
      subst e1
      exact hL h5 hp5.1 hp5.2
    refine ⟨fun c => ⟨rfl, fun y3 e3 => ?_⟩, fun c => ?_⟩
    · have hm : (findP sp p).2 = 0 := by
        rcases hb with ⟨_, _, c⟩ | ⟨b, _, _, hb8, _⟩
        · exact c
        · rw [b] at c; exact absurd c (nI_pos (by omega))
      have es : stepP sp p L = (p + 1, addS L) := by unfold stepP; rw [if_neg hn, if_neg (by omega)]
      rw [X.1] at e3
      by_cases h0 : L.length = 0
      · rw [h0] at e3
        have hL0 : L = [] := List.eq_nil_of_length_eq_zero h0
        subst hL0
        exact ⟨fun _ => v278 es, fun c2 => absurd (by rw [e3]; decide) c2⟩
      · rw [show (1 : Int32) = nI 1 from rfl, pk_sub (by omega)] at e3
        subst e3
        have X2 := X.2 (L.length - 1) (by omega)
        have hok := I.get (i := L.length - 1) (by omega)
        rw [show L.getD (L.length - 1) (0, 0, 0) = lastS L from rfl] at X2 hok
        refine ⟨fun c2 => absurd c2 (nI_pos (by omega)), fun _ => ⟨2100, by rw [k52]; rfl, vp_in_nI (by omega) (by decide), ?_, ?_⟩⟩
        · intro c3
          rw [k52, nI_clamp (by omega), X2.1] at c3
          apply v278
          rw [es]; unfold addS
          rw [if_neg fun q => c3 (by rw [q.1]; rfl)]
        · intro c3
          rw [k52, nI_clamp (by omega), X2.1, show (1 : Int32) = nI 1 from rfl, nI_eq (by rcases hok.1 with q | q <;> omega) (by omega)] at c3
          refine ⟨2100, by rw [k53]; rfl, vp_in_nI (by omega) (by decide), fun c4 => ?_, fun c4 => ⟨vp_in_nI (by omega) (by decide), vp_in_nI (by omega) (by decide), fun h16 e16 y1 e1 => ?_⟩⟩
          · rw [k53, nI_clamp (by omega), X2.2.1, show (255 : Int32) = nI 255 from rfl, nI_leI (by omega) (by rcases hok.1 with q | q <;> omega)] at c4
            apply v278
            rw [es]; unfold addS
            rw [if_neg (by omega)]
          · rw [k53, nI_clamp (by omega), X2.2.1, show (255 : Int32) = nI 255 from rfl, nI_leI (by omega) (by rcases hok.1 with q | q <;> omega)] at c4
            rw [k53, nI_clamp (by omega), X2.2.1, nI_1] at e16
            rw [es] at hL
            rw [nI_1] at e1
            subst e1; subst e16
            refine hL _ ?_ (Fm.rf.putC (by decide) (by simp))
            have ea : addS L = L.set (L.length - 1) (1, (lastS L).2.1 + 1, (lastS L).2.2) := by unfold addS; rw [if_pos ⟨c3, by omega⟩]
            show StV _ (addS L) []
            rw [ea]
            refine ⟨by rw [wI_cell (by decide), List.length_set]; exact X.1, fun i hi => ?_⟩
            rw [List.length_set] at hi
            have eg : (L.set (L.length - 1) (1, (lastS L).2.1 + 1, (lastS L).2.2)).getD i (0, 0, 0) = if i = L.length - 1 then (1, (lastS L).2.1 + 1, (lastS L).2.2) else L.getD i (0, 0, 0) := by
              rw [List.getD_eq_getElem?_getD, List.getElem?_set]
              by_cases q : L.length - 1 = i
              · rw [if_pos q, if_pos (by omega), if_pos q.symm]; rfl
              · rw [if_neg q, if_neg (Ne.symm q), List.getD_eq_getElem?_getD]
            have Xi := X.2 i hi
            rw [eg, wI_if, wI_cell (by decide), wI_cell (by decide), wI_cell (by decide)]
            by_cases q : i = L.length - 1
            · rw [if_pos q, if_pos q]
              refine ⟨?_, rfl, fun q3 => absurd q3 (by show ¬ (1 : Nat) = 3; decide), Xi.2.2.2⟩
              rw [q, X2.1, c3]
            · rw [if_neg q, if_neg q]; exact Xi
    · have hm : x4 = nI (findP sp p).1 ∧ 0 < (findP sp p).2 := by
        rcases hb with ⟨b, _, _⟩ | ⟨b, _, q, _⟩
        · rw [b] at c; exact absurd (by decide) c
        · exact ⟨b, by omega⟩
      have es : stepP sp p L = (p + (findP sp p).2, L ++ [(3, (findP sp p).2, (findP sp p).1)]) := by unfold stepP; rw [if_neg hn, if_pos hm.2]
      rw [hx5, hm.1]
      refine ⟨rfl, _, M_step f X (by omega) 3 _ _ _ (fun _ => rfl), fun h22 hp22 y23 e23 => ?_⟩
      rw [es] at hL
      rw [nI_add] at e23
      subst e23
      exact hL h22 hp22.1 hp22.2
  rw [V_X12_findSteps_176, show (4 : Int32) = nI 4 from rfl, nI_ltI (by omega) (by decide), hx5, nI_ltI (by omega) (by omega)]
  rw [hx5] at v205
  refine ⟨fun c => v205 (by omega), fun c => ⟨fun c2 => v205 (by omega), fun c2 => ?_⟩⟩
  have es : stepP sp p L = (p + runN sp p, L ++ [(2, runN sp p, 0)]) := by unfold stepP; rw [if_pos (by omega)]
  refine ⟨rfl, _, M_step f X (by omega) 2 _ 0 _ (fun q => absurd q (by decide)), fun h7 hp7 y8 e8 => ?_⟩
  rw [es] at hL
  rw [nI_add] at e8
  subst e8
  exact hL h7 hp7.1 hp7.2
theorem sameGo_step {sp : List Nat} {q p n : Nat} (h : p + n < sp.length) : sameGo sp q p (sp.length - p - n) n = if sp.getD (q + n) 0 = sp.getD (p + n) 0 then sameGo sp q p (sp.length - p - (n + 1)) (n + 1) else n := by
  rw [show sp.length - p - n = (sp.length - p - (n + 1)) + 1 by omega, sameGo]
theorem runGo_step {sp : List Nat} {p n : Nat} (h : p + n < sp.length) : runGo sp p (sp.length - p - n) n = if sp.getD (p + n) 0 = sp.getD p 0 then runGo sp p (sp.length - p - (n + 1)) (n + 1) else n := by
  rw [show sp.length - p - n = (sp.length - p - (n + 1)) + 1 by omega, runGo]
def scP (sp : List Nat) (p c l b m : Nat) : Nat × Nat := if p + 4 ≤ sp.length then scan sp p c l b m else (0, 0)
def fsA (sp : List Nat) (beg : Nat) (tot : List Sp3) (h : Hp) (m : Nat) (x0 : Nat) (x2 x3 : Int32) (h' : Hp) : Prop := x0 = 97 ∧ x3 = nI sp.length ∧ ∃ p L k, x2 = nI p ∧ p ≤ sp.length ∧ m = (sp.length - p) * 100000000 ∧ sp.length - p ≤ k ∧ StI L ∧ p = beg + sS L ∧ StV h' L [] ∧ stepsP sp k p L = tot ∧ Fm [51] FK [] h h'
def fsB (sp : List Nat) (beg : Nat) (tot : List Sp3) (h : Hp) (m : Nat) (x0 : Nat) (x2 x3 x4 x5 x6 x7 : Int32) (h' : Hp) : Prop := x0 = 97 ∧ x3 = nI sp.length ∧ ∃ p L k c l b mm, x2 = nI p ∧ p < sp.length ∧ m = (sp.length - p - 1) * 100000000 + 10000 * (c + 1) ∧ sp.length - p ≤ k ∧ StI L ∧ p = beg + sS L ∧ StV h' L [] ∧ stepsP sp k p L = tot ∧ Fm [51] FK [] h h' ∧ c ≤ p ∧ (x7 = -1 ∧ c = 0 ∨ x7 = nI (c - 1) ∧ 1 ≤ c) ∧ x6 = nI l ∧ l ≤ 16 ∧ bestV x4 x5 b mm ∧ scP sp p c l b mm = findP sp p ∧ (sp.length < p + 4 → b = 0 ∧ mm = 0)
def fsC (sp : List Nat) (beg : Nat) (tot : List Sp3) (h : Hp) (m : Nat) (x0 : Nat) (x2 x3 x4 x5 x6 x7 x8 : Int32) (h' : Hp) : Prop := x0 = 97 ∧ x3 = nI sp.length ∧ ∃ p L k c l b mm n, x2 = nI p ∧ p + 4 ≤ sp.length ∧ m = (sp.length - p - 1) * 100000000 + 10000 * (c + 1) + (7000 - n) ∧ sp.length - p ≤ k ∧ StI L ∧ p = beg + sS L ∧ StV h' L [] ∧ stepsP sp k p L = tot ∧ Fm [51] FK [] h h' ∧ c < p ∧ x7 = nI c ∧ x6 = nI l ∧ l < 16 ∧ bestV x4 x5 b mm ∧ scP sp p (c + 1) l b mm = findP sp p ∧ x8 = nI n ∧ p + n ≤ sp.length ∧ sameGo sp c p (sp.length - p - n) n = sameN sp c p
def fsD (sp : List Nat) (beg : Nat) (tot : List Sp3) (h : Hp) (m : Nat) (x0 : Nat) (x2 x3 x4 x5 x7 : Int32) (h' : Hp) : Prop := x0 = 97 ∧ x3 = nI sp.length ∧ ∃ p L k n, x2 = nI p ∧ p < sp.length ∧ m = (sp.length - p - 1) * 100000000 + (7000 - n) ∧ sp.length - p ≤ k ∧ StI L ∧ p = beg + sS L ∧ StV h' L [] ∧ stepsP sp k p L = tot ∧ Fm [51] FK [] h h' ∧ bestV x4 x5 (findP sp p).1 (findP sp p).2 ∧ x7 = nI n ∧ p + n ≤ sp.length ∧ runGo sp p (sp.length - p - n) n = runN sp p
theorem M_findSteps {w : Wd} {h : Hp} {sp : List Nat} {beg : Nat} (f : Fin h) (S0 : SpV h sp) (h59 : h.1 97 59 = nI beg) (hb : beg ≤ sp.length) (hb2 : sp.length ≤ beg + 2048) : C_X12_findSteps w SH 97 (nI (sp.length - beg)) h (fun h1 => StV h1 (stepsP sp (sp.length - beg) beg []) [] ∧ Fm [51] FK [] h h1) := by
  have hl := S0.2
  generalize ht : stepsP sp (sp.length - beg) beg [] = tot
  refine K_X12_findSteps nlt_wf (fsA sp beg tot h) (fsB sp beg tot h) (fsC sp beg tot h) (fsD sp beg tot h) ?_ ?_ ?_ ?_ ?_
  · refine ⟨rfl, fun h2 e2 y4 e4 y6 e6 => ?_⟩
    subst e2
    rw [wI_idx (by decide), h59] at e4 e6
    rw [nI_add, show beg + (sp.length - beg) = sp.length by omega] at e6
    exact ⟨_, rfl, e6, beg, [], sp.length - beg, e4, hb, rfl, by omega, StI.nil, by show beg = beg + 0; omega, ⟨wI_same, fun i hi => absurd hi (Nat.not_lt_zero _)⟩, ht, Fm.rf.put (by simp)⟩
  · rintro m x0 x2 x3 h' ⟨rfl, rfl, p, L, k, rfl, hp, rfl, hk, I, ep, X, et, F⟩
    rw [V_X12_findSteps_17, nI_leI (by omega) (by omega)]
    refine ⟨fun c => ?_, fun c y2 e2 y4 e4 y6 e6 y8 e8 => ?_⟩
    · rw [stepsP_end (by omega)] at et
      rw [← et]; exact ⟨X, F⟩
    · refine ⟨_, ?_, rfl, rfl, p, L, k, p, 0, 0, 0, rfl, by omega, rfl, hk, I, ep, X, et, F, Nat.le_refl _, ?_, e6, by omega, Or.inl ⟨e2, e4, rfl⟩, rfl, fun _ => ⟨rfl, rfl⟩⟩
      · omega
      · by_cases h0 : p = 0
        · subst h0; exact Or.inl ⟨by rw [e8]; decide, rfl⟩
        · exact Or.inr ⟨by rw [e8, show (1 : Int32) = nI 1 from rfl, pk_sub (by omega)], by omega⟩
  · rintro m x0 x2 x3 x4 x5 x6 x7 h' ⟨rfl, rfl, p, L, k, c, l, b, mm, rfl, hp, rfl, hk, I, ep, X, et, F, hc, hx7, rfl, hl16, hbv, esc, hsm⟩
    have v141 : (b, mm) = findP sp p → V_X12_findSteps_141 w SH 97 (nI p) (nI sp.length) x4 x5 h' (fun x0 x2 x3 h_1 => ∃ a, a < (sp.length - p - 1) * 100000000 + 10000 * (c + 1) ∧ fsA sp beg tot h a x0 x2 x3 h_1) (fun x0 x2 x3 x4 x5 x6 x7 h_1 => ∃ a, a < (sp.length - p - 1) * 100000000 + 10000 * (c + 1) ∧ fsB sp beg tot h a x0 x2 x3 x4 x5 x6 x7 h_1) (fun x0 x2 x3 x4 x5 x6 x7 x8 h_1 => ∃ a, a < (sp.length - p - 1) * 100000000 + 10000 * (c + 1) ∧ fsC sp beg tot h a x0 x2 x3 x4 x5 x6 x7 x8 h_1) (fun x0 x2 x3 x4 x5 x7 h_1 => ∃ a, a < (sp.length - p - 1) * 100000000 + 10000 * (c + 1) ∧ fsD sp beg tot h a x0 x2 x3 x4 x5 x7 h_1) (fun h1 => StV h1 tot [] ∧ Fm [51] FK [] h h1) := by
      intro e y1 e1
      refine ⟨_, ?_, rfl, rfl, p, L, k, 1, rfl, hp, rfl, hk, I, ep, X, et, F, ?_, e1, by omega, ?_⟩
      · omega
      · rw [← e]; exact hbv
      · have := runGo_step (sp := sp) (p := p) (n := 0) (by omega)
        rw [if_pos (by rw [Nat.add_zero])] at this
        unfold runN
        exact this.symm
    refine ⟨fun c1 => v141 ?_, fun c1 => ?_⟩
    · rcases hx7 with ⟨_, h0⟩ | ⟨q, h0⟩
      · rw [← esc, h0]; unfold scP
        split
        · rfl
        · obtain ⟨a1, a2⟩ := hsm (by omega)
          rw [a1, a2]
      · rw [q] at c1; exact absurd c1 (nI_pos (by omega))
    · obtain ⟨q, h0⟩ : x7 = nI (c - 1) ∧ 1 ≤ c := hx7.resolve_left fun q => c1 (by rw [q.1]; decide)
      rw [show (16 : Int32) = nI 16 from rfl, nI_leI (by omega) (by omega), show (4 : Int32) = nI 4 from rfl, nI_add, nI_ltI (by omega) (by omega)]
      obtain ⟨c', rfl⟩ : ∃ c', c = c' + 1 := ⟨c - 1, by omega⟩
      refine ⟨fun c2 => v141 ?_, fun c2 => ⟨fun c3 => v141 ?_, fun c3 y4 e4 => ?_⟩⟩
      · rw [← esc]; unfold scP
        split
        · rw [scan, if_pos (by omega)]
        · obtain ⟨a1, a2⟩ := hsm (by omega)
          rw [a1, a2]
      · obtain ⟨a1, a2⟩ := hsm c3
        rw [← esc]; unfold scP
        rw [if_neg (by omega), a1, a2]
      · refine ⟨_, ?_, rfl, rfl, p, L, k, c', l, b, mm, 0, rfl, by omega, rfl, hk, I, ep, X, et, F, by omega, by rw [q]; rfl, rfl, by omega, hbv, esc, e4, by omega, ?_⟩
        · omega
        · unfold sameN; rw [Nat.sub_zero]
  · rintro m x0 x2 x3 x4 x5 x6 x7 x8 h' ⟨rfl, rfl, p, L, k, c, l, b, mm, n, rfl, hp, rfl, hk, I, ep, X, et, F, hc, rfl, rfl, hl16, hbv, esc, rfl, hn, es⟩
    have f' := F.fin f
    have S' := S0.fm F (by decide)
    have k58 := fx f' 97 58 125 (by decide +kernel)
    have hsn := sameN_le sp c p
    have v135 : ∀ (x4' x5' : Int32) (l' b' m' : Nat), l' ≤ 16 → bestV x4' x5' b' m' → scP sp p c l' b' m' = findP sp p → V_X12_findSteps_135 w SH 97 (nI p) (nI sp.length) x4' x5' (nI l') (nI c) h' (fun x0 x2 x3 h_1 => ∃ a, a < (sp.length - p - 1) * 100000000 + 10000 * (c + 1) + (7000 - n) ∧ fsA sp beg tot h a x0 x2 x3 h_1) (fun x0 x2 x3 x4 x5 x6 x7 h_1 => ∃ a, a < (sp.length - p - 1) * 100000000 + 10000 * (c + 1) + (7000 - n) ∧ fsB sp beg tot h a x0 x2 x3 x4 x5 x6 x7 h_1) (fun x0 x2 x3 x4 x5 x6 x7 x8 h_1 => ∃ a, a < (sp.length - p - 1) * 100000000 + 10000 * (c + 1) + (7000 - n) ∧ fsC sp beg tot h a x0 x2 x3 x4 x5 x6 x7 x8 h_1) (fun x0 x2 x3 x4 x5 x7 h_1 => ∃ a, a < (sp.length - p - 1) * 100000000 + 10000 * (c + 1) + (7000 - n) ∧ fsD sp beg tot h a x0 x2 x3 x4 x5 x7 h_1) (fun h1 => StV h1 tot [] ∧ Fm [51] FK [] h h1) := by
      intro x4' x5' l' b' m' hl' hb' es' y1 e1
      refine ⟨_, ?_, rfl, rfl, p, L, k, c, l', b', m', rfl, by omega, rfl, hk, I, ep, X, et, F, by omega, ?_, rfl, hl', hb', es', fun q => by omega⟩
      · omega
      · cases c with
        | zero => exact Or.inl ⟨by rw [e1]; decide, rfl⟩
        | succ c => exact Or.inr ⟨by rw [e1, addm1]; exact nI_pred c, by omega⟩
    have v94 : sameN sp c p = n → V_X12_findSteps_94 w SH 97 (nI p) (nI sp.length) x4 x5 (nI l) (nI c) (nI n) h' (fun x0 x2 x3 h_1 => ∃ a, a < (sp.length - p - 1) * 100000000 + 10000 * (c + 1) + (7000 - n) ∧ fsA sp beg tot h a x0 x2 x3 h_1) (fun x0 x2 x3 x4 x5 x6 x7 h_1 => ∃ a, a < (sp.length - p - 1) * 100000000 + 10000 * (c + 1) + (7000 - n) ∧ fsB sp beg tot h a x0 x2 x3 x4 x5 x6 x7 h_1) (fun x0 x2 x3 x4 x5 x6 x7 x8 h_1 => ∃ a, a < (sp.length - p - 1) * 100000000 + 10000 * (c + 1) + (7000 - n) ∧ fsC sp beg tot h a x0 x2 x3 x4 x5 x6 x7 x8 h_1) (fun x0 x2 x3 x4 x5 x7 h_1 => ∃ a, a < (sp.length - p - 1) * 100000000 + 10000 * (c + 1) + (7000 - n) ∧ fsD sp beg tot h a x0 x2 x3 x4 x5 x7 h_1) (fun h1 => StV h1 tot [] ∧ Fm [51] FK [] h h1) := by
      intro en
      rw [V_X12_findSteps_94, show (4 : Int32) = nI 4 from rfl, nI_ltI (by omega) (by omega)]
      refine ⟨fun c1 => v135 x4 x5 l b mm (by omega) hbv ?_, fun c1 y2 e2 => ?_⟩
      · rw [← esc]; unfold scP
        rw [if_pos hp, if_pos hp, scan, if_neg (by omega), if_neg (by omega)]
      · rw [nI_1] at e2
        subst e2
        have hx5 : x5 = nI mm ∧ mm < 8000 := by rcases hbv with ⟨_, b, c⟩ | ⟨_, b, _, _, c⟩ <;> rw [b] <;> (try rw [c]) <;> first | exact ⟨rfl, c⟩ | exact ⟨rfl, by decide⟩
        have esc' : scP sp p c (l + 1) (if mm < n then c else b) (if mm < n then n else mm) = findP sp p := by
          rw [← esc]; unfold scP
          have e1 : scan sp p (c + 1) l b mm = scan sp p c (l + 1) (if mm < n then c else b) (if mm < n then n else mm) := by
            rw [scan, if_neg (show ¬ 16 ≤ l by omega), if_pos (show 4 ≤ sameN sp c p by omega), en]
          rw [e1]
        rw [hx5.1, nI_leI (by omega) (by omega)]
        refine ⟨fun c2 y1 e1 => ?_, fun c2 y1 e1 => ?_⟩
        · rw [nI_leI (by omega) (by omega)]
          refine ⟨fun c3 y3 e3 => ?_, fun c3 => absurd c2 c3⟩
          rw [if_neg (by omega), if_neg (by omega)] at esc'
          rw [← hx5.1] at e3
          rw [e1, e3]
          exact v135 x4 x5 (l + 1) b mm (by omega) hbv esc'
        · rw [nI_leI (by omega) (by omega)]
          refine ⟨fun c3 => absurd c3 c2, fun c3 y3 e3 => ?_⟩
          rw [if_pos (by omega), if_pos (by omega)] at esc'
          rw [e1, e3]
          exact v135 (nI c) (nI n) (l + 1) c n (by omega) (Or.inr ⟨rfl, rfl, by omega, by omega, by omega⟩) esc'
    rw [V_X12_findSteps_58, nI_add, nI_leI (by omega) (by omega), nI_add]
    refine ⟨fun c1 => v94 ?_, fun c1 => ⟨rfl, 16000, by rw [k58]; rfl, vp_in_nI (by omega) (by decide), vp_in_nI (by omega) (by decide), fun c2 => v94 ?_, fun c2 y8 e8 => ?_⟩⟩
    · rw [← es, show sp.length - p - n = 0 by omega, sameGo]
    · rw [k58, nI_clamp (by omega), nI_clamp (by omega), S'.eq (by omega) (by omega)] at c2
      rw [← es, sameGo_step (by omega), if_neg c2]
    · rw [k58, nI_clamp (by omega), nI_clamp (by omega), S'.eq (by omega) (by omega)] at c2
      rw [sameGo_step (by omega), if_pos c2] at es
      rw [nI_1] at e8
      refine ⟨_, ?_, rfl, rfl, p, L, k, c, l, b, mm, n + 1, rfl, hp, rfl, hk, I, ep, X, et, F, hc, rfl, rfl, hl16, hbv, esc, e8, by omega, es⟩
      omega
  · rintro m x0 x2 x3 x4 x5 x7 h' ⟨rfl, rfl, p, L, k, n, rfl, hp, rfl, hk, I, ep, X, et, F, hbv, rfl, hn, es⟩
    have f' := F.fin f
    have S' := S0.fm F (by decide)
    have k58 := fx f' 97 58 125 (by decide +kernel)
    have hrl := runN_le hp
    have hng : n ≤ runN sp p := by rw [← es]; exact runGo_le.1
    have v176 : runN sp p = n → V_X12_findSteps_176 w SH 97 (nI p) (nI sp.length) x4 x5 (nI n) h' (fun x0 x2 x3 h_1 => ∃ a, a < (sp.length - p - 1) * 100000000 + (7000 - n) ∧ fsA sp beg tot h a x0 x2 x3 h_1) (fun x0 x2 x3 x4 x5 x6 x7 h_1 => ∃ a, a < (sp.length - p - 1) * 100000000 + (7000 - n) ∧ fsB sp beg tot h a x0 x2 x3 x4 x5 x6 x7 h_1) (fun x0 x2 x3 x4 x5 x6 x7 x8 h_1 => ∃ a, a < (sp.length - p - 1) * 100000000 + (7000 - n) ∧ fsC sp beg tot h a x0 x2 x3 x4 x5 x6 x7 x8 h_1) (fun x0 x2 x3 x4 x5 x7 h_1 => ∃ a, a < (sp.length - p - 1) * 100000000 + (7000 - n) ∧ fsD sp beg tot h a x0 x2 x3 x4 x5 x7 h_1) (fun h1 => StV h1 tot [] ∧ Fm [51] FK [] h h1) := by
      intro en
      rw [← en]
      refine M_fs176 f' X I (by omega) hp hl hbv fun h2 X2 F2 => ?_
      obtain ⟨a1, a2⟩ := stepP_adv (L := L) hp
      obtain ⟨b1, b2⟩ := stepP_StI hl I ep hp
      rw [stepsP_fuel hk hp] at et
      refine ⟨_, ?_, rfl, rfl, _, _, k - 1, rfl, a2, rfl, by omega, b1, b2, X2, et, F.tr F2⟩
      omega
    rw [V_X12_findSteps_144, nI_add, nI_leI (by omega) (by omega)]
    refine ⟨fun c1 => v176 ?_, fun c1 => ⟨rfl, 16000, by rw [k58]; rfl, vp_in_nI (by omega) (by decide), vp_in_nI (by omega) (by decide), fun c2 => v176 ?_, fun c2 y8 e8 => ?_⟩⟩
    · rw [← es, show sp.length - p - n = 0 by omega, runGo]
    · rw [k58, nI_clamp (by omega), nI_clamp (by omega), S'.eq (by omega) (by omega)] at c2
      rw [← es, runGo_step (by omega), if_neg c2]
    · rw [k58, nI_clamp (by omega), nI_clamp (by omega), S'.eq (by omega) (by omega)] at c2
      rw [runGo_step (by omega), if_pos c2] at es
      rw [nI_1] at e8
      refine ⟨_, ?_, rfl, rfl, p, L, k, n + 1, rfl, hp, rfl, hk, I, ep, X, et, F, hbv, e8, by omega, es⟩
      omega
