/-! the reference says the parts of a window: all of them (my own) -/
theorem dataP_take {sp : List Nat} {beg i : Nat} {L : List Sp3} (hi : i < L.length) : dataP sp beg (L.take (i + 1)) = dstep sp (dataP sp beg (L.take i)) (L.getD i (0, 0, 0)) := by
  rw [← dataP_snoc]
  congr 1
  rw [List.take_add_one, List.getElem?_eq_getElem hi, List.getD_eq_getElem?_getD, List.getElem?_eq_getElem hi]
  rfl
theorem dataP_at (sp : List Nat) (beg : Nat) (L : List Sp3) : (dataP sp beg L).1 = beg + sS L := by rw [dataP_p sp 0 0, modesP_p]
def spN (x : Sp3) : Nat := if x.1 = 1 then x.2.1 else if x.1 = 2 then 1 else 0
theorem take_one {sp : List Nat} {p : Nat} (h : p < sp.length) : (sp.drop p).take 1 = [sp.getD p 0] := by
  rw [List.drop_eq_getElem_cons h, List.getD_eq_getElem?_getD, List.getElem?_eq_getElem h]
  rfl
theorem dstep_eq {sp : List Nat} {s : Nat × List Nat} {x : Sp3} (h : s.1 < sp.length) : dstep sp s x = (s.1 + x.2.1, s.2 ++ (sp.drop s.1).take (spN x)) := by
  unfold dstep spN
  split
  · rfl
  split
  · rw [take_one h]
  · simp
def spI17 (T : Tb) (L : List Sp3) (md sp : List Nat) (beg : Nat) (ad : List Nat) (t : Nat) (h : Hp) (m x0 : Nat) (x1 x2 x3 : Int32) (h' : Hp) : Prop := x0 = 97 ∧ x1 = nI t ∧ ∃ i, x3 = nI i ∧ i ≤ L.length ∧ m = 10000000 + (L.length - i) * 3000 ∧ x2 = nI (beg + sS (L.take i)) ∧ spT T L md (dataP sp beg (L.take i)).2 ad t h h' ∧ CoV h' []
def spI64 (T : Tb) (L : List Sp3) (md sp : List Nat) (beg : Nat) (ad : List Nat) (t : Nat) (h : Hp) (m x0 : Nat) (x1 x2 x3 x4 x5 : Int32) (h' : Hp) : Prop := x0 = 97 ∧ x1 = nI t ∧ ∃ i j, x3 = nI i ∧ i < L.length ∧ x4 = nI (spN (L.getD i (0, 0, 0))) ∧ x5 = nI j ∧ j ≤ spN (L.getD i (0, 0, 0)) ∧ m = 10000000 + (L.length - i - 1) * 3000 + (2500 - j) ∧ x2 = nI (beg + sS (L.take i)) ∧ spT T L md ((dataP sp beg (L.take i)).2 ++ (sp.drop (beg + sS (L.take i))).take j) ad t h h' ∧ CoV h' []
theorem M_sayParts {w : Wd} {h : Hp} {T : Tb} {L : List Sp3} {md sp ad : List Nat} {t beg : Nat} (f : Fin h) (ht : t < 4) (V : EntV h t T) (S0 : SpV h sp) (X : StV h L md) (I : StI L) (A : AaV h ad) (h59 : h.1 97 59 = nI beg) (h60 : h.1 97 60 = 0) (sm : Sml L md) (hs : beg + sS L ≤ sp.length) (hs2 : sS L ≤ 2048) : C_X12_sayParts w SH 97 (nI t) h (spS (codesM T (movesP L md) L.length 0 []) (dataP sp beg L).2 ad h) := by
  have hl := I.len hs2
  have hsl := S0.2
  have hsz : ∀ i, i < L.length → (L.getD i (0, 0, 0)).2.1 < 16384 := fun i hi => by
    have := mem_sum (L := L) (x := L.getD i (0, 0, 0)) (by rw [List.getD_eq_getElem?_getD, List.getElem?_eq_getElem hi]; exact List.getElem_mem _)
    omega
  have hdl : ∀ i, (dataP sp beg (L.take i)).2.length ≤ sS (L.take i) := fun i => dataP_len fun x hx => I.sizes x (List.mem_of_mem_take hx)
  have hdl2 : (dataP sp beg L).2.length ≤ 2048 := by have := hdl L.length; rw [List.take_length] at this; omega
  generalize ht0 : codesM T (movesP L md) L.length 0 [] = tot
  refine K_X12_sayParts nlt_wf (spI17 T L md sp beg ad t h) (spI64 T L md sp beg ad t h) (spI122 T L md (dataP sp beg L).2 ad t tot h) (spI144 T L md (dataP sp beg L).2 ad t tot h) (spI392 T L md (dataP sp beg L).2 ad t tot h) ?_ ?_ ?_ ?_ ?_ ?_
  · refine ⟨rfl, fun h2 e2 h4 e4 y6 e6 y8 e8 => ?_⟩
    subst e2; subst e4
    rw [wI_idx (by decide), wI_idx (by decide), h59] at e6
    have F : Fm [48, 49, 60] [118] [] h (wI (wI h 97 49 0) 97 48 0) := (Fm.rf.put (by simp)).put (by simp)
    refine ⟨_, rfl, rfl, 0, e8, by omega, rfl, e6, ⟨⟨wI_same, fun j hj => absurd hj (Nat.not_lt_zero _)⟩, ⟨?_, ?_⟩, ?_, F⟩, ?_, fun j hj => absurd hj (Nat.not_lt_zero _)⟩
    · rw [F.2.2.2 50 (by simp)]; exact A.1
    · rw [wI_cell (by decide), wI_cell (by decide)]; exact A.2
    · rw [wI_idx (by decide), wI_idx (by decide)]; exact h60
    · rw [wI_idx (by decide), wI_same]; rfl
  · rintro m x0 x1 x2 x3 h' ⟨rfl, rfl, i, rfl, hi, rfl, rfl, Z, C⟩
    have F := Z.2.2.2
    have f' := F.fin f
    have X' := X.fm F (by simp) (by simp)
    have k52 := fx f' 97 52 119 (by decide +kernel)
    have k53 := fx f' 97 53 120 (by decide +kernel)
    rw [V_X12_sayParts_17, X'.1, nI_leI (by omega) (by omega)]
    refine ⟨rfl, fun c y3 e3 => ?_, fun c => ⟨2100, by rw [k52]; rfl, vp_in_nI (by omega) (by decide), ?_⟩⟩
    · rw [List.take_of_length_le (by omega)] at Z
      exact ⟨_, by omega, rfl, rfl, Z, 0, L.length, [], e3, by omega, by omega, C, by simp, ht0, rfl⟩
    · have Xi := X'.2 i (by omega)
      have hok := I.get (i := i) (by omega)
      rw [k52, nI_clamp (by omega), Xi.1, show (1 : Int32) = nI 1 from rfl, nI_eq (by rcases hok.1 with q | q <;> omega) (by decide), show (2 : Int32) = nI 2 from rfl, nI_eq (by rcases hok.1 with q | q <;> omega) (by decide)]
      have go : ∀ s0 : Int32, s0 = nI (spN (L.getD i (0, 0, 0))) → V_X12_sayParts_59 w SH 97 (nI t) (nI (beg + sS (L.take i))) (nI i) s0 h' (fun x0 x1 x2 x3 h1 => ∃ a, a < 10000000 + (L.length - i) * 3000 ∧ spI17 T L md sp beg ad t h a x0 x1 x2 x3 h1) (fun x0 x1 x2 x3 x4 x5 h1 => ∃ a, a < 10000000 + (L.length - i) * 3000 ∧ spI64 T L md sp beg ad t h a x0 x1 x2 x3 x4 x5 h1) (fun x0 x1 x3 h1 => ∃ a, a < 10000000 + (L.length - i) * 3000 ∧ spI122 T L md (dataP sp beg L).2 ad t tot h a x0 x1 x3 h1) (fun x0 x1 x3 x4 x5 x6 x7 h1 => ∃ a, a < 10000000 + (L.length - i) * 3000 ∧ spI144 T L md (dataP sp beg L).2 ad t tot h a x0 x1 x3 x4 x5 x6 x7 h1) (fun x0 x1 x3 x4 x8 h1 => ∃ a, a < 10000000 + (L.length - i) * 3000 ∧ spI392 T L md (dataP sp beg L).2 ad t tot h a x0 x1 x3 x4 x8 h1) (spS tot (dataP sp beg L).2 ad h) := by
        intro s0 es y1 e1 y3 e3
        rw [es] at e1
        exact ⟨_, by omega, rfl, rfl, i, 0, rfl, by omega, e1, e3, by omega, rfl, rfl, by rw [List.take_zero, List.append_nil]; exact Z, C⟩
      refine ⟨fun c1 => ⟨vp_in_nI (by omega) (by decide), fun c2 => go 0 ?_, fun c2 => go 1 ?_⟩, fun c1 => ⟨2100, by rw [k53]; rfl, vp_in_nI (by omega) (by decide), go _ ?_⟩⟩
      · unfold spN; rw [if_neg c1, if_neg c2]; rfl
      · unfold spN; rw [if_neg c1, if_pos c2]; rfl
      · rw [k53, Xi.2.1]; unfold spN; rw [if_pos c1]
  · rintro m x0 x1 x2 x3 x4 x5 h' ⟨rfl, rfl, i, j, rfl, hi, rfl, rfl, hj, rfl, rfl, Z, C⟩
    have F := Z.2.2.2
    have f' := F.fin f
    have X' := X.fm F (by simp) (by simp)
    have S' := S0.fm F (by simp)
    have Xi := X'.2 i hi
    have hok := I.get (i := i) hi
    have k53 := fx f' 97 53 120 (by decide +kernel)
    have k58 := fx f' 97 58 125 (by decide +kernel)
    have k47 := fx f' 97 47 118 (by decide +kernel)
    have e1 := sS_take1 hi
    have e2 := sS_take (L := L) (i := i + 1)
    have hdi := hdl i
    have hsp : spN (L.getD i (0, 0, 0)) ≤ (L.getD i (0, 0, 0)).2.1 := by
      unfold spN
      split
      · omega
      split
      · rcases hok.1 with q | q <;> omega
      · omega
    have hsz1 := I.sizes (L.getD i (0, 0, 0)) (by rw [List.getD_eq_getElem?_getD, List.getElem?_eq_getElem hi]; exact List.getElem_mem _)
    rw [V_X12_sayParts_64, nI_leI (by omega) (by omega)]
    refine ⟨fun c => ⟨rfl, 2100, by rw [k53]; rfl, vp_in_nI (by omega) (by decide), fun y6 e6 y8 e8 => ?_⟩, fun c => ⟨rfl, 16000, by rw [k58]; rfl, ?_, 30000, by rw [k47]; rfl, ?_, fun h17 e17 h19 e19 y21 e21 => ?_⟩⟩
    · rw [k53, nI_clamp (by omega), Xi.2.1, nI_add, Nat.add_assoc, ← e1] at e6
      rw [nI_1] at e8
      refine ⟨_, ?_, rfl, rfl, i + 1, e8, by omega, rfl, e6, ?_, C⟩
      · omega
      · rw [dataP_take hi, dstep_eq (by rw [dataP_at]; omega), dataP_at]
        rw [show j = spN (L.getD i (0, 0, 0)) by omega] at Z
        exact Z
    · rw [nI_add]; exact vp_in_nI (by omega) (by decide)
    · rw [Z.1.1]; exact vp_in_nI (by simp; omega) (by decide)
    · have hdl9 : ((dataP sp beg (L.take i)).2 ++ (sp.drop (beg + sS (L.take i))).take j).length ≤ 2048 := by simp; omega
      rw [nI_add, nI_clamp (by omega), Z.1.1, nI_clamp (by omega), k47, k58] at e17
      rw [nI_1] at e21
      obtain ⟨D, A', z60, G⟩ := Z
      have hpj : beg + sS (L.take i) + j < sp.length := by omega
      have eb : un (b8 (h'.1 125 (beg + sS (L.take i) + j))) = sp.getD (beg + sS (L.take i) + j) 0 := b8_by S'.1 hpj
      have ht : (sp.drop (beg + sS (L.take i))).take (j + 1) = (sp.drop (beg + sS (L.take i))).take j ++ [sp.getD (beg + sS (L.take i) + j) 0] := by
        rw [List.take_add_one, List.getElem?_drop, List.getD_eq_getElem?_getD, List.getElem?_eq_getElem hpj]
        rfl
      generalize hdd : (dataP sp beg (L.take i)).2 ++ (sp.drop (beg + sS (L.take i))).take j = dd at *
      have B17 : ByV h17 118 (dd ++ [sp.getD (beg + sS (L.take i) + j) 0]) := by
        rw [e17, ← eb]; exact ByV.push D.2 _
      have a48 : h17.1 97 48 = nI dd.length := by rw [e17, wI_cell (by decide)]; exact D.1
      rw [a48, nI_1] at e19
      subst e19
      have F19 : Fm [48, 49, 60] [118] [] h (wI h17 97 48 (nI (dd.length + 1))) := by
        refine Fm.put ?_ (by simp)
        rw [e17]; exact G.putC (by decide) (by simp)
      refine ⟨_, ?_, rfl, rfl, i, j + 1, rfl, hi, rfl, e21, by omega, rfl, rfl, ⟨⟨?_, ?_⟩, ⟨?_, ?_⟩, ?_, F19⟩, ?_, fun j hj => absurd hj (Nat.not_lt_zero _)⟩
      · omega
      · rw [wI_same, ht, ← List.append_assoc, hdd, List.length_append]; rfl
      · rw [wI_cell (by decide), ht, ← List.append_assoc, hdd]; exact B17
      · rw [F19.2.2.2 50 (by simp)]; exact A.1
      · rw [wI_cell (by decide), e17]
        intro j hj
        rw [wI_idx (by omega)]; exact A'.2 j hj
      · rw [wI_idx (by decide), e17, wI_cell (by decide)]; exact z60
      · rw [wI_idx (by decide), e17, wI_cell (by decide)]; exact C.1
  · rintro m x0 x1 x3 h' ⟨rfl, rfl, Z, i, k, cs, rfl, hi, hk, C, hcs, et, rfl⟩
    have F := Z.2.2.2
    have X' := X.fm F (by simp) (by simp)
    rw [V_X12_sayParts_122, X'.1, nI_leI (by omega) (by omega)]
    refine ⟨rfl, fun c => ?_, fun c y3 e3 y5 e5 y7 e7 y9 e9 => ?_⟩
    · rw [codesM_end (by rw [movesP_len]; omega)] at et
      rw [← et]
      exact ⟨⟨Z.2.2.1, C, Z.1, Z.2.1⟩, F⟩
    · exact ⟨_, by omega, rfl, rfl, Z, i, k, cs, 0, rfl, by omega, hk, C, hcs, et, by omega, rfl, Or.inl ⟨e9, by omega⟩, e3, e5, e7⟩
  · intro m x0 x1 x3 x4 x5 x6 x7 h' I'
    exact M_sp144 f ht V X sm hsz hl hdl2 I'
  · rintro m x0 x1 x3 x4 x8 h' ⟨rfl, rfl, rfl, Z, i, k, cs, a, n, rfl, hi, hk, C, ea, eal, hcs, et, hn, rfl, hx⟩
    have F := Z.2.2.2
    have f' := F.fin f
    have X' := X.fm F (by simp) (by simp)
    have Xi := X'.2 i hi
    have k53 := fx f' 97 53 120 (by decide +kernel)
    have hsi := hsz i hi
    rcases hx with ⟨rfl, hm1⟩ | ⟨rfl, rfl⟩
    rotate_left
    · refine ⟨fun _ => ⟨fun _ y1 e1 => ?_, fun c => absurd (by decide) c⟩, fun c => absurd (by decide) c⟩
      rw [nI_1] at e1
      rw [show bigR (L.getD i (0, 0, 0)).2.1 0 = [] from rfl, List.append_nil] at ea
      subst ea
      exact ⟨_, by omega, rfl, rfl, Z, i + 1, k, a, e1, by omega, by omega, C, hcs, et, rfl⟩
    obtain ⟨q, rfl⟩ : ∃ q, n = q + 1 := ⟨n - 1, by omega⟩
    rw [show q + 1 - 1 = q by omega]
    refine ⟨fun c => absurd c (nI_pos (by omega)), fun _ => ⟨rfl, 2100, by rw [k53]; rfl, vp_in_nI (by omega) (by decide), ?_⟩⟩
    have nx : ∀ s0 : Int32, un (nI ((L.getD i (0, 0, 0)).2.1 / 128 ^ q % 128) ||| s0) = (L.getD i (0, 0, 0)).2.1 / 128 ^ q % 128 + (if q = 0 then 0 else 128) → V_X12_sayParts_425 w SH 97 (nI t) (nI i) (-1) (nI q) s0 (nI ((L.getD i (0, 0, 0)).2.1 / 128 ^ q % 128)) 97 h' (fun x0 x1 x2 x3 h1 => ∃ a, a < (L.length - i - 1) * 1000 + (q + 1 + 1) ∧ spI17 T L md sp beg ad t h a x0 x1 x2 x3 h1) (fun x0 x1 x2 x3 x4 x5 h1 => ∃ a, a < (L.length - i - 1) * 1000 + (q + 1 + 1) ∧ spI64 T L md sp beg ad t h a x0 x1 x2 x3 x4 x5 h1) (fun x0 x1 x3 h1 => ∃ a, a < (L.length - i - 1) * 1000 + (q + 1 + 1) ∧ spI122 T L md (dataP sp beg L).2 ad t tot h a x0 x1 x3 h1) (fun x0 x1 x3 x4 x5 x6 x7 h1 => ∃ a, a < (L.length - i - 1) * 1000 + (q + 1 + 1) ∧ spI144 T L md (dataP sp beg L).2 ad t tot h a x0 x1 x3 x4 x5 x6 x7 h1) (fun x0 x1 x3 x4 x8 h1 => ∃ a, a < (L.length - i - 1) * 1000 + (q + 1 + 1) ∧ spI392 T L md (dataP sp beg L).2 ad t tot h a x0 x1 x3 x4 x8 h1) (spS tot (dataP sp beg L).2 ad h) := by
      intro s0 hs0
      refine ⟨rfl, _, M_addCode f' C (by omega) _, fun h5 hp5 y6 e6 => ?_⟩
      obtain ⟨C5, F5, G5⟩ := hp5
      rw [hs0] at C5
      refine ⟨_, ?_, rfl, rfl, rfl, Z.co hdl2 F5 G5, i, k, cs, _, q, rfl, hi, hk, C5, ?_, ?_, hcs, et, by omega, rfl, ?_⟩
      · omega
      · rw [bigR_un] at ea
        rw [List.append_assoc]; exact ea
      · rw [List.length_append, List.length_singleton]; omega
      · cases q with
        | zero => exact Or.inr ⟨by rw [e6]; decide, rfl⟩
        | succ q => exact Or.inl ⟨by rw [e6, addm1]; exact nI_pred q, by omega⟩
    have hv : (L.getD i (0, 0, 0)).2.1 / 128 ^ q % 128 < 128 := Nat.mod_lt _ (by decide)
    rw [k53, nI_clamp (by omega), Xi.2.1, sar7 (by omega) (by omega), show (0 : Int32) = nI 0 from rfl, nI_leI (by omega) (by decide)]
    refine ⟨fun c => nx _ ?_, fun c => nx _ ?_⟩
    · rw [if_pos (by omega)]; exact (un_or (k := 0) hv).1
    · rw [if_neg (by omega)]; exact (un_or (k := 0) hv).2
