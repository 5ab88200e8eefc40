/-! the reference finds its modes, all of them (my own) -/
def adrOk (beg : Nat) (L : List Sp3) : Prop := ∀ i, i < L.length → (L.getD i (0, 0, 0)).1 = 3 → (L.getD i (0, 0, 0)).2.2 < beg + sS (L.take i)
theorem adrOk.nil {beg : Nat} : adrOk beg [] := fun i hi => absurd hi (Nat.not_lt_zero _)
theorem adrOk.snoc {beg : Nat} {L : List Sp3} {x : Sp3} : adrOk beg (L ++ [x]) ↔ adrOk beg L ∧ (x.1 = 3 → x.2.2 < beg + sS L) := by
  have e1 : ∀ i, i < L.length → (L ++ [x]).getD i (0, 0, 0) = L.getD i (0, 0, 0) := fun i hi => by rw [getD_snoc, if_neg (by omega)]
  have e2 : ∀ i, i ≤ L.length → (L ++ [x]).take i = L.take i := fun i hi => List.take_append_of_le_length hi
  constructor
  · intro X
    refine ⟨fun i hi q => ?_, fun q => ?_⟩
    · have := X i (by simp; omega)
      rw [e1 i hi, e2 i (by omega)] at this
      exact this q
    · have := X L.length (by simp)
      rw [getD_snoc, if_pos rfl, e2 _ (Nat.le_refl _), List.take_length] at this
      exact this q
  · rintro ⟨X, hx⟩ i hi q
    by_cases e : i = L.length
    · subst e
      rw [getD_snoc, if_pos rfl] at q ⊢
      rw [e2 _ (Nat.le_refl _), List.take_length]
      exact hx q
    · have hi : i < L.length := by simp at hi; omega
      rw [e1 i hi] at q ⊢
      rw [e2 i (by omega)]
      exact X i hi q
theorem adrOk.add {beg : Nat} {L : List Sp3} (X : adrOk beg L) : adrOk beg (addS L) := by
  by_cases h : (lastS L).1 = 1 ∧ (lastS L).2.1 < 255
  · obtain ⟨e1, e2⟩ := addS_merge h
    rw [e2]
    rw [e1] at X
    exact adrOk.snoc.mpr ⟨(adrOk.snoc.mp X).1, fun q => absurd q (by show ¬ (1 : Nat) = 3; decide)⟩
  · unfold addS
    rw [if_neg h]
    exact adrOk.snoc.mpr ⟨X, fun q => absurd q (by show ¬ (1 : Nat) = 3; decide)⟩
theorem stepsP_adr {sp : List Nat} {beg : Nat} (hl : sp.length ≤ 6048) : ∀ {k p : Nat} {L : List Sp3}, StI L → adrOk beg L → p = beg + sS L → adrOk beg (stepsP sp k p L)
  | 0, p, L, _, A, _ => by rw [stepsP]; exact A
  | k + 1, p, L, X, A, e => by
    rw [stepsP]
    by_cases hp : p < sp.length
    · rw [if_pos hp]
      obtain ⟨a1, a2⟩ := stepP_StI hl X e hp
      have hf := findP_ok sp p
      refine stepsP_adr hl a1 ?_ a2
      unfold stepP
      split
      · exact adrOk.snoc.mpr ⟨A, fun q => absurd q (by show ¬ (2 : Nat) = 3; decide)⟩
      split
      · rename_i q
        exact adrOk.snoc.mpr ⟨A, fun _ => by show (findP sp p).1 < _; omega⟩
      · exact A.add
    · rw [if_neg hp]; exact A
theorem nearGo_succ (nr : Nat → Nat) (a j k : Nat) (q : Nat × Nat) : nearGo nr a (j + 1) k q = nearGo nr a j (k + 1) (if nr k ≤ a ∧ bigLen (a - nr k) < bigLen q.2 then (2 + k, a - nr k) else q) := rfl
theorem bigLen_bd {n : Nat} (h : n < 16384) : 1 ≤ bigLen n ∧ bigLen n ≤ 2 := ⟨(bigLen_b n).1, bigLen2 h⟩
theorem M_findModes {w : Wd} {h : Hp} {L : List Sp3} {t N S beg : Nat} (f : Fin h) (X : StV h L []) (I : StI L) (hA : adrOk beg L) (hs : beg + sS L ≤ 6048) (hl : L.length < 1000) (ht : t < 4) (e1 : h.1 102 t = nI N) (e2 : h.1 103 t = nI S) (hN : N ≤ 32) (hS : S ≤ 16) (h59 : h.1 97 59 = nI beg) : C_X12_findModes w SH 97 (nI t) h (fun h1 => StV h1 L (modesP N S beg L).md ∧ AaV h1 (modesP N S beg L).ad ∧ Fm [50] FJ [] h h1) := by
  have hpos : ∀ i, (modesP N S beg (L.take i)).p = beg + sS (L.take i) := fun i => modesP_p N S beg _
  have hposle : ∀ i, (modesP N S beg (L.take i)).p ≤ 6048 := fun i => by have := sS_take (L := L) (i := i); rw [hpos]; omega
  have hadl : ∀ i, (modesP N S beg (L.take i)).ad.length ≤ 2 * 1000 := fun i => by
    have := (modesP_ok (N := N) (S := S) (beg := beg) (L := L.take i) (fun x hx => by have := (I.1 x (List.mem_of_mem_take hx)).2; omega) (by have := sS_take (L := L) (i := i); omega)).1
    rw [List.length_take] at this
    omega
  refine K_X12_findModes nlt_wf (fmI17 N S h) (fmI41 N S h) (fmI80 N S beg L h) (fmI127 N S beg L h) (fmI278 N S beg L h) ?_ ?_ ?_ ?_ ?_ ?_
  · have k10 := fx f 97 10 102 (by decide +kernel)
    have k11 := fx f 97 11 103 (by decide +kernel)
    refine ⟨rfl, 4, by rw [k10]; rfl, vp_in_nI (by omega) (by decide), fun y5 e5 => ⟨4, by rw [k11]; rfl, vp_in_nI (by omega) (by decide), fun y10 e10 y12 e12 => ?_⟩⟩
    rw [k10, nI_clamp (by omega), e1] at e5
    rw [k11, nI_clamp (by omega), e2] at e10
    exact ⟨_, rfl, e5, e10, 0, e12, by omega, rfl, fun i hi => absurd hi (Nat.not_lt_zero _), Fm.rf⟩
  · rintro m x0 x2 x3 x4 h' ⟨rfl, rfl, rfl, j, rfl, hj, rfl, z, F⟩
    have k56 := fx (F.fin f) 97 56 123 (by decide +kernel)
    rw [V_X12_findModes_17, show (32 : Int32) = nI 32 from rfl, nI_leI (by decide) (by omega)]
    refine ⟨fun c y2 e2 => ⟨_, ?_, rfl, rfl, rfl, 0, e2, by omega, rfl, fun i hi => z i (by omega), fun i hi => absurd hi (Nat.not_lt_zero _), F⟩, fun c => ⟨rfl, 32, by rw [k56]; rfl, vp_in_nI (by omega) (by decide), fun h8 e8 y10 e10 => ?_⟩⟩
    · omega
    · rw [k56, nI_clamp (by omega)] at e8
      rw [nI_1] at e10
      subst e8
      refine ⟨_, ?_, rfl, rfl, rfl, j + 1, e10, by omega, rfl, fun i hi => ?_, F.putC (by decide) (by simp)⟩
      · omega
      · rw [wI_if]
        split
        · rfl
        · exact z i (by omega)
  · rintro m x0 x2 x3 x4 h' ⟨rfl, rfl, rfl, j, rfl, hj, rfl, z, z2, F⟩
    have k57 := fx (F.fin f) 97 57 124 (by decide +kernel)
    rw [V_X12_findModes_41, show (4096 : Int32) = nI 4096 from rfl, nI_leI (by decide) (by omega)]
    refine ⟨fun c y2 e2 => ⟨rfl, fun h5 e5 y7 e7 y9 e9 => ?_⟩, fun c => ⟨rfl, 4096, by rw [k57]; rfl, vp_in_nI (by omega) (by decide), fun h15 e15 y17 e17 => ?_⟩⟩
    · have F5 : Fm [50] [123, 124] [] h h5 := by rw [e5]; exact F.put (by simp)
      rw [F5.2.2.2 59 (by simp), h59] at e7
      refine ⟨_, ?_, rfl, rfl, rfl, 0, e9, by omega, rfl, e2, e7, ⟨⟨X.fm F5 (by simp) (by simp), ⟨fun i hi => ?_, fun i hi => ?_, fun _ => by show 0 < 6048; decide, fun _ => by show 0 < 6048; decide, ?_, hN, hS⟩, F5.mono (by simp) (by simp) (by simp)⟩, ?_, ?_⟩⟩
      · omega
      · rw [e5, wI_cell (by decide), z i (by omega)]; rfl
      · rw [e5, wI_cell (by decide), z2 i (by omega)]; rfl
      · show 0 < N ∨ N = 0 ∧ 0 = 0
        omega
      · rw [e5, wI_same]; rfl
      · intro i hi; exact absurd hi (Nat.not_lt_zero _)
    · rw [k57, nI_clamp (by omega)] at e15
      rw [nI_1] at e17
      subst e15
      refine ⟨_, ?_, rfl, rfl, rfl, j + 1, e17, by omega, rfl, fun i hi => by rw [wI_cell (by decide)]; exact z i hi, fun i hi => ?_, F.putC (by decide) (by simp)⟩
      · omega
      · rw [wI_if]
        split
        · rfl
        · exact z2 i (by omega)
  · rintro m x0 x2 x3 x4 x5 x6 h' ⟨rfl, rfl, rfl, i, rfl, hi, rfl, rfl, rfl, E⟩
    obtain ⟨⟨X', C', F⟩, A'⟩ := id E
    have f' := F.fin f
    have k52 := fx f' 97 52 119 (by decide +kernel)
    have k54 := fx f' 97 54 121 (by decide +kernel)
    rw [V_X12_findModes_80, X'.1, nI_leI (by omega) (by omega)]
    refine ⟨rfl, fun c => ?_, fun c => ⟨2100, by rw [k52]; rfl, vp_in_nI (by omega) (by decide), fun c2 => ?_, fun c2 => ?_⟩⟩
    · rw [List.take_of_length_le (by omega)] at X' A'
      exact ⟨X', A', F⟩
    · have Xi := X'.2 i (by omega)
      rw [k52, nI_clamp (by omega), Xi.1] at c2
      refine M_fm366 f' X' (by omega) hl ?_
      have hk : ¬ (L.getD i (0, 0, 0)).1 = 3 := fun q => c2 (by rw [q]; rfl)
      have em := modesP_take (N := N) (S := S) (beg := beg) (L := L) (i := i) (by omega)
      unfold mstep at em
      rw [if_neg hk] at em
      refine ⟨_, ?_, rfl, rfl, rfl, i + 1, rfl, by omega, rfl, by rw [em], by rw [em], ?_⟩
      · omega
      · unfold fmE fmB
        rw [em]
        refine ⟨⟨⟨X'.1, fun j hj => ?_⟩, C', F⟩, A'⟩
        have Xj := X'.2 j hj
        have hmd := modesP_len N S beg (L.take i)
        rw [List.length_take] at hmd
        refine ⟨Xj.1, Xj.2.1, Xj.2.2.1, ?_⟩
        rw [Xj.2.2.2]
        show _ = nI (((modesP N S beg (L.take i)).md ++ [0]).getD j 0)
        rw [getD_snoc]
        split
        · rename_i q
          rw [List.getD_eq_getElem?_getD, List.getElem?_eq_none (by omega)]; rfl
        · rfl
    · have Xi := X'.2 i (by omega)
      have hok := I.get (i := i) (by omega)
      rw [k52, nI_clamp (by omega), Xi.1, show (3 : Int32) = nI 3 from rfl, nI_eq (by rcases hok.1 with q | q <;> omega) (by decide)] at c2
      refine ⟨2100, by rw [k54]; rfl, vp_in_nI (by omega) (by decide), fun y10 e10 y12 e12 => ?_⟩
      have ha := hA i (by omega) c2
      rw [← hpos] at ha
      have hp6 := hposle i
      rw [k54, nI_clamp (by omega), Xi.2.2.1 c2] at e10
      generalize hae : (L.getD i (0, 0, 0)).2.2 = a at e10 ha
      subst e10
      rw [nI_l (by omega)]
      refine ⟨_, M_bigSize a (by omega), fun v18 h17 hp17 y19 e19 y21 e21 y23 e23 => ?_⟩
      obtain ⟨e1, e2⟩ := hp17
      obtain rfl := e1.symm
      rw [e2] at e19
      refine ⟨_, ?_, i, a, (0, a), 1, ⟨rfl, rfl, rfl, rfl, by omega, rfl, rfl, ⟨X', C', F⟩, rfl, c2, hae, ha⟩, A', rfl, e12, e19, e21, e23, by show a < 6049; omega, by show 0 < 100; decide, by omega, Or.inl ⟨rfl, rfl⟩⟩
      omega
  · rintro m x0 x2 x3 x4 x5 x6 x7 x8 x9 x10 x11 h' ⟨i, a, q, n, ⟨rfl, rfl, rfl, rfl, hi, rfl, rfl, B, rfl, hk, hae, ha⟩, A, rfl, rfl, rfl, rfl, rfl, hq, hq1, hn, hG⟩
    obtain ⟨X', C', F⟩ := id B
    obtain ⟨c1, c2, c3, c4, c5, -, -⟩ := id C'
    have f' := F.fin f
    have hp6 := hposle i
    have k56 := fx f' 97 56 123 (by decide +kernel)
    have k57 := fx f' 97 57 124 (by decide +kernel)
    have hadl' := hadl i
    have bq := bigLen_bd (n := q.2) (by omega)
    generalize hms : modesP N S beg (L.take i) = ms at *
    rw [V_X12_findModes_127, show (2 : Int32) = nI 2 from rfl, nI_add, nI_leI (by omega) (by omega)]
    refine ⟨fun cA => ?_, fun cA => ?_⟩
    · have hn2 : n = 2 + N := by omega
      subst hn2
      have hG := (hG.resolve_left (by omega)).2
      rw [show 2 + N - (2 + N) = 0 by omega, nearGo] at hG
      have v233 : ¬ (0 < S ∧ ms.sm (a % (256 * S)) = a ∧ 1 < bigLen q.2) → V_X12_findModes_233 w SH 97 (nI N) (nI S) (nI ms.nx) (nI ms.p) (nI i) (nI a) (nI q.1) (nI (bigLen q.2)) (nI q.2) h' (fun x0 x2 x3 x4 h_1 => ∃ a_1, a_1 < (L.length - i - 1) * 1000 + 100 + (40 - (2 + N)) ∧ fmI17 N S h a_1 x0 x2 x3 x4 h_1) (fun x0 x2 x3 x4 h_1 => ∃ a_1, a_1 < (L.length - i - 1) * 1000 + 100 + (40 - (2 + N)) ∧ fmI41 N S h a_1 x0 x2 x3 x4 h_1) (fun x0 x2 x3 x4 x5 x6 h_1 => ∃ a_1, a_1 < (L.length - i - 1) * 1000 + 100 + (40 - (2 + N)) ∧ fmI80 N S beg L h a_1 x0 x2 x3 x4 x5 x6 h_1) (fun x0 x2 x3 x4 x5 x6 x7 x8 x9 x10 x11 h_1 => ∃ a_1, a_1 < (L.length - i - 1) * 1000 + 100 + (40 - (2 + N)) ∧ fmI127 N S beg L h a_1 x0 x2 x3 x4 x5 x6 x7 x8 x9 x10 x11 h_1) (fun x0 x2 x3 x4 x5 x6 x7 x8 x10 x12 h_1 => ∃ a_1, a_1 < (L.length - i - 1) * 1000 + 100 + (40 - (2 + N)) ∧ fmI278 N S beg L h a_1 x0 x2 x3 x4 x5 x6 x7 x8 x10 x12 h_1) (fun h1 => StV h1 L (modesP N S beg L).md ∧ AaV h1 (modesP N S beg L).ad ∧ Fm [50] FJ [] h h1) := by
        intro hn y1 e1
        refine ⟨fun _ y4 e4 => ?_, fun c => absurd e1 c⟩
        rw [show (1 : Int32) = nI 1 from rfl, pk_sub (by omega)] at e4
        refine ⟨_, ?_, i, a, q, bigLen q.2, ms.ad, ⟨rfl, rfl, rfl, rfl, hi, by rw [hms], by rw [hms], B, rfl, hk, hae, by rw [hms]; exact ha⟩, A, rfl, rfl, rfl, Or.inl ⟨e4, by omega⟩, hq, by omega, ?_, by rw [hms]; rfl, by rw [hms]⟩
        · omega
        · rw [hms]; unfold tellP
          rw [← hG, if_neg hn]
      rw [show (0 : Int32) = nI 0 from rfl, nI_leI (by omega) (by omega)]
      refine ⟨fun cB => v233 fun z => by omega, fun cB => ⟨rfl, ?_⟩⟩
      have hm := Nat.mod_lt a (show 0 < 256 * S by omega)
      rw [show (256 : Int32) * nI S = nI (256 * S) from pk_mul 256 S, nI_eq (by omega) (by omega), pk_rem (by omega) (by omega) (by omega), k57, nI_clamp (by omega), c2 _ hm, nI_eq (by have := c4 (a % (256 * S)); omega) (by omega), show (1 : Int32) = nI 1 from rfl, nI_leI (by omega) (by omega)]
      refine ⟨by omega, 4096, rfl, vp_in_nI (by omega) (by decide), fun cC => v233 fun z => cC z.2.1, fun cC => ⟨fun cD => v233 fun z => by omega, fun cD => ?_⟩⟩
      intro y1 e1
      refine ⟨fun c => absurd (e1.symm.trans c) (by decide), fun _ => ⟨?_, fun y7 e7 => ⟨rfl, _, M_addAddress f' A (by omega) _, fun h13 hp13 => ?_⟩⟩⟩
      · rw [show (256 : Int32) * nI S = nI (256 * S) from pk_mul 256 S, show (0 : Int32) = nI 0 from rfl, nI_eq (by omega) (by omega)]; omega
      · rw [show (256 : Int32) * nI S = nI (256 * S) from pk_mul 256 S, pk_rem (by omega) (by omega) (by omega), show (256 : Int32) = nI 256 from rfl, pk_div (by omega) (by decide) (by decide), show (2 : Int32) = nI 2 from rfl, nI_add, nI_add] at e7
        obtain ⟨A13, F13, -⟩ := hp13
        rw [show (256 : Int32) = nI 256 from rfl, pk_rem (by omega) (by decide) (by decide), un_nI (by omega)] at A13
        subst e7
        have X13 : fmB N S beg L h i h13 := by
          unfold fmB
          rw [hms]
          exact ⟨X'.fm F13 (by simp) (by simp), C'.fm F13 (by simp) (by simp), F.tr (F13.mono (by simp) (by simp) (by simp))⟩
        have := M_fm317 (w := w) (h1 := h13) (a := a) (here := ms.p) (mode := 2 + N + a % (256 * S) / 256) (ad := [a % 256]) (F13.fin f') X13 (by rw [hms]; exact A13) hi hl (by omega) ⟨hk, hae⟩ (by rw [hms]) (by
          rw [hms]; unfold tellP
          rw [← hG, if_pos ⟨by omega, cC, by omega⟩]) (L17 := fun x0 x2 x3 x4 h_1 => ∃ a_1, a_1 < (L.length - i - 1) * 1000 + 100 + (40 - (2 + N)) ∧ fmI17 N S h a_1 x0 x2 x3 x4 h_1) (L41 := fun x0 x2 x3 x4 h_1 => ∃ a_1, a_1 < (L.length - i - 1) * 1000 + 100 + (40 - (2 + N)) ∧ fmI41 N S h a_1 x0 x2 x3 x4 h_1) (L80 := fun x0 x2 x3 x4 x5 x6 h_1 => ∃ a_1, a_1 < (L.length - i - 1) * 1000 + 100 + (40 - (2 + N)) ∧ fmI80 N S beg L h a_1 x0 x2 x3 x4 x5 x6 h_1) (L127 := fun x0 x2 x3 x4 x5 x6 x7 x8 x9 x10 x11 h_1 => ∃ a_1, a_1 < (L.length - i - 1) * 1000 + 100 + (40 - (2 + N)) ∧ fmI127 N S beg L h a_1 x0 x2 x3 x4 x5 x6 x7 x8 x9 x10 x11 h_1) (L278 := fun x0 x2 x3 x4 x5 x6 x7 x8 x10 x12 h_1 => ∃ a_1, a_1 < (L.length - i - 1) * 1000 + 100 + (40 - (2 + N)) ∧ fmI278 N S beg L h a_1 x0 x2 x3 x4 x5 x6 x7 x8 x10 x12 h_1) (RET := fun h1 => StV h1 L (modesP N S beg L).md ∧ AaV h1 (modesP N S beg L).ad ∧ Fm [50] FJ [] h h1) (fun h' e => ⟨_, by omega, rfl, rfl, rfl, i + 1, rfl, by omega, rfl, rfl, rfl, e⟩)
        rw [hms] at this
        exact this
    · have v195 : ∀ q' : Nat × Nat, q'.2 < 6049 → q'.1 < 100 → nearGo ms.nr a (2 + N - (n + 1)) (n + 1 - 2) q' = nearGo ms.nr a N 0 (self0 a ms.p) → V_X12_findModes_195 w SH 97 (nI N) (nI S) (nI ms.nx) (nI ms.p) (nI i) (nI a) (nI q'.1) (nI (bigLen q'.2)) (nI q'.2) (nI n) h' (fun x0 x2 x3 x4 h_1 => ∃ a_1, a_1 < (L.length - i - 1) * 1000 + 100 + (40 - n) ∧ fmI17 N S h a_1 x0 x2 x3 x4 h_1) (fun x0 x2 x3 x4 h_1 => ∃ a_1, a_1 < (L.length - i - 1) * 1000 + 100 + (40 - n) ∧ fmI41 N S h a_1 x0 x2 x3 x4 h_1) (fun x0 x2 x3 x4 x5 x6 h_1 => ∃ a_1, a_1 < (L.length - i - 1) * 1000 + 100 + (40 - n) ∧ fmI80 N S beg L h a_1 x0 x2 x3 x4 x5 x6 h_1) (fun x0 x2 x3 x4 x5 x6 x7 x8 x9 x10 x11 h_1 => ∃ a_1, a_1 < (L.length - i - 1) * 1000 + 100 + (40 - n) ∧ fmI127 N S beg L h a_1 x0 x2 x3 x4 x5 x6 x7 x8 x9 x10 x11 h_1) (fun x0 x2 x3 x4 x5 x6 x7 x8 x10 x12 h_1 => ∃ a_1, a_1 < (L.length - i - 1) * 1000 + 100 + (40 - n) ∧ fmI278 N S beg L h a_1 x0 x2 x3 x4 x5 x6 x7 x8 x10 x12 h_1) (fun h1 => StV h1 L (modesP N S beg L).md ∧ AaV h1 (modesP N S beg L).ad ∧ Fm [50] FJ [] h h1) := by
        intro q' h1 h2 h3 y1 e1
        rw [nI_1] at e1
        refine ⟨_, ?_, i, a, q', n + 1, ⟨rfl, rfl, rfl, rfl, hi, by rw [hms], by rw [hms], B, rfl, hk, hae, by rw [hms]; exact ha⟩, by rw [hms]; exact A, rfl, rfl, rfl, rfl, e1, h1, h2, by omega, Or.inr ⟨?_, by rw [hms]; exact h3⟩⟩
        · omega
        · rcases hG with ⟨z, _⟩ | ⟨z, _⟩ <;> omega
      have v161 : ∀ (s0 : Int32) (ok : Prop) (y : Nat), (s0 < 0 ↔ ¬ ok) → (ok → s0 = nI y) → y < 6049 → (∀ q' : Nat × Nat, ((ok ∧ bigLen y < bigLen q.2) → q' = (n, y)) → (¬ (ok ∧ bigLen y < bigLen q.2) → q' = q) → nearGo ms.nr a (2 + N - (n + 1)) (n + 1 - 2) q' = nearGo ms.nr a N 0 (self0 a ms.p)) → V_X12_findModes_161 w SH 97 (nI N) (nI S) (nI ms.nx) (nI ms.p) (nI i) (nI a) (nI q.1) (nI (bigLen q.2)) (nI q.2) (nI n) s0 h' (fun x0 x2 x3 x4 h_1 => ∃ a_1, a_1 < (L.length - i - 1) * 1000 + 100 + (40 - n) ∧ fmI17 N S h a_1 x0 x2 x3 x4 h_1) (fun x0 x2 x3 x4 h_1 => ∃ a_1, a_1 < (L.length - i - 1) * 1000 + 100 + (40 - n) ∧ fmI41 N S h a_1 x0 x2 x3 x4 h_1) (fun x0 x2 x3 x4 x5 x6 h_1 => ∃ a_1, a_1 < (L.length - i - 1) * 1000 + 100 + (40 - n) ∧ fmI80 N S beg L h a_1 x0 x2 x3 x4 x5 x6 h_1) (fun x0 x2 x3 x4 x5 x6 x7 x8 x9 x10 x11 h_1 => ∃ a_1, a_1 < (L.length - i - 1) * 1000 + 100 + (40 - n) ∧ fmI127 N S beg L h a_1 x0 x2 x3 x4 x5 x6 x7 x8 x9 x10 x11 h_1) (fun x0 x2 x3 x4 x5 x6 x7 x8 x10 x12 h_1 => ∃ a_1, a_1 < (L.length - i - 1) * 1000 + 100 + (40 - n) ∧ fmI278 N S beg L h a_1 x0 x2 x3 x4 x5 x6 x7 x8 x10 x12 h_1) (fun h1 => StV h1 L (modesP N S beg L).md ∧ AaV h1 (modesP N S beg L).ad ∧ Fm [50] FJ [] h h1) := by
        intro s0 ok y hok hsy hy hgo y1 e1
        subst e1
        refine ⟨fun c => v195 q hq hq1 (hgo q (fun z => absurd z.1 (hok.mp c)) fun _ => rfl), fun c => ?_⟩
        have ho : ok := Classical.byContradiction fun z => c (hok.mpr z)
        have ey := hsy ho
        subst ey
        have by' := bigLen_bd (n := y) (by omega)
        rw [nI_l (by omega)]
        refine ⟨_, M_bigSize y (by omega), fun v8 h7 hp7 => ?_⟩
        obtain ⟨z1, z2⟩ := hp7
        obtain rfl := z1.symm
        rw [z2, nI_leI (by omega) (by omega)]
        refine ⟨fun c2 => v195 q hq hq1 (hgo q (fun z => by omega) fun _ => rfl), fun c2 => ⟨_, M_bigSize y (by omega), fun v14 h13 hp13 y15 e15 y17 e17 y19 e19 => ?_⟩⟩
        obtain ⟨z1, z3⟩ := hp13
        obtain rfl := z1.symm
        rw [z3] at e15
        rw [e15, e17, e19]
        exact v195 (n, y) hy (by show n < 100; omega) (hgo (n, y) (fun _ => rfl) fun z => absurd ⟨ho, by omega⟩ z)
      rw [show (1 : Int32) = nI 1 from rfl, nI_eq (by omega) (by omega)]
      refine ⟨fun cB => ⟨rfl, 32, by rw [k56]; rfl, ?_, ?_⟩, fun cB => ?_⟩
      · have h2 : 2 ≤ n := by rcases hG with ⟨z, _⟩ | ⟨z, _⟩ <;> omega
        rw [pk_sub h2]; exact vp_in_nI (by omega) (by decide)
      · have h2 : 2 ≤ n := by rcases hG with ⟨z, _⟩ | ⟨z, _⟩ <;> omega
        have hG := (hG.resolve_left (by omega)).2
        rw [pk_sub h2, k56, nI_clamp (by omega), c1 _ (by omega)]
        have hnr := c3 (n - 2)
        refine v161 _ (ms.nr (n - 2) ≤ a) (a - ms.nr (n - 2)) ?_ (fun z => pk_sub z) (by omega) fun q' g1 g2 => ?_
        · rw [Int32.lt_iff_toInt_lt, pk_sub_toInt (by omega) (by omega), show (0 : Int32).toInt = 0 from by decide]; omega
        · rw [show 2 + N - n = (2 + N - (n + 1)) + 1 by omega, nearGo_succ] at hG
          rw [← hG, show n + 1 - 2 = n - 2 + 1 by omega]
          congr 1
          split
          · rename_i z
            rw [g1 z, show 2 + (n - 2) = n by omega]
          · rename_i z; exact g2 z
      · obtain ⟨-, rfl⟩ := hG.resolve_right (by omega)
        subst cB
        refine v161 _ True (ms.p - a) ?_ (fun _ => pk_sub (by omega)) (by omega) fun q' g1 g2 => ?_
        · rw [Int32.lt_iff_toInt_lt, pk_sub_toInt (by omega) (by omega), show (0 : Int32).toInt = 0 from by decide]
          constructor
          · intro z; omega
          · intro z; exact absurd trivial z
        · rw [show 2 + N - (1 + 1) = N by omega]
          congr 1
          unfold self0
          split
          · rename_i z; exact g1 ⟨trivial, z⟩
          · rename_i z; exact g2 fun zz => z zz.2
  · rintro m x0 x2 x3 x4 x5 x6 x7 x8 x10 x12 h' ⟨i, a, q, n, ad, ⟨rfl, rfl, rfl, rfl, hi, rfl, rfl, B, rfl, hk, hae, ha⟩, A, rfl, rfl, rfl, hx, hq, hn, et, ead, eal⟩
    have hp6 := hposle i
    have hadl' := hadl i
    have bq := bigLen_bd (n := q.2) (by omega)
    obtain ⟨X', C', F⟩ := id B
    have f' := F.fin f
    rcases hx with ⟨rfl, hm1⟩ | ⟨rfl, rfl⟩
    rotate_left
    · refine ⟨fun _ => ?_, fun c => absurd (by decide) c⟩
      rw [show bigR q.2 0 = [] from rfl, List.append_nil] at ead
      subst ead
      exact M_fm317 f' B A hi hl (by omega) ⟨hk, hae⟩ rfl et fun h' e => ⟨_, by omega, rfl, rfl, rfl, i + 1, rfl, by omega, rfl, rfl, rfl, e⟩
    obtain ⟨k, rfl⟩ : ∃ k, n = k + 1 := ⟨n - 1, by omega⟩
    rw [show k + 1 - 1 = k by omega]
    refine ⟨fun c => absurd c (nI_pos (by omega)), fun _ => ?_⟩
    have nx : ∀ s0 : Int32, un (nI (q.2 / 128 ^ k % 128) ||| s0) = q.2 / 128 ^ k % 128 + (if k = 0 then 0 else 128) → V_X12_findModes_307 w SH 97 (nI N) (nI S) (nI (modesP N S beg (L.take i)).nx) (nI (modesP N S beg (L.take i)).p) (nI i) (nI a) (nI q.1) (nI q.2) (nI k) s0 (nI (q.2 / 128 ^ k % 128)) 97 h' (fun x0 x2 x3 x4 h_1 => ∃ a_1, a_1 < (L.length - i - 1) * 1000 + (k + 1 + 1) ∧ fmI17 N S h a_1 x0 x2 x3 x4 h_1) (fun x0 x2 x3 x4 h_1 => ∃ a_1, a_1 < (L.length - i - 1) * 1000 + (k + 1 + 1) ∧ fmI41 N S h a_1 x0 x2 x3 x4 h_1) (fun x0 x2 x3 x4 x5 x6 h_1 => ∃ a_1, a_1 < (L.length - i - 1) * 1000 + (k + 1 + 1) ∧ fmI80 N S beg L h a_1 x0 x2 x3 x4 x5 x6 h_1) (fun x0 x2 x3 x4 x5 x6 x7 x8 x9 x10 x11 h_1 => ∃ a_1, a_1 < (L.length - i - 1) * 1000 + (k + 1 + 1) ∧ fmI127 N S beg L h a_1 x0 x2 x3 x4 x5 x6 x7 x8 x9 x10 x11 h_1) (fun x0 x2 x3 x4 x5 x6 x7 x8 x10 x12 h_1 => ∃ a_1, a_1 < (L.length - i - 1) * 1000 + (k + 1 + 1) ∧ fmI278 N S beg L h a_1 x0 x2 x3 x4 x5 x6 x7 x8 x10 x12 h_1) (fun h1 => StV h1 L (modesP N S beg L).md ∧ AaV h1 (modesP N S beg L).ad ∧ Fm [50] FJ [] h h1) := by
      intro s0 hs0
      refine ⟨rfl, _, M_addAddress f' A (by omega) _, fun h5 hp5 y6 e6 => ?_⟩
      obtain ⟨A5, F5, -⟩ := hp5
      rw [hs0] at A5
      refine ⟨_, ?_, i, a, q, k, _, ⟨rfl, rfl, rfl, rfl, hi, rfl, rfl, ⟨X'.fm F5 (by simp) (by simp), C'.fm F5 (by simp) (by simp), F.tr (F5.mono (by simp) (by simp) (by simp))⟩, rfl, hk, hae, ha⟩, A5, rfl, rfl, rfl, ?_, hq, by omega, et, ?_, ?_⟩
      · omega
      · cases k with
        | zero => exact Or.inr ⟨by rw [e6]; decide, rfl⟩
        | succ k => exact Or.inl ⟨by rw [e6, addm1]; exact nI_pred k, by omega⟩
      · rw [bigR_un] at ead
        rw [List.append_assoc]; exact ead
      · rw [List.length_append, List.length_singleton]; omega
    have hv : q.2 / 128 ^ k % 128 < 128 := Nat.mod_lt _ (by decide)
    rw [sar7 (by omega) (by omega), show (0 : Int32) = nI 0 from rfl, nI_leI (by omega) (by decide)]
    refine ⟨fun c => nx _ ?_, fun c => nx _ ?_⟩
    · rw [if_pos (by omega)]; exact (un_or (k := 0) hv).1
    · rw [if_neg (by omega)]; exact (un_or (k := 0) hv).2
