/-! the reference finds its modes (my own) -/
theorem nI_sar {n j : Nat} (hn : n < 2 ^ 31) (hj : j < 32) : nI n >>> (nI j &&& 31) = nI (n / 2 ^ j) := by
  have hb : ∀ (m i : Nat), i < 32 → bt (nI m) i = m.testBit i := fun m i hi => by
    unfold bt
    have : (nI m).toBitVec = BitVec.ofNat 32 m := by simp [nI, Int32.toBitVec_ofNat']
    rw [this, BitVec.getLsbD_ofNat]
    simp [hi]
  apply b_ext
  intro i hi
  rw [b_sshr j hj _ hi, hb _ _ hi, Nat.testBit_div_two_pow]
  split
  · rename_i q
    rw [hb _ _ q, Nat.add_comm]
  · rename_i q
    rw [hb _ _ (by decide), Nat.testBit_lt_two_pow hn]
    symm
    apply Nat.testBit_lt_two_pow
    exact Nat.lt_of_lt_of_le hn (Nat.pow_le_pow_right (by decide) (by omega))
theorem sar7 {n k : Nat} (hn : n < 2 ^ 31) (hk : k < 5) : (nI n >>> (((7 : Int32) * nI k) &&& 31)) &&& (127 : Int32) = nI (n / 128 ^ k % 128) := by
  have := Nat.div_le_self n (2 ^ (7 * k))
  rw [show (7 : Int32) * nI k = nI (7 * k) from pk_mul 7 k, nI_sar hn (by omega), p128, pk_andN (by omega) (m := 127) 7 (by decide)]
theorem un_or {v k : Nat} (hv : v < 128) : un (nI v ||| (0 : Int32)) = v + 0 ∧ un (nI v ||| (128 : Int32)) = v + 128 := by
  refine ⟨?_, ?_⟩
  · rw [show nI v ||| (0 : Int32) = nI v from Int32.or_zero, un_nI (by omega)]; rfl
  · rw [or128 _ hv, un_nI (by omega)]; omega
def CaV (h : Hp) (N S : Nat) (nr sm : Nat → Nat) (nx : Nat) : Prop := (∀ j, j < N → h.1 123 j = nI (nr j)) ∧ (∀ j, j < 256 * S → h.1 124 j = nI (sm j)) ∧ (∀ j, nr j < 6048) ∧ (∀ j, sm j < 6048) ∧ (nx < N ∨ N = 0 ∧ nx = 0) ∧ N ≤ 32 ∧ S ≤ 16
theorem CaV.fm {K Q L : List Nat} {h h1 : Hp} {N S : Nat} {nr sm : Nat → Nat} {nx : Nat} (X : CaV h N S nr sm nx) (F : Fm K Q L h h1) (a : 123 ∉ Q) (b : 124 ∉ Q) : CaV h1 N S nr sm nx := by
  unfold CaV
  rw [F.2.2.1 123 (by decide) a, F.2.2.1 124 (by decide) b]
  exact X
abbrev FJ : List Nat := [118, 122, 123, 124]
theorem modesP_take {N S beg i : Nat} {L : List Sp3} (hi : i < L.length) : modesP N S beg (L.take (i + 1)) = mstep N S (modesP N S beg (L.take i)) (L.getD i (0, 0, 0)) := by
  rw [← modesP_snoc]
  congr 1
  rw [List.take_add_one, List.getElem?_eq_getElem hi, List.getD_eq_getElem?_getD, List.getElem?_eq_getElem hi]
  rfl
/-- where the reference stands before the step i -/
def fmB (N S beg : Nat) (L : List Sp3) (h : Hp) (i : Nat) (h' : Hp) : Prop := StV h' L (modesP N S beg (L.take i)).md ∧ CaV h' N S (modesP N S beg (L.take i)).nr (modesP N S beg (L.take i)).sm (modesP N S beg (L.take i)).nx ∧ Fm [50] FJ [] h h'
def fmE (N S beg : Nat) (L : List Sp3) (h : Hp) (i : Nat) (h' : Hp) : Prop := fmB N S beg L h i h' ∧ AaV h' (modesP N S beg (L.take i)).ad
theorem M_fm366 {w : Wd} {L : List Sp3} {h1 : Hp} {i here : Nat} {md : List Nat} {x2 x3 x4 : Int32} {L17 L41 : Nat → Int32 → Int32 → Int32 → Hp → Prop} {L80 : Nat → Int32 → Int32 → Int32 → Int32 → Int32 → Hp → Prop} {L127 : Nat → Int32 → Int32 → Int32 → Int32 → Int32 → Int32 → Int32 → Int32 → Int32 → Int32 → Hp → Prop} {L278 : Nat → Int32 → Int32 → Int32 → Int32 → Int32 → Int32 → Int32 → Int32 → Int32 → Hp → Prop} {RET : Hp → Prop} (f : Fin h1) (X : StV h1 L md) (hi : i < L.length) (hl : L.length < 1000) (hL : L80 97 x2 x3 x4 (nI (here + (L.getD i (0, 0, 0)).2.1)) (nI (i + 1)) h1) : V_X12_findModes_366 w SH 97 x2 x3 x4 (nI here) (nI i) h1 L17 L41 L80 L127 L278 RET := by
  have k53 := fx f 97 53 120 (by decide +kernel)
  refine ⟨rfl, 2100, by rw [k53]; rfl, vp_in_nI (by omega) (by decide), fun y5 e5 y7 e7 => ?_⟩
  rw [k53, nI_clamp (by omega), (X.2 i hi).2.1, nI_add] at e5
  rw [nI_1] at e7
  subst e5; subst e7
  exact hL
theorem M_fm317 {w : Wd} {N S beg : Nat} {L : List Sp3} {h h1 : Hp} {i here a mode : Nat} {ad : List Nat} {L17 L41 : Nat → Int32 → Int32 → Int32 → Hp → Prop} {L80 : Nat → Int32 → Int32 → Int32 → Int32 → Int32 → Hp → Prop} {L127 : Nat → Int32 → Int32 → Int32 → Int32 → Int32 → Int32 → Int32 → Int32 → Int32 → Int32 → Hp → Prop} {L278 : Nat → Int32 → Int32 → Int32 → Int32 → Int32 → Int32 → Int32 → Int32 → Int32 → Hp → Prop} {RET : Hp → Prop} (f : Fin h1) (B : fmB N S beg L h i h1) (A : AaV h1 ((modesP N S beg (L.take i)).ad ++ ad)) (hi : i < L.length) (hl : L.length < 1000) (ha : a < 6048) (ek : (L.getD i (0, 0, 0)).1 = 3 ∧ (L.getD i (0, 0, 0)).2.2 = a) (eh : (modesP N S beg (L.take i)).p = here) (et : tellP N S (modesP N S beg (L.take i)).nr (modesP N S beg (L.take i)).sm a here = (mode, ad)) (hL : ∀ h', fmE N S beg L h (i + 1) h' → L80 97 (nI N) (nI S) (nI (modesP N S beg (L.take (i + 1))).nx) (nI (modesP N S beg (L.take (i + 1))).p) (nI (i + 1)) h') : V_X12_findModes_317 w SH 97 (nI N) (nI S) (nI (modesP N S beg (L.take i)).nx) (nI here) (nI i) (nI a) (nI mode) h1 L17 L41 L80 L127 L278 RET := by
  obtain ⟨X, C, F⟩ := B
  have hmd := modesP_len N S beg (L.take i)
  have em := modesP_take (N := N) (S := S) (beg := beg) hi
  unfold mstep at em
  rw [if_pos ek.1, ek.2, eh, et] at em
  have hlen : (L.take i).length = i := by rw [List.length_take]; omega
  rw [hlen] at hmd
  generalize hms : modesP N S beg (L.take i) = ms at *
  obtain ⟨c1, c2, c3, c4, c5, c6, c7⟩ := C
  have k55 := fx f 97 55 122 (by decide +kernel)
  have k56 := fx f 97 56 123 (by decide +kernel)
  have k57 := fx f 97 57 124 (by decide +kernel)
  have v347 : ∀ h2 : Hp, StV h2 L (ms.md ++ [mode]) → (∀ j, j < N → h2.1 123 j = nI (keepN N ms.nr ms.nx a j)) → (∀ j, j < 256 * S → h2.1 124 j = nI (ms.sm j)) → Fm [] [122, 123] [] h1 h2 → V_X12_findModes_347 w SH 97 (nI N) (nI S) (nI (keepX N ms.nx)) (nI here) (nI i) (nI a) h2 L17 L41 L80 L127 L278 RET := by
    intro h2 X2 d1 d2 F2
    have f2 := F2.fin f
    have k57 := fx f2 97 57 124 (by decide +kernel)
    have fin : ∀ h3 : Hp, Fm [] [124] [] h2 h3 → (∀ j, j < 256 * S → h3.1 124 j = nI (keepS S ms.sm a j)) → V_X12_findModes_366 w SH 97 (nI N) (nI S) (nI (keepX N ms.nx)) (nI here) (nI i) h3 L17 L41 L80 L127 L278 RET := by
      intro h3 F3 d3
      have X3 := X2.fm F3 (by simp) (by simp)
      refine M_fm366 (F3.fin f2) X3 hi hl ?_
      have e : fmE N S beg L h (i + 1) h3 := by
        unfold fmE fmB
        rw [em]
        refine ⟨⟨X3, ⟨?_, d3, ?_, ?_, ?_, c6, c7⟩, ?_⟩, ?_⟩
        · intro j hj; rw [F3.2.2.1 123 (by decide) (by simp)]; exact d1 j hj
        · intro j; show keepN N ms.nr ms.nx a j < 6048
          unfold keepN; split
          · unfold updN; split
            · exact ha
            · exact c3 j
          · exact c3 j
        · intro j; show keepS S ms.sm a j < 6048
          unfold keepS; split
          · unfold updN; split
            · exact ha
            · exact c4 j
          · exact c4 j
        · show keepX N ms.nx < N ∨ N = 0 ∧ keepX N ms.nx = 0
          unfold keepX; split
          · exact Or.inl (Nat.mod_lt _ (by omega))
          · exact Or.inr ⟨by omega, by omega⟩
        · exact (F.tr (F2.mono (by simp) (by simp) (by simp))).tr (F3.mono (by simp) (by simp) (by simp))
        · exact (A.fm F2 (by simp) (by simp)).fm F3 (by simp) (by simp)
      have := hL h3 e
      rw [em] at this
      exact this
    rw [V_X12_findModes_347, show (0 : Int32) = nI 0 from rfl, nI_leI (by omega) (by omega)]
    refine ⟨fun c => fin h2 Fm.rf fun j hj => by omega, fun c => ?_⟩
    rw [show (256 : Int32) * nI S = nI (256 * S) from pk_mul 256 S, nI_eq (by omega) (by omega), pk_rem (by omega) (by omega) (by omega)]
    have hm := Nat.mod_lt a (show 0 < 256 * S by omega)
    refine ⟨rfl, by omega, 4096, by rw [k57]; rfl, vp_in_nI (by omega) (by decide), fun h7 e7 => ?_⟩
    rw [k57, nI_clamp (by omega)] at e7
    subst e7
    refine fin _ (Fm.rf.putC (by decide) (by simp)) fun j hj => ?_
    have e9 : keepS S ms.sm a j = if j = a % (256 * S) then a else ms.sm j := by unfold keepS; rw [if_pos (show 0 < S by omega)]; rfl
    rw [wI_if, e9]
    split
    · rfl
    · exact d2 j hj
  refine ⟨rfl, 2100, by rw [k55]; rfl, vp_in_nI (by omega) (by decide), fun h5 e5 => ?_⟩
  rw [k55, nI_clamp (by omega)] at e5
  have F5 : Fm [] [122, 123] [] h1 h5 := by rw [e5]; exact Fm.rf.putC (by decide) (by simp)
  have X5 : StV h5 L (ms.md ++ [mode]) := by
    refine ⟨by rw [e5, wI_cell (by decide)]; exact X.1, fun j hj => ?_⟩
    have Xj := X.2 j hj
    rw [e5, wI_if, wI_cell (by decide), wI_cell (by decide), wI_cell (by decide), getD_snoc, hmd]
    refine ⟨Xj.1, Xj.2.1, Xj.2.2.1, ?_⟩
    split
    · rfl
    · exact Xj.2.2.2
  have d1 : ∀ j, j < N → h5.1 123 j = nI (ms.nr j) := fun j hj => by rw [e5, wI_cell (by decide)]; exact c1 j hj
  have d2 : ∀ j, j < 256 * S → h5.1 124 j = nI (ms.sm j) := fun j hj => by rw [e5, wI_cell (by decide)]; exact c2 j hj
  rw [show (0 : Int32) = nI 0 from rfl, nI_leI (by omega) (by omega), k56]
  refine ⟨fun c => ?_, fun c => ⟨32, rfl, vp_in_nI (by omega) (by decide), fun h11 e11 => ?_⟩⟩
  · have := v347 h5 X5 (fun j hj => by omega) d2 F5
    have ex : keepX N ms.nx = ms.nx := by unfold keepX; rw [if_neg (by omega)]
    rw [ex] at this
    exact this
  · rw [nI_clamp (by omega)] at e11
    rw [nI_1, pk_rem (by omega) (by omega) (by omega), nI_eq (by omega) (by omega)]
    refine ⟨by omega, fun y14 e14 => ?_⟩
    subst e14
    have ex : keepX N ms.nx = (ms.nx + 1) % N := by unfold keepX; rw [if_pos (by omega)]
    rw [← ex]
    have Fx : Fm [] [123] [] h5 h11 := by rw [e11]; exact Fm.rf.putC (by decide) (by simp)
    refine v347 h11 (X5.fm Fx (by simp) (by simp)) (fun j hj => ?_) (fun j hj => by rw [Fx.2.2.1 124 (by decide) (by simp)]; exact d2 j hj) (F5.tr (Fx.mono (by simp) (by simp) (by simp)))
    have e9 : keepN N ms.nr ms.nx a j = if j = ms.nx then a else ms.nr j := by unfold keepN; rw [if_pos (show 0 < N by omega)]; rfl
    rw [e11, wI_if, e9]
    split
    · rfl
    · exact d1 j hj
def fmI17 (N S : Nat) (h : Hp) (m x0 : Nat) (x2 x3 x4 : Int32) (h' : Hp) : Prop := x0 = 97 ∧ x2 = nI N ∧ x3 = nI S ∧ ∃ j, x4 = nI j ∧ j ≤ 32 ∧ m = 30000000 + (40 - j) ∧ (∀ i, i < j → h'.1 123 i = 0) ∧ Fm [50] [123, 124] [] h h'
def fmI41 (N S : Nat) (h : Hp) (m x0 : Nat) (x2 x3 x4 : Int32) (h' : Hp) : Prop := x0 = 97 ∧ x2 = nI N ∧ x3 = nI S ∧ ∃ j, x4 = nI j ∧ j ≤ 4096 ∧ m = 20000000 + (4100 - j) ∧ (∀ i, i < 32 → h'.1 123 i = 0) ∧ (∀ i, i < j → h'.1 124 i = 0) ∧ Fm [50] [123, 124] [] h h'
def fmI80 (N S beg : Nat) (L : List Sp3) (h : Hp) (m x0 : Nat) (x2 x3 x4 x5 x6 : Int32) (h' : Hp) : Prop := x0 = 97 ∧ x2 = nI N ∧ x3 = nI S ∧ ∃ i, x6 = nI i ∧ i ≤ L.length ∧ m = (L.length - i) * 1000 ∧ x4 = nI (modesP N S beg (L.take i)).nx ∧ x5 = nI (modesP N S beg (L.take i)).p ∧ fmE N S beg L h i h'
/-- a copy whose address is being told -/
def fmT (N S beg : Nat) (L : List Sp3) (h : Hp) (i a : Nat) (x0 : Nat) (x2 x3 x4 x5 x6 x7 : Int32) (h' : Hp) : Prop := x0 = 97 ∧ x2 = nI N ∧ x3 = nI S ∧ x6 = nI i ∧ i < L.length ∧ x4 = nI (modesP N S beg (L.take i)).nx ∧ x5 = nI (modesP N S beg (L.take i)).p ∧ fmB N S beg L h i h' ∧ x7 = nI a ∧ (L.getD i (0, 0, 0)).1 = 3 ∧ (L.getD i (0, 0, 0)).2.2 = a ∧ a < (modesP N S beg (L.take i)).p
def fmI127 (N S beg : Nat) (L : List Sp3) (h : Hp) (m x0 : Nat) (x2 x3 x4 x5 x6 x7 x8 x9 x10 x11 : Int32) (h' : Hp) : Prop := ∃ (i a : Nat) (q : Nat × Nat) (n : Nat), fmT N S beg L h i a x0 x2 x3 x4 x5 x6 x7 h' ∧ AaV h' (modesP N S beg (L.take i)).ad ∧ m = (L.length - i - 1) * 1000 + 100 + (40 - n) ∧ x8 = nI q.1 ∧ x9 = nI (bigLen q.2) ∧ x10 = nI q.2 ∧ x11 = nI n ∧ q.2 < 6049 ∧ q.1 < 100 ∧ n ≤ 2 + N ∧ (n = 1 ∧ q = (0, a) ∨ 2 ≤ n ∧ nearGo (modesP N S beg (L.take i)).nr a (2 + N - n) (n - 2) q = nearGo (modesP N S beg (L.take i)).nr a N 0 (self0 a (modesP N S beg (L.take i)).p))
def fmI278 (N S beg : Nat) (L : List Sp3) (h : Hp) (m x0 : Nat) (x2 x3 x4 x5 x6 x7 x8 x10 x12 : Int32) (h' : Hp) : Prop := ∃ (i a : Nat) (q : Nat × Nat) (n : Nat) (ad : List Nat), fmT N S beg L h i a x0 x2 x3 x4 x5 x6 x7 h' ∧ AaV h' ad ∧ m = (L.length - i - 1) * 1000 + (n + 1) ∧ x8 = nI q.1 ∧ x10 = nI q.2 ∧ (x12 = nI (n - 1) ∧ 1 ≤ n ∨ x12 = -1 ∧ n = 0) ∧ q.2 < 6049 ∧ n ≤ 2 ∧ tellP N S (modesP N S beg (L.take i)).nr (modesP N S beg (L.take i)).sm a (modesP N S beg (L.take i)).p = (q.1, bigB q.2) ∧ ad ++ bigR q.2 n = (modesP N S beg (L.take i)).ad ++ bigB q.2 ∧ ad.length + n = (modesP N S beg (L.take i)).ad.length + bigLen q.2
theorem sS_take {L : List Sp3} {i : Nat} : sS (L.take i) ≤ sS L := by
  have : sS L = sS (L.take i) + sS (L.drop i) := by
    unfold sS
    rw [← List.sum_append, ← List.map_append, List.take_append_drop]
  omega
theorem sS_take1 {L : List Sp3} {i : Nat} (hi : i < L.length) : sS (L.take (i + 1)) = sS (L.take i) + (L.getD i (0, 0, 0)).2.1 := by
  rw [← sS_snoc]
  congr 1
  rw [List.take_add_one, List.getElem?_eq_getElem hi, List.getD_eq_getElem?_getD, List.getElem?_eq_getElem hi]
  rfl
