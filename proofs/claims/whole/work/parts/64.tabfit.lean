/-! PURE: the usual table tells every table, and in little room (my own) -/
theorem tEU {c k : Nat} (hc : c < 256) (hk : k < 6) : tE (UBy, 4, 3) c k = uW c k := UBy_get hc hk
theorem uW_run : uW 0 0 = 2 ∧ uW 0 1 = 0 ∧ uW 0 2 = 0 ∧ uW 0 3 = 0 := by decide
theorem uW_add : ∀ n, n < 18 → uW (1 + n) 0 = 1 ∧ uW (1 + n) 1 = n ∧ uW (1 + n) 2 = 0 ∧ uW (1 + n) 3 = 0 := by decide
theorem uW_copy0 : ∀ m, m < 9 → uW (19 + 16 * m) 0 = 3 ∧ uW (19 + 16 * m) 1 = 0 ∧ uW (19 + 16 * m) 2 = m ∧ uW (19 + 16 * m) 3 = 0 := by decide
theorem uW_copy : ∀ m, m < 9 → ∀ s, s < 19 → 4 ≤ s → uW (16 + 16 * m + s) 0 = 3 ∧ uW (16 + 16 * m + s) 1 = s ∧ uW (16 + 16 * m + s) 2 = m ∧ uW (16 + 16 * m + s) 3 = 0 := by decide
def okM (m : Mv) : Prop := (m.1 = 1 ∧ m.2.2 = 0 ∧ 1 ≤ m.2.1) ∨ (m.1 = 2 ∧ m.2.2 = 0) ∨ (m.1 = 3 ∧ 4 ≤ m.2.1 ∧ m.2.2 < 9)
def cw (k n : Nat) : Nat := if k = 1 ∧ n < 18 ∨ k = 3 ∧ n < 19 then 1 else 3
theorem lfU {m : Mv} {n c : Nat} (hc : c < 256) (h : uW c 0 = m.1 ∧ uW c 1 = n ∧ uW c 2 = m.2.2 ∧ uW c 3 = 0) : lf (alnB (UBy, 4, 3) m n) 256 ≠ none := by
  intro q
  have := (lf_none (Nat.le_refl _)).mp q c (by omega) hc
  unfold alnB fstB at this
  rw [tEU hc (by decide), tEU hc (by decide), tEU hc (by decide), tEU hc (by decide), decide_eq_true h.2.2.2, decide_eq_true ⟨h.1, h.2.1, h.2.2.1⟩] at this
  cases this
theorem lfU0 {m : Mv} (h : okM m) : lf (alnB (UBy, 4, 3) m 0) 256 ≠ none := by
  rcases h with ⟨h1, h2, h3⟩ | ⟨h1, h2⟩ | ⟨h1, h2, h3⟩
  · refine lfU (c := 1) (by decide) ?_
    rw [h1, h2]; exact uW_add 0 (by decide)
  · refine lfU (c := 0) (by decide) ?_
    rw [h1, h2]; exact uW_run
  · refine lfU (c := 19 + 16 * m.2.2) (by omega) ?_
    rw [h1]; exact uW_copy0 _ h3
theorem lfUs {m : Mv} (h : okM m) (hw : cw m.1 m.2.1 = 1) : lf (alnB (UBy, 4, 3) m m.2.1) 256 ≠ none := by
  unfold cw at hw
  split at hw
  · rename_i q
    rcases q with ⟨q1, q2⟩ | ⟨q1, q2⟩
    · have h2 : m.2.2 = 0 := by rcases h with h | h | h <;> omega
      refine lfU (c := 1 + m.2.1) (by omega) ?_
      rw [q1, h2]; exact uW_add _ q2
    · have h2 : 4 ≤ m.2.1 ∧ m.2.2 < 9 := by rcases h with h | h | h <;> omega
      refine lfU (c := 16 + 16 * m.2.2 + m.2.1) (by omega) ?_
      rw [q1]; exact uW_copy _ h2.2 _ q2 h2.1
  · omega
theorem cw_b (k n : Nat) : cw k n = 1 ∨ cw k n = 3 := by unfold cw; split <;> simp
theorem codeU {M : List Mv} {i : Nat} (h : okM (M.getD i (0, 0, 0))) (hs : (M.getD i (0, 0, 0)).2.1 < 16384) : ∃ b d, codeM (UBy, 4, 3) M i = some (b, d) ∧ b.length ≤ cw (M.getD i (0, 0, 0)).1 (M.getD i (0, 0, 0)).2.1 := by
  have hb := cw_b (M.getD i (0, 0, 0)).1 (M.getD i (0, 0, 0)).2.1
  cases q1 : lf (botB (UBy, 4, 3) M i) 256 with
  | some c => exact ⟨[c], 2, by unfold codeM; rw [q1], by rw [List.length_singleton]; omega⟩
  | none =>
    cases q2 : lf (alnB (UBy, 4, 3) (M.getD i (0, 0, 0)) (M.getD i (0, 0, 0)).2.1) 256 with
    | some c => exact ⟨[c], 1, by unfold codeM; rw [q1, q2], by rw [List.length_singleton]; omega⟩
    | none =>
      have hw : cw (M.getD i (0, 0, 0)).1 (M.getD i (0, 0, 0)).2.1 = 3 := hb.resolve_left fun q => lfUs h q q2
      obtain ⟨c, hc⟩ := Option.ne_none_iff_exists'.mp (lfU0 h)
      refine ⟨_, 1, by unfold codeM; rw [q1, q2, hc], ?_⟩
      have := bigLen2 hs
      rw [hw, List.length_cons, bigB_len]; omega
def wtS (M : List Mv) : Nat := (M.map fun m => cw m.1 m.2.1).sum
theorem wtS_drop {M : List Mv} {i : Nat} (hi : i < M.length) : wtS (M.drop i) = cw (M.getD i (0, 0, 0)).1 (M.getD i (0, 0, 0)).2.1 + wtS (M.drop (i + 1)) := by
  unfold wtS
  rw [List.drop_eq_getElem_cons hi, List.map_cons, List.sum_cons, List.getD_eq_getElem?_getD, List.getElem?_eq_getElem hi]
  rfl
theorem wtS_le (M : List Mv) (i : Nat) : wtS (M.drop (i + 1)) ≤ wtS (M.drop i) := by
  by_cases h : i < M.length
  · have := wtS_drop h; omega
  · rw [List.drop_eq_nil_of_le (by omega), List.drop_eq_nil_of_le (by omega)]; exact Nat.le_refl _
theorem codesU {M : List Mv} (h : ∀ i, i < M.length → okM (M.getD i (0, 0, 0)) ∧ (M.getD i (0, 0, 0)).2.1 < 16384) : ∀ {k i : Nat} {acc : List Nat}, ∃ cs, codesM (UBy, 4, 3) M k i acc = some cs ∧ cs.length ≤ acc.length + wtS (M.drop i)
  | 0, i, acc => ⟨acc, rfl, by omega⟩
  | k + 1, i, acc => by
    rw [codesM]
    by_cases hi : i < M.length
    · rw [if_pos hi]
      obtain ⟨b, d, e, hb⟩ := codeU (h i hi).1 (h i hi).2
      rw [e]
      obtain ⟨cs, e2, hc⟩ := codesU h (k := k) (i := i + d) (acc := acc ++ b)
      refine ⟨cs, e2, ?_⟩
      have hd := codeM_d e
      have h1 := wtS_drop hi
      have h2 := wtS_le M (i + 1)
      rw [List.length_append] at hc
      have : d = 1 ∨ d = 2 := by omega
      rcases this with rfl | rfl
      · omega
      · rw [show i + 2 = i + 1 + 1 from rfl] at hc; omega
    · rw [if_neg hi]; exact ⟨acc, rfl, by omega⟩
/-! steps -/
theorem stepsP_StI {sp : List Nat} {beg : Nat} (hl : sp.length ≤ 6048) : ∀ {k p : Nat} {L : List Sp3}, StI L → p = beg + sS L → p ≤ sp.length → sp.length - p ≤ k → StI (stepsP sp k p L) ∧ beg + sS (stepsP sp k p L) = sp.length
  | 0, p, L, X, e, h1, h2 => by rw [stepsP]; exact ⟨X, by omega⟩
  | k + 1, p, L, X, e, h1, h2 => by
    rw [stepsP]
    by_cases hp : p < sp.length
    · rw [if_pos hp]
      obtain ⟨a1, a2⟩ := stepP_adv (L := L) hp
      have hr := runN_le hp
      have hf := findP_ok sp p
      have key : StI (stepP sp p L).2 ∧ (stepP sp p L).1 = beg + sS (stepP sp p L).2 := by
        unfold stepP
        split
        · rename_i q
          exact ⟨X.copy 2 _ 0 (Or.inl rfl) q.1 (by decide), by show p + runN sp p = beg + sS (L ++ [_]); rw [sS_snoc]; show _ = beg + (sS L + runN sp p); omega⟩
        split
        · rename_i q
          exact ⟨X.copy 3 _ _ (Or.inr rfl) (by omega) (by omega), by show p + (findP sp p).2 = beg + sS (L ++ [_]); rw [sS_snoc]; show _ = beg + (sS L + (findP sp p).2); omega⟩
        · have := X.add
          exact ⟨this.1, by show p + 1 = beg + sS (addS L); omega⟩
      exact stepsP_StI hl key.1 key.2 a2 (by omega)
    · rw [if_neg hp]; exact ⟨X, by omega⟩
theorem wtS_moves (L : List Sp3) (md : List Nat) : wtS (movesP L md) = (L.map fun x => cw x.1 x.2.1).sum := by
  unfold wtS movesP
  rw [List.map_map]
  congr 1
  apply List.ext_getElem
  · simp
  · intro i h1 h2
    simp at h1 h2 ⊢
    rw [List.getElem?_eq_getElem h1]
    rfl
theorem fitU {N S beg : Nat} {sp : List Nat} : ∀ {L : List Sp3}, (∀ x ∈ L, okS x) → beg + sS L < 16384 → 9 * ((modesP N S beg L).ad.length + (dataP sp beg L).2.length + (L.map fun x => cw x.1 x.2.1).sum) ≤ 10 * sS L + 9 * aS L := by
  intro L
  refine snoc_ind (P := fun L => (∀ x ∈ L, okS x) → beg + sS L < 16384 → 9 * ((modesP N S beg L).ad.length + (dataP sp beg L).2.length + (L.map fun x => cw x.1 x.2.1).sum) ≤ 10 * sS L + 9 * aS L) ?_ ?_ L
  · intro _ _; exact Nat.le_refl _
  · intro l x ih h1 h2
    rw [sS_snoc] at h2
    have i1 := ih (fun y hy => h1 y (List.mem_append.mpr (Or.inl hy))) (by omega)
    have hx := h1 x (by simp)
    have hp := modesP_p N S beg l
    rw [modesP_snoc, dataP_snoc, sS_snoc, aS_snoc, List.map_append, List.sum_append]
    have ht := tellP_ok (N := N) (S := S) (nr := (modesP N S beg l).nr) (sm := (modesP N S beg l).sm) (show x.2.2 < 16384 by have := hx.2; omega) (here := (modesP N S beg l).p) (by omega)
    obtain ⟨k, n, a⟩ := x
    have e2 : (dstep sp (dataP sp beg l) (k, n, a)).2 = (dataP sp beg l).2 ++ (if k = 1 then (sp.drop (dataP sp beg l).1).take n else if k = 2 then [sp.getD (dataP sp beg l).1 0] else []) := rfl
    rw [e2, List.length_append]
    simp only [List.map_cons, List.map_nil, List.sum_cons, List.sum_nil, Nat.add_zero]
    have hx : ((k = 1 ∧ 1 ≤ n ∧ n ≤ 255) ∨ ((k = 2 ∨ k = 3) ∧ 4 ≤ n)) ∧ a < 6048 := hx
    have hc : cw k n = if k = 1 ∧ n < 18 ∨ k = 3 ∧ n < 19 then 1 else 3 := rfl
    rcases hx.1 with ⟨rfl, h3, h4⟩ | ⟨rfl | rfl, h4⟩
    · have e1 : (mstep N S (modesP N S beg l) (1, n, a)).ad = (modesP N S beg l).ad := rfl
      rw [e1, if_pos rfl, if_pos rfl]
      have : ((sp.drop (dataP sp beg l).1).take n).length ≤ n := by simp; omega
      by_cases q : n < 18
      · rw [if_pos (Or.inl ⟨rfl, q⟩)] at hc; omega
      · rw [if_neg (by omega)] at hc; omega
    · have e1 : (mstep N S (modesP N S beg l) (2, n, a)).ad = (modesP N S beg l).ad := rfl
      rw [e1, if_neg (by decide), if_pos rfl, if_neg (by decide), hc, if_neg (by omega), List.length_singleton]
      omega
    · have e1 : (mstep N S (modesP N S beg l) (3, n, a)).ad = (modesP N S beg l).ad ++ (tellP N S (modesP N S beg l).nr (modesP N S beg l).sm a (modesP N S beg l).p).2 := rfl
      rw [e1, List.length_append, if_neg (by decide), if_neg (by decide), if_neg (by decide), List.length_nil]
      have ht1 : (tellP N S (modesP N S beg l).nr (modesP N S beg l).sm a (modesP N S beg l).p).2.length ≤ 2 := ht.1
      by_cases q : n < 19
      · rw [if_pos (Or.inr ⟨rfl, q⟩)] at hc; omega
      · rw [if_neg (by omega)] at hc; omega
theorem mdZero {N S beg : Nat} : ∀ {L : List Sp3}, ∀ i, i < L.length → (L.getD i (0, 0, 0)).1 ≠ 3 → (modesP N S beg L).md.getD i 0 = 0 := by
  intro L
  refine snoc_ind (P := fun L => ∀ i, i < L.length → (L.getD i (0, 0, 0)).1 ≠ 3 → (modesP N S beg L).md.getD i 0 = 0) ?_ ?_ L
  · intro i hi; simp at hi
  · intro l x ih i hi hk
    have hl := modesP_len N S beg l
    have e : ∃ v, (modesP N S beg (l ++ [x])).md = (modesP N S beg l).md ++ [v] ∧ (x.1 ≠ 3 → v = 0) := by
      rw [modesP_snoc]; unfold mstep
      split
      · rename_i q; exact ⟨_, rfl, fun q' => absurd q q'⟩
      · exact ⟨_, rfl, fun _ => rfl⟩
    obtain ⟨v, e, hv⟩ := e
    rw [e]
    simp at hi
    by_cases q : i < l.length
    · rw [List.getD_eq_getElem?_getD, List.getElem?_append_left (by omega), ← List.getD_eq_getElem?_getD]
      apply ih i q
      rw [List.getD_eq_getElem?_getD, List.getElem?_append_left q, ← List.getD_eq_getElem?_getD] at hk
      exact hk
    · have e1 : i = l.length := by omega
      subst e1
      have hx : (l ++ [x]).getD l.length (0, 0, 0) = x := by simp
      rw [hx] at hk
      rw [List.getD_eq_getElem?_getD, ← hl]; simp [hv hk]
theorem tabFile_some {g : Tb} (hg : g.1.length = 1536) : ∃ tf, tabFile g = some tf ∧ tf.length ≤ 2048 := by
  have hU := UBy_len
  have hsp : (UBy ++ g.1).length = 3072 := by simp [hU, hg]
  have hS := stepsP_StI (sp := UBy ++ g.1) (beg := 1536) (by omega) (k := 1536) (p := 1536) StI.nil (by show 1536 = 1536 + 0; omega) (by omega) (by omega)
  obtain ⟨L, hL⟩ : ∃ L, stepsP (UBy ++ g.1) 1536 1536 [] = L := ⟨_, rfl⟩
  rw [hL, hsp] at hS
  obtain ⟨X, hs⟩ := hS
  have hM := movesP_len L (modesP 4 3 1536 L).md
  have hf := fitU (N := 4) (S := 3) (beg := 1536) (sp := UBy ++ g.1) (L := L) X.1 (by omega)
  have ho := modesP_ok (N := 4) (S := 3) (beg := 1536) (L := L) X.adr (by omega)
  have hd := dataP_len (sp := UBy ++ g.1) (L := L) (p := 1536) X.sizes
  obtain ⟨cs, ec, hc⟩ := codesU (M := movesP L (modesP 4 3 1536 L).md) (fun i hi => by
    rw [hM] at hi
    rw [movesP_get hi]
    have hx := X.get hi
    have hz := mdZero (N := 4) (S := 3) (beg := 1536) (L := L) i hi
    have hm : (modesP 4 3 1536 L).md.getD i 0 < 9 := by
      have hl := modesP_len 4 3 1536 L
      rw [List.getD_eq_getElem?_getD, List.getElem?_eq_getElem (by omega)]
      exact ho.2 _ (List.getElem_mem _)
    have hms := mem_sum (L := L) (x := L.getD i (0, 0, 0)) (by
      rw [List.getD_eq_getElem?_getD, List.getElem?_eq_getElem hi]; exact List.getElem_mem _)
    refine ⟨?_, by show (L.getD i (0, 0, 0)).2.1 < 16384; omega⟩
    rcases hx.1 with ⟨h1, h2, h3⟩ | ⟨h1 | h1, h2⟩
    · exact Or.inl ⟨h1, hz (by omega), h2⟩
    · exact Or.inr (Or.inl ⟨h1, hz (by omega)⟩)
    · exact Or.inr (Or.inr ⟨h1, h2, hm⟩)) (k := L.length) (i := 0) (acc := [])
  rw [List.drop_zero, wtS_moves] at hc
  have ha : aS L ≤ 308 := by
    obtain ⟨-, x2, x3, -⟩ := X
    have := nf_le L
    omega
  have e4 : (g.1.drop 0).take 2048 = g.1 := by rw [List.drop_zero, List.take_of_length_le (by omega)]
  refine ⟨headB 0 ++ ([1 + 0] ++ (bigB 1536 ++ bigB 0) ++ bigB (bigLen 1536 + 1 + bigLen (dataP (UBy ++ g.1) 1536 L).2.length + bigLen cs.length + bigLen (modesP 4 3 1536 L).ad.length + 0 + ((dataP (UBy ++ g.1) 1536 L).2.length + cs.length + (modesP 4 3 1536 L).ad.length)) ++ bigB 1536 ++ [0] ++ bigB (dataP (UBy ++ g.1) 1536 L).2.length ++ bigB cs.length ++ bigB (modesP 4 3 1536 L).ad.length ++ [] ++ (dataP (UBy ++ g.1) 1536 L).2 ++ cs ++ (modesP 4 3 1536 L).ad), ?_, ?_⟩
  · unfold tabFile
    rw [winsM, if_pos (by omega), if_pos (by omega), if_pos (by omega), if_pos (by omega), e4]
    have ew : winM (UBy, 4, 3) UBy g.1 1 0 false = some ([1 + 0] ++ (bigB 1536 ++ bigB 0) ++ bigB (bigLen 1536 + 1 + bigLen (dataP (UBy ++ g.1) 1536 L).2.length + bigLen cs.length + bigLen (modesP 4 3 1536 L).ad.length + 0 + ((dataP (UBy ++ g.1) 1536 L).2.length + cs.length + (modesP 4 3 1536 L).ad.length)) ++ bigB 1536 ++ [0] ++ bigB (dataP (UBy ++ g.1) 1536 L).2.length ++ bigB cs.length ++ bigB (modesP 4 3 1536 L).ad.length ++ [] ++ (dataP (UBy ++ g.1) 1536 L).2 ++ cs ++ (modesP 4 3 1536 L).ad) := by
      unfold winM
      simp only [hU, hg, hL, ec]
      rfl
    rw [ew]
    show winsM (UBy, 4, 3) g.1 UBy false false 3 2048 _ = _
    rw [winsM, if_neg (by omega)]
  · have b1 : bigLen 1536 = 2 := by decide
    have b2 : bigLen 0 = 1 := by decide
    have b3 := bigLen2 (n := (dataP (UBy ++ g.1) 1536 L).2.length) (by omega)
    have b4 := bigLen2 (n := cs.length) (by simp at hc; omega)
    have b5 := bigLen2 (n := (modesP 4 3 1536 L).ad.length) (by omega)
    simp only [List.length_nil] at hc
    have b6 := bigLen2 (n := bigLen 1536 + 1 + bigLen (dataP (UBy ++ g.1) 1536 L).2.length + bigLen cs.length + bigLen (modesP 4 3 1536 L).ad.length + 0 + ((dataP (UBy ++ g.1) 1536 L).2.length + cs.length + (modesP 4 3 1536 L).ad.length)) (by omega)
    simp only [List.length_append, List.length_singleton, List.length_nil, bigB_len, headB, List.length_cons]
    omega
