/-! PURE: what a window's instructions may take (my own) -/
def cS (L : List Sp3) : Nat := L.countP fun x => decide (x.1 ≠ 1)
def aS (L : List Sp3) : Nat := L.countP fun x => decide (x.1 = 1)
def fS (L : List Sp3) : Nat := L.countP fun x => decide (x.1 = 1 ∧ x.2.1 = 255)
def sS (L : List Sp3) : Nat := (L.map fun x => x.2.1).sum
def nf (L : List Sp3) : Nat := if (lastS L).1 = 1 ∧ (lastS L).2.1 < 255 then 1 else 0
theorem cS_snoc (L : List Sp3) (x : Sp3) : cS (L ++ [x]) = cS L + (if x.1 ≠ 1 then 1 else 0) := by unfold cS; rw [List.countP_append]; simp [List.countP_cons]
theorem aS_snoc (L : List Sp3) (x : Sp3) : aS (L ++ [x]) = aS L + (if x.1 = 1 then 1 else 0) := by unfold aS; rw [List.countP_append]; simp [List.countP_cons]
theorem fS_snoc (L : List Sp3) (x : Sp3) : fS (L ++ [x]) = fS L + (if x.1 = 1 ∧ x.2.1 = 255 then 1 else 0) := by unfold fS; rw [List.countP_append]; simp [List.countP_cons]
theorem sS_snoc (L : List Sp3) (x : Sp3) : sS (L ++ [x]) = sS L + x.2.1 := by unfold sS; simp
theorem lastS_snoc (L : List Sp3) (x : Sp3) : lastS (L ++ [x]) = x := by unfold lastS; simp
theorem nf_snoc (L : List Sp3) (x : Sp3) : nf (L ++ [x]) = (if x.1 = 1 ∧ x.2.1 < 255 then 1 else 0) := by unfold nf; rw [lastS_snoc]
def nl (L : List Sp3) : Nat := if (lastS L).1 = 1 ∧ (lastS L).2.1 < 255 then (lastS L).2.1 - 1 else 0
theorem nl_snoc (L : List Sp3) (x : Sp3) : nl (L ++ [x]) = (if x.1 = 1 ∧ x.2.1 < 255 then x.2.1 - 1 else 0) := by unfold nl; rw [lastS_snoc]
theorem snoc_ind {α : Type} {P : List α → Prop} (h0 : P []) (h1 : ∀ l x, P l → P (l ++ [x])) (L : List α) : P L := by
  have key : ∀ l : List α, P l.reverse := by
    intro l
    induction l with
    | nil => exact h0
    | cons x l ih => rw [List.reverse_cons]; exact h1 _ _ ih
  have := key L.reverse
  rwa [List.reverse_reverse] at this
def okS (x : Sp3) : Prop := ((x.1 = 1 ∧ 1 ≤ x.2.1 ∧ x.2.1 ≤ 255) ∨ ((x.1 = 2 ∨ x.1 = 3) ∧ 4 ≤ x.2.1)) ∧ x.2.2 < 6048
def StI (L : List Sp3) : Prop := (∀ x ∈ L, okS x) ∧ aS L ≤ cS L + fS L + nf L ∧ 4 * cS L + aS L + 254 * fS L + nl L ≤ sS L ∧ L.length = cS L + aS L
theorem StI.nil : StI [] := ⟨fun x hx => (by cases hx), by decide, by decide, by decide⟩
theorem nf_le (L : List Sp3) : nf L ≤ 1 := by unfold nf; split <;> omega
theorem StI.copy {L : List Sp3} (X : StI L) (k n a : Nat) (hk : k = 2 ∨ k = 3) (hn : 4 ≤ n) (ha : a < 6048) : StI (L ++ [(k, n, a)]) := by
  obtain ⟨x1, x2, x3, x4⟩ := X
  have h1 := nf_le L
  have e1 : cS (L ++ [(k, n, a)]) = cS L + 1 := by rw [cS_snoc, if_pos (by simp; omega)]
  have e2 : aS (L ++ [(k, n, a)]) = aS L := by rw [aS_snoc, if_neg (by simp; omega)]; rfl
  have e3 : fS (L ++ [(k, n, a)]) = fS L := by rw [fS_snoc, if_neg (by simp; omega)]; rfl
  have e4 : nf (L ++ [(k, n, a)]) = 0 := by rw [nf_snoc, if_neg (by simp; omega)]
  have e5 : sS (L ++ [(k, n, a)]) = sS L + n := sS_snoc ..
  have e6 : nl (L ++ [(k, n, a)]) = 0 := by rw [nl_snoc, if_neg (by simp; omega)]
  refine ⟨fun x hx => ?_, by omega, by omega, by simp; omega⟩
  rcases List.mem_append.mp hx with q | q
  · exact x1 x q
  · rw [List.mem_singleton.mp q]; exact ⟨Or.inr ⟨hk, hn⟩, ha⟩
theorem StI.add {L : List Sp3} (X : StI L) : StI (addS L) ∧ sS (addS L) = sS L + 1 := by
  by_cases h : (lastS L).1 = 1 ∧ (lastS L).2.1 < 255
  · obtain ⟨e1, e2⟩ := addS_merge h
    rw [e2]
    generalize hn : (lastS L).2.1 = n at e1 e2 h
    generalize ha : (lastS L).2.2 = a at e1 e2
    obtain ⟨x1, x2, x3, x4⟩ := X
    have hnf : nf L = 1 := by unfold nf; rw [hn, if_pos h]
    rw [hnf] at x2
    have hx : okS (1, n, a) := x1 _ (by rw [e1]; simp)
    generalize L.dropLast = L0 at e1 e2
    rw [e1] at x2 x3 x4 x1
    have c1 : cS (L0 ++ [(1, n, a)]) = cS L0 := by rw [cS_snoc, if_neg (by simp)]; rfl
    have c2 : cS (L0 ++ [(1, n + 1, a)]) = cS L0 := by rw [cS_snoc, if_neg (by simp)]; rfl
    have a1 : aS (L0 ++ [(1, n, a)]) = aS L0 + 1 := by rw [aS_snoc, if_pos rfl]
    have a2 : aS (L0 ++ [(1, n + 1, a)]) = aS L0 + 1 := by rw [aS_snoc, if_pos rfl]
    have f1 : fS (L0 ++ [(1, n, a)]) = fS L0 := by rw [fS_snoc, if_neg (by simp; omega)]; rfl
    have f2 : fS (L0 ++ [(1, n + 1, a)]) = fS L0 + (if n + 1 = 255 then 1 else 0) := by rw [fS_snoc]; simp
    have n2 : nf (L0 ++ [(1, n + 1, a)]) = (if n + 1 < 255 then 1 else 0) := by rw [nf_snoc]; simp
    have s1 : sS (L0 ++ [(1, n, a)]) = sS L0 + n := sS_snoc ..
    have l1 : nl (L0 ++ [(1, n, a)]) = n - 1 := by rw [nl_snoc, if_pos ⟨rfl, h.2⟩]
    have l2 : nl (L0 ++ [(1, n + 1, a)]) = (if n + 1 < 255 then n else 0) := by rw [nl_snoc]; simp
    have s2 : sS (L0 ++ [(1, n + 1, a)]) = sS L0 + (n + 1) := sS_snoc ..
    have hx : ((1 = 1 ∧ 1 ≤ n ∧ n ≤ 255) ∨ ((1 = 2 ∨ 1 = 3) ∧ 4 ≤ n)) ∧ a < 6048 := hx
    rw [c1, a1, f1, s1, l1] at x3
    rw [c1, a1, f1] at x2
    rw [c1, a1] at x4
    refine ⟨⟨fun x hx2 => ?_, ?_, ?_, ?_⟩, ?_⟩
    · rcases List.mem_append.mp hx2 with q | q
      · exact x1 x (List.mem_append.mpr (Or.inl q))
      · rw [List.mem_singleton.mp q]
        exact ⟨Or.inl ⟨rfl, by show 1 ≤ n + 1; omega, by show n + 1 ≤ 255; omega⟩, hx.2⟩
    · rw [c2, a2, f2, n2]
      split <;> split <;> omega
    · rw [c2, a2, f2, s2, l2]
      split <;> split <;> omega
    · rw [c2, a2]
      simp at x4 ⊢
      omega
    · rw [e1, s1, s2]; omega
  · have e : addS L = L ++ [(1, 1, 0)] := by unfold addS; rw [if_neg h]
    rw [e]
    obtain ⟨x1, x2, x3, x4⟩ := X
    have hnf : nf L = 0 := by unfold nf; rw [if_neg h]
    have e1 : cS (L ++ [(1, 1, 0)]) = cS L := by rw [cS_snoc, if_neg (by simp)]; rfl
    have e2 : aS (L ++ [(1, 1, 0)]) = aS L + 1 := by rw [aS_snoc, if_pos rfl]
    have e3 : fS (L ++ [(1, 1, 0)]) = fS L := by rw [fS_snoc, if_neg (by simp)]; rfl
    have e4 : nf (L ++ [(1, 1, 0)]) = 1 := by rw [nf_snoc, if_pos (by simp)]
    have e5 : sS (L ++ [(1, 1, 0)]) = sS L + 1 := sS_snoc ..
    have e6 : nl (L ++ [(1, 1, 0)]) = 0 := by rw [nl_snoc, if_pos (by simp)]; rfl
    refine ⟨⟨fun x hx => ?_, by omega, by omega, by simp; omega⟩, e5⟩
    rcases List.mem_append.mp hx with q | q
    · exact x1 x q
    · rw [List.mem_singleton.mp q]; exact ⟨Or.inl ⟨rfl, by decide, by decide⟩, by decide⟩
theorem StI.len {L : List Sp3} (X : StI L) (h : sS L ≤ 2048) : L.length < 1000 := by
  obtain ⟨x1, x2, x3, x4⟩ := X
  have := nf_le L
  omega
theorem StI.get {L : List Sp3} (X : StI L) {i : Nat} (hi : i < L.length) : okS (L.getD i (0, 0, 0)) := by
  rw [List.getD_eq_getElem?_getD, List.getElem?_eq_getElem hi]
  exact X.1 _ (List.getElem_mem hi)
theorem mem_sum {L : List Sp3} {x : Sp3} (h : x ∈ L) : x.2.1 ≤ sS L := by
  induction L with
  | nil => cases h
  | cons y l ih =>
    unfold sS at ih ⊢
    rw [List.map_cons, List.sum_cons]
    rcases List.mem_cons.mp h with q | q
    · rw [q]; omega
    · have := ih q; omega
theorem modesP_p (N S p : Nat) (L : List Sp3) : (modesP N S p L).p = p + sS L := by
  have key : ∀ (L : List Sp3) (s : Mst), (L.foldl (mstep N S) s).p = s.p + sS L := by
    intro L
    induction L with
    | nil => intro s; simp [sS]
    | cons x l ih =>
      intro s
      rw [List.foldl_cons, ih]
      have : (mstep N S s x).p = s.p + x.2.1 := by unfold mstep; split <;> rfl
      rw [this]
      unfold sS
      rw [List.map_cons, List.sum_cons]; omega
  exact key L _
theorem bigR_len (n : Nat) : ∀ k, (bigR n k).length = k
  | 0 => rfl
  | 1 => rfl
  | k + 2 => by rw [bigR, List.length_cons, bigR_len n (k + 1)]
theorem bigB_len (n : Nat) : (bigB n).length = bigLen n := bigR_len n _
theorem bigLen2 {n : Nat} (h : n < 16384) : bigLen n ≤ 2 := by unfold bigLen; split <;> (try split) <;> omega
theorem nearGo_ok {nr : Nat → Nat} {a B M : Nat} (ha : a < B) : ∀ {j k : Nat} {q : Nat × Nat}, q.2 < B → q.1 < M → 2 + k + j ≤ M → (nearGo nr a j k q).2 < B ∧ (nearGo nr a j k q).1 < M
  | 0, _, _, h, h2, _ => ⟨h, h2⟩
  | j + 1, k, q, h, h2, h3 => by
    rw [nearGo]
    refine nearGo_ok ha ?_ ?_ (by omega)
    · split
      · show a - nr k < B; omega
      · exact h
    · split
      · show 2 + k < M; omega
      · exact h2
theorem tellP_ok {N S a here : Nat} {nr sm : Nat → Nat} (ha : a < 16384) (hh : here < 16384) : (tellP N S nr sm a here).2.length ≤ 2 ∧ (tellP N S nr sm a here).1 < 2 + N + S := by
  have hs : (self0 a here).2 < 16384 ∧ (self0 a here).1 < 2 + N := by
    unfold self0
    split
    · exact ⟨by show here - a < 16384; omega, by show 1 < 2 + N; omega⟩
    · exact ⟨ha, by show 0 < 2 + N; omega⟩
  have hn := nearGo_ok (nr := nr) (M := 2 + N) ha (j := N) (k := 0) hs.1 hs.2 (by omega)
  unfold tellP
  split
  · rename_i h
    refine ⟨by simp, ?_⟩
    show 2 + N + a % (256 * S) / 256 < 2 + N + S
    have := Nat.mod_lt a (show 0 < 256 * S by omega)
    have : a % (256 * S) / 256 < S := by omega
    omega
  · refine ⟨?_, by have := hn.2; show (nearGo nr a N 0 (self0 a here)).1 < _; omega⟩
    show (bigB _).length ≤ 2
    rw [bigB_len]; exact bigLen2 hn.1
theorem modesP_ok {N S beg : Nat} : ∀ {L : List Sp3}, (∀ x ∈ L, x.2.2 < 16384) → beg + sS L < 16384 → (modesP N S beg L).ad.length ≤ 2 * L.length ∧ (∀ m ∈ (modesP N S beg L).md, m < 2 + N + S) := by
  intro L
  refine snoc_ind (P := fun L => (∀ x ∈ L, x.2.2 < 16384) → beg + sS L < 16384 → (modesP N S beg L).ad.length ≤ 2 * L.length ∧ (∀ m ∈ (modesP N S beg L).md, m < 2 + N + S)) ?_ ?_ L
  · intro _ _; exact ⟨Nat.le_refl _, fun m hm => (by cases hm)⟩
  · intro l x ih h1 h2
    rw [sS_snoc] at h2
    obtain ⟨i1, i2⟩ := ih (fun y hy => h1 y (List.mem_append.mpr (Or.inl hy))) (by omega)
    have hx := h1 x (by simp)
    have hp := modesP_p N S beg l
    rw [modesP_snoc]
    unfold mstep
    split
    · have ht := tellP_ok (N := N) (S := S) (nr := (modesP N S beg l).nr) (sm := (modesP N S beg l).sm) hx (here := (modesP N S beg l).p) (by omega)
      refine ⟨?_, fun m hm => ?_⟩
      · show ((modesP N S beg l).ad ++ _).length ≤ _
        simp only [List.length_append, List.length_singleton]; omega
      · rcases List.mem_append.mp hm with q | q
        · exact i2 m q
        · rw [List.mem_singleton.mp q]; exact ht.2
    · refine ⟨?_, fun m hm => ?_⟩
      · show ((modesP N S beg l).ad).length ≤ _
        simp only [List.length_append, List.length_singleton]; omega
      · rcases List.mem_append.mp hm with q | q
        · exact i2 m q
        · rw [List.mem_singleton.mp q]; omega
theorem codeM_len {T : Tb} {M : List Mv} {i : Nat} {b : List Nat} {d : Nat} (h : codeM T M i = some (b, d)) (hs : (M.getD i (0, 0, 0)).2.1 < 16384) : b.length ≤ 3 := by
  unfold codeM at h
  have := bigLen2 hs
  split at h
  · injection h with h; injection h with h1 h2; subst h1; simp
  split at h
  · injection h with h; injection h with h1 h2; subst h1; simp
  split at h
  · injection h with h; injection h with h1 h2; subst h1; rw [List.length_cons, bigB_len]; omega
  · cases h
theorem codesM_len {T : Tb} {M : List Mv} (hs : ∀ i, i < M.length → (M.getD i (0, 0, 0)).2.1 < 16384) : ∀ {k i : Nat} {acc cs : List Nat}, codesM T M k i acc = some cs → cs.length ≤ acc.length + 3 * (M.length - i)
  | 0, i, acc, cs, h => by injection h with h; subst h; omega
  | k + 1, i, acc, cs, h => by
    rw [codesM] at h
    split at h
    · rename_i hi
      split at h
      · cases h
      · rename_i b d hc
        have h1 := codesM_len hs h
        have h2 := codeM_len hc (hs i hi)
        have h3 := codeM_d hc
        simp at h1
        omega
    · injection h with h; subst h; omega
theorem dataP_len {sp : List Nat} : ∀ {L : List Sp3} {p : Nat}, (∀ x ∈ L, 1 ≤ x.2.1) → (dataP sp p L).2.length ≤ sS L := by
  intro L
  refine snoc_ind (P := fun L => ∀ {p : Nat}, (∀ x ∈ L, 1 ≤ x.2.1) → (dataP sp p L).2.length ≤ sS L) ?_ ?_ L
  · intro p _; exact Nat.le_refl _
  · intro l x ih p h
    have i1 := ih (p := p) fun y hy => h y (List.mem_append.mpr (Or.inl hy))
    have hx := h x (by simp)
    rw [dataP_snoc, sS_snoc]
    unfold dstep
    show ((dataP sp p l).2 ++ _).length ≤ _
    rw [List.length_append]
    split
    · simp; omega
    split
    · simp; omega
    · simp; omega
theorem pushAll_fit {N : Nat} : ∀ {l : List Nat} {bs : List Nat} {lo : Bool}, bs.length + l.length ≤ N → pushAll N (bs, lo) l = (bs ++ l, lo)
  | [], bs, lo, _ => by unfold pushAll; simp
  | x :: l, bs, lo, h => by
    unfold pushAll
    rw [List.foldl_cons]
    have : pushL N (bs, lo) x = (bs ++ [x], lo) := by unfold pushL; rw [if_pos (by simp at h ⊢; omega)]
    rw [this]
    have := pushAll_fit (N := N) (l := l) (bs := bs ++ [x]) (lo := lo) (by simp at h ⊢; omega)
    unfold pushAll at this
    rw [this, List.append_assoc]; rfl
