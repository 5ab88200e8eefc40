/-! small things for a window's first bytes (my own) -/
theorem nIz {a : Nat} (h : a < 2 ^ 31) : nI a = 0 ↔ a = 0 := by
  rw [show (0 : Int32) = nI 0 from rfl, nI_eq h (by decide)]
theorem and3 : ∀ b : Nat, b < 8 → nI b &&& (3 : Int32) = nI (b % 4) := by decide
theorem and1 : ∀ b : Nat, b < 8 → nI b &&& (1 : Int32) = nI (b % 2) := by decide
theorem and4 : ∀ b : Nat, b < 8 → nI b &&& (4 : Int32) = nI (sumN b) := by decide
theorem lneg_ge {v : Int64} (h : v < 0) : ¬ (0 : Int32) ≤ lg_cmp v 0 := by
  have := lneg_cmp h
  rw [Int32.not_le]; exact this
theorem lpos_ge (a : Nat) (h : a < 2 ^ 63) : (0 : Int32) ≤ lg_cmp (lN a) 0 := by
  have := lpos_cmp a h
  rw [← Int32.not_lt]; exact this
theorem Fr.up {S S' : List Nat} {R : List (Nat × Nat)} {h h1 : Hp} (F : Fr S h h1) (hs : ∀ c, c ∈ S → c ∈ S') : Rg S' R h h1 := (F.rg R).mono hs (fun _ q => q)
theorem segP_ok {src : List Nat} {e p b bL oL n q p2 : Nat} (h : segP src e p b bL oL = .inr (n, q, p2)) (hp : p ≤ e) : p ≤ p2 ∧ p2 ≤ e ∧ (b % 4 = 0 ∧ n = 0 ∧ q = 0 ∨ b % 4 ≠ 0 ∧ q + n ≤ (if b % 2 = 1 then bL else oL)) := by
  unfold segP at h
  by_cases h0 : b % 4 = 0
  · rw [if_pos h0] at h
    injection h with h; injection h with a b; injection b with b c
    omega
  rw [if_neg h0] at h
  split at h
  · cases h
  rename_i n1 p1 h1
  split at h
  · cases h
  rename_i n2 p2' h2
  by_cases h3 : (if b % 2 = 1 then bL else oL) < n2 + n1
  · rw [if_pos h3] at h; cases h
  rw [if_neg h3] at h
  injection h with h; injection h with a b; injection b with b c
  have k1 := hbP_ok h1
  have k2 := hbP_ok h2
  subst a; subst b; subst c
  exact ⟨by omega, by omega, Or.inr ⟨h0, by omega⟩⟩
theorem tgtP_ok {src : List Nat} {e p oL n p2 : Nat} (h : tgtP src e p oL = .inr (n, p2)) : p < p2 ∧ p2 ≤ e ∧ n ≤ 8000 - oL := by
  unfold tgtP at h
  split at h
  · cases h
  rename_i n1 p1 h1
  have k1 := hbP_ok h1
  split at h
  · cases h
  split at h
  · cases h
  split at h
  · cases h
  injection h with h; injection h with a b
  omega
theorem sizP_ok {src : List Nat} {e p b oL : Nat} {z : Sz} (h : sizP src e p b oL = .inr z) : p < z.sm ∧ z.sm + sumN b + z.d + z.c + z.a ≤ e ∧ z.tz ≤ 8000 - oL := by
  unfold sizP at h
  split at h
  · cases h
  rename_i fo p1 h1
  split at h
  · cases h
  rename_i tz p2 h2
  split at h
  · cases h
  rename_i d p3 h3
  split at h
  · cases h
  rename_i c p4 h4
  split at h
  · cases h
  rename_i a p5 h5
  split at h
  · cases h
  split at h
  · cases h
  split at h
  · cases h
  rename_i g1 g2 g3
  injection h with h
  subst h
  have k1 := hbP_ok h1
  have k2 := tgtP_ok h2
  have k3 := hbP_ok h3
  have k4 := hbP_ok h4
  have k5 := hbP_ok h5
  simp only [Sz.sm, Sz.d, Sz.c, Sz.a, Sz.tz]
  omega
theorem runP_ft {c : Wc} (C : WcOk c) {s : Wst} (O : WOk c s) (sm : Bool) (p : Nat) : (runP c sm p s).1 < 17 := by
  have k := codesP_ok C O (Nat.le_refl (c.cE - s.ca))
  unfold runP
  simp only []
  split
  · omega
  split
  · simp only; omega
  split
  · simp only; omega
  · omega
theorem segL_len {b n q : Nat} {base out : List Nat} (h : b % 4 = 0 ∧ n = 0 ∧ q = 0 ∨ b % 4 ≠ 0 ∧ q + n ≤ (if b % 2 = 1 then base.length else out.length)) : (segL b n q base out).length = n := by
  unfold segL
  rcases h with ⟨h0, h1, h2⟩ | ⟨h0, h1⟩
  · rw [if_pos h0]; simp [h1]
  rw [if_neg h0]
  by_cases h2 : b % 2 = 1
  · rw [if_pos h2] at h1 ⊢; simp; omega
  · rw [if_neg h2] at h1 ⊢; simp; omega
theorem hbP_f0 {src : List Nat} {e p q : Nat} (h : hbP src e p = .inl (0, q)) : False := by
  have := (hbP_ft h).1
  omega
theorem segP_ft {src : List Nat} {e p b bL oL q : Nat} (h : segP src e p b bL oL = .inl (0, q)) : False := by
  unfold segP at h
  split at h
  · cases h
  split at h
  · rename_i f hf
    injection h with h
    subst h
    exact hbP_f0 hf
  split at h
  · rename_i f hf
    injection h with h
    subst h
    exact hbP_f0 hf
  generalize (if b % 2 = 1 then bL else oL) = LL at h
  split at h
  · injection h with h; injection h with a b; cases a
  · cases h
theorem tgtP_ft {src : List Nat} {e p oL q : Nat} (h : tgtP src e p oL = .inl (0, q)) : False := by
  unfold tgtP at h
  split at h
  · rename_i f hf
    injection h with h
    subst h
    exact hbP_f0 hf
  split at h
  · injection h with h; injection h with a b; cases a
  split at h
  · injection h with h; injection h with a b; cases a
  split at h
  · injection h with h; injection h with a b; cases a
  cases h
theorem sizP_ft {src : List Nat} {e p b oL q : Nat} (h : sizP src e p b oL = .inl (0, q)) : False := by
  unfold sizP at h
  split at h
  · rename_i f hf
    injection h with h; subst h; exact hbP_f0 hf
  split at h
  · rename_i f hf
    injection h with h; subst h; exact tgtP_ft hf
  split at h
  · rename_i f hf
    injection h with h; subst h; exact hbP_f0 hf
  split at h
  · rename_i f hf
    injection h with h; subst h; exact hbP_f0 hf
  split at h
  · rename_i f hf
    injection h with h; subst h; exact hbP_f0 hf
  split at h
  · injection h with h; injection h with a b; cases a
  split at h
  · injection h with h; injection h with a b; cases a
  split at h
  · injection h with h; injection h with a b; cases a
  cases h
theorem windowP_fa {own : Bool} {T : Tb} {base src : List Nat} {e : Nat} {s : Ost} (h : s.fa < e) (h0 : (windowP own T base src e s).ft = 0) : s.fa < (windowP own T base src e s).fa := by
  unfold windowP at h0 ⊢
  simp only [] at h0 ⊢
  split
  · rename_i q; rw [if_pos q] at h0; cases h0
  rename_i q
  rw [if_neg q] at h0
  cases hS : segP src e (s.fa + 1) (src.getD s.fa 0) base.length s.out.length with
  | inl x =>
    exfalso
    rw [hS] at h0
    obtain ⟨f, q⟩ := x
    have h0 : f = 0 := h0
    subst h0
    exact segP_ft hS
  | inr x =>
    obtain ⟨n, q', p1⟩ := x
    rw [hS] at h0
    simp only [] at h0 ⊢
    have k1 := segP_ok hS (by omega)
    cases hZ : sizP src e p1 (src.getD s.fa 0) s.out.length with
    | inl x =>
      exfalso
      rw [hZ] at h0
      obtain ⟨f, q⟩ := x
      have h0 : f = 0 := h0
      subst h0
      exact sizP_ft hZ
    | inr z =>
      have k2 := sizP_ok hZ
      show s.fa < z.sm + sumN _ + z.d + z.c + z.a
      omega
theorem RowV.bys {h : Hp} {r a N : Nat} {bs : List Nat} {lo : Bool} (R : RowV SH h r a N bs lo) : ∀ b ∈ bs, b < 256 := fun b hb => by
  obtain ⟨j, hj, rfl⟩ := List.getElem_of_mem hb
  rw [← R.2.2.2.2.2.2.1 j hj]; exact un_lt _
theorem winsP_stop {own : Bool} {T : Tb} {base src : List Nat} {e n : Nat} {s : Ost} (h : s.ft ≠ 0 ∨ e ≤ s.fa) : winsP own T base src e n s = s := by
  cases n with
  | zero => rfl
  | succ n => rw [winsP, if_pos h]
theorem nI_sur (x : Int32) : ∃ n, nI n = x := ⟨x.toBitVec.toNat, by
  apply Int32.toBitVec_inj.mp
  show BitVec.ofNat 32 x.toBitVec.toNat = x.toBitVec
  simp⟩
theorem Ok.put {o : Nat} {K : List Nat} {h h1 : Hp} {k : Nat} {v : Int32} (a : Ok o K h h1) (hk : k ∈ K) : Ok o K h (wI h1 o k v) := fun j hj => by
  rw [wI_idx (fun (e : j = k) => hj (e ▸ hk))]; exact a j hj
theorem fx {h : Hp} (f : Fin h) (c k v : Nat) (hm : (c, k, v) ∈ FINS) : h.2.1 c k = v := f (c, k, v) hm
