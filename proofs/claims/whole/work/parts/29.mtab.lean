/-! the reference: tables, what is told -/
theorem EntV.of {h h1 : Hp} {t : Nat} {T : Tb} (V : EntV h t T) (e : ∀ k, k < 1536 → h1.1 101 (1536 * t + k) = h.1 101 (1536 * t + k)) (e2 : h1.1 102 t = h.1 102 t) (e3 : h1.1 103 t = h.1 103 t) : EntV h1 t T := by
  obtain ⟨q1, q2, q3, q4⟩ := V
  refine ⟨fun what i hw hi => ?_, e2.trans q2, e3.trans q3, q4⟩
  rw [Nat.add_assoc, e (256 * what + i) (by omega), ← Nat.add_assoc]
  exact q1 what i hw hi
theorem EntV.moved {h h1 : Hp} {t u : Nat} {T : Tb} (V : EntV h t T) (e : ∀ k, k < 1536 → h1.1 101 (1536 * u + k) = h.1 101 (1536 * t + k)) (e2 : h1.1 102 u = h.1 102 t) (e3 : h1.1 103 u = h.1 103 t) : EntV h1 u T := by
  obtain ⟨q1, q2, q3, q4⟩ := V
  refine ⟨fun what i hw hi => ?_, e2.trans q2, e3.trans q3, q4⟩
  rw [Nat.add_assoc, e (256 * what + i) (by omega), ← Nat.add_assoc]
  exact q1 what i hw hi
/-- a table taken: b is as a was, all else of the tables is as it was -/
def Taken (a b : Nat) (h h1 : Hp) : Prop := Fr [101, 102, 103] h h1 ∧ (∀ k, k < 1536 → h1.1 101 (1536 * b + k) = h.1 101 (1536 * a + k)) ∧ (∀ j, j < 1536 * b ∨ 1536 * b + 1536 ≤ j → h1.1 101 j = h.1 101 j) ∧ h1.1 102 b = h.1 102 a ∧ h1.1 103 b = h.1 103 a ∧ ∀ j, j ≠ b → h1.1 102 j = h.1 102 j ∧ h1.1 103 j = h.1 103 j
theorem Taken.to {a b : Nat} {h h1 : Hp} {T : Tb} (K : Taken a b h h1) (V : EntV h a T) : EntV h1 b T := V.moved K.2.1 K.2.2.2.1 K.2.2.2.2.1
theorem Taken.other {a b t : Nat} {h h1 : Hp} {T : Tb} (K : Taken a b h h1) (V : EntV h t T) (ht : t ≠ b) : EntV h1 t T := V.of (fun k hk => K.2.2.1 _ (by omega)) (K.2.2.2.2.2 t ht).1 (K.2.2.2.2.2 t ht).2
theorem S_takeTable {w : Wd} {h : Hp} (f : Fin h) (a b : Nat) (ha : a < 4) (hb : b < 4) (hab : a ≠ b) : C_X12_takeTable w SH 97 (nI a) (nI b) h (fun h1 => Taken a b h h1) := by
  have k9 : h.2.1 97 9 = 101 := f (97, 9, 101) (by decide +kernel)
  have k10 : h.2.1 97 10 = 102 := f (97, 10, 102) (by decide +kernel)
  have k11 : h.2.1 97 11 = 103 := f (97, 11, 103) (by decide +kernel)
  refine K_X12_takeTable nlt_wf (fun m x0 x1 x2 x3 h' => x0 = 97 ∧ x1 = nI a ∧ x2 = nI b ∧ ∃ i, m = 1536 - i ∧ i ≤ 1536 ∧ x3 = nI i ∧ Fr [101, 102, 103] h h' ∧ (∀ k, k < i → h'.1 101 (1536 * b + k) = h.1 101 (1536 * a + k)) ∧ (∀ j, j < 1536 * b ∨ 1536 * b + i ≤ j → h'.1 101 j = h.1 101 j) ∧ h'.1 102 b = h.1 102 a ∧ h'.1 103 b = h.1 103 a ∧ ∀ j, j ≠ b → h'.1 102 j = h.1 102 j ∧ h'.1 103 j = h.1 103 j) ?_ ?_
  · refine ⟨rfl, 4, by rw [k10]; rfl, vp_in_nI ha (by decide), vp_in_nI hb (by decide), fun h6 e6 => ⟨4, by rw [k11]; rfl, vp_in_nI ha (by decide), vp_in_nI hb (by decide), fun h12 e12 y14 e14 => ?_⟩⟩
    rw [k10, nI_clamp (by omega), nI_clamp (by omega)] at e6
    rw [k11, nI_clamp (by omega), nI_clamp (by omega), e6, wI_cell (by decide)] at e12
    subst e12
    refine ⟨1536, rfl, rfl, rfl, 0, rfl, by omega, e14, (Fr.rf.put (by simp)).put (by simp), fun k hk => absurd hk (by omega), fun j _ => by rw [wI_cell (by decide), wI_cell (by decide)], by rw [wI_cell (by decide), wI_same], by rw [wI_same], fun j hj => ⟨by rw [wI_cell (by decide), wI_idx hj], by rw [wI_idx hj, wI_cell (by decide)]⟩⟩
  · rintro m x0 x1 x2 x3 h' ⟨rfl, rfl, rfl, i, rfl, hi, rfl, F, e1, e2, e3, e4, e5⟩
    have m1 : (1536 : Int32) * nI a + nI i = nI (1536 * a + i) := by rw [show (1536 : Int32) = nI 1536 from rfl, pk_mul, nI_add]
    have m2 : (1536 : Int32) * nI b + nI i = nI (1536 * b + i) := by rw [show (1536 : Int32) = nI 1536 from rfl, pk_mul, nI_add]
    unfold V_X12_takeTable_26
    rw [m1, m2, F.1, k9, nI_clamp (by omega), nI_clamp (by omega), show (1536 : Int32) = nI 1536 from rfl, nI_leI (by decide) (by omega)]
    refine ⟨fun c => ?_, fun c => ⟨rfl, 6144, rfl, vp_in_nI (by omega) (by decide), vp_in_nI (by omega) (by decide), fun h7 e7 y9 e9 => ?_⟩⟩
    · have : i = 1536 := by omega
      subst this
      exact ⟨F, e1, e2, e3, e4, e5⟩
    · subst e7
      refine ⟨1536 - (i + 1), by omega, rfl, rfl, rfl, i + 1, rfl, by omega, by rw [e9, nI_1], F.put (by simp), fun k hk => ?_, fun j hj => ?_, by rw [wI_cell (by decide)]; exact e3, by rw [wI_cell (by decide)]; exact e4, fun j hj => by rw [wI_cell (by decide), wI_cell (by decide)]; exact e5 j hj⟩
      · by_cases hki : k = i
        · subst hki
          rw [wI_same, e2 _ (by omega)]
        · rw [wI_idx (by omega)]; exact e1 k (by omega)
      · rw [wI_idx (by omega)]; exact e2 j (by omega)
theorem S_entryOf {w : Wd} {h : Hp} (f : Fin h) {t : Nat} {T : Tb} (ht : t < 4) (V : EntV h t T) (i what : Nat) (hi : i < 256) (hw : what < 6) : C_X12_entryOf w SH 97 (nI t) (nI i) (nI what) h (fun v h1 => h1 = h ∧ v = nI (T.1.getD (cellT i what) 0)) := by
  have k9 : h.2.1 97 9 = 101 := f (97, 9, 101) (by decide +kernel)
  have m1 : (1536 : Int32) * nI t + (256 : Int32) * nI what + nI i = nI (1536 * t + 256 * what + i) := by rw [show (1536 : Int32) = nI 1536 from rfl, show (256 : Int32) = nI 256 from rfl, pk_mul, pk_mul, nI_add, nI_add]
  refine K_X12_entryOf ⟨rfl, 6144, by rw [k9]; rfl, ?_, rfl, ?_⟩
  · rw [m1]; exact vp_in_nI (by omega) (by decide)
  · rw [m1, k9, nI_clamp (by omega)]; exact V.1 what i hw hi
/-- the reference's tables alone have changed -/
theorem MS.ent {h h1 : Hp} {s : St} {g' : Tb} (X : MS h s) (F : Fr [101, 102, 103] h h1) (V0 : EntV h1 0 (UBy, 4, 3)) (V2 : EntV h1 2 g') (V1 : EntV h1 1 s.2.2.2.2.1) : MS h1 (s.1, s.2.1, s.2.2.1, g', s.2.2.2.2) := by
  obtain ⟨f, ⟨⟨a1, a2, a3⟩, ⟨a4, a5, a6⟩, ⟨a7, a8, a9⟩⟩, ⟨o1, o2, o3, o4, o5, o6, o7, o8, o9⟩⟩ := X
  have e97 := F.2.2 97 (by simp)
  refine ⟨f.fr F, ⟨⟨by rw [e97]; exact a1, a2.of (F.2.2 98 (by simp)), a3⟩, ⟨by rw [e97]; exact a4, a5.of (F.2.2 99 (by simp)), a6⟩, ⟨by rw [e97]; exact a7, a8.of (F.2.2 100 (by simp)), a9⟩⟩, ⟨V0, V2, V1, o4.of (F.2.2 104 (by simp)), fun j hj => by rw [F.2.2 110 (by simp)]; exact o5 j hj, ?_, fun i hi => by rw [F.2.1]; exact o7 i hi, fun i hi => by rw [F.2.1]; exact o8 i hi, by rw [e97]; exact o9⟩⟩
  unfold ActV
  rw [e97, F.2.2 111 (by simp), F.2.2 112 (by simp), F.2.2 113 (by simp), F.2.2 114 (by simp)]
  exact o6
theorem FrE {h h1 : Hp} (F : Fr [101, 102, 103] h h1) : Ag MCells h h1 := F.ag fun c hc => mem_M (by simp at hc; omega) (by simp at hc; omega)
theorem M_given {w : Wd} {h : Hp} {s : St} (X : MS h s) (n m : Int32) : C_X12_given w SH 97 n m h (fun r h1 => r = (givenF s.2.2.2.1 n m).1 ∧ MS h1 (s.1, s.2.1, s.2.2.1, (givenF s.2.2.2.1 n m).2, s.2.2.2.2) ∧ Ag MCells h h1) := by
  have f := X.1
  obtain ⟨o1, o2, o3, -⟩ := X.2.2
  unfold givenF
  refine K_X12_given ⟨fun c => ?_, fun c => ⟨fun c2 => ?_, fun c2 => ⟨fun c3 => ?_, fun c3 => ⟨fun c4 => ?_, fun c4 => ?_⟩⟩⟩⟩
  · rw [if_pos (Or.inl c)]; exact ⟨rfl, X, Ag.rf⟩
  · rw [if_pos (Or.inr (Or.inl c2))]; exact ⟨rfl, X, Ag.rf⟩
  · rw [if_pos (Or.inr (Or.inr (Or.inl c3)))]; exact ⟨rfl, X, Ag.rf⟩
  · obtain ⟨i, hi, rfl⟩ := nI_of2 (M := 32) (n := 32) rfl c (Int32.not_lt.mp c2)
    obtain ⟨j, hj, rfl⟩ := nI_of2 (M := 16) (n := 16) rfl c3 c4
    rw [if_neg (by simp [c, c2, c3, c4]), nI_clamp (by omega), nI_clamp (by omega)]
    refine ⟨rfl, _, S_takeTable f 0 2 (by decide) (by decide) (by decide), fun h9 K => ?_⟩
    have k10 : h9.2.1 97 10 = 102 := by rw [K.1.1]; exact f (97, 10, 102) (by decide +kernel)
    have k11 : h9.2.1 97 11 = 103 := by rw [K.1.1]; exact f (97, 11, 103) (by decide +kernel)
    refine ⟨4, by rw [k10]; rfl, vp_in_nI (n := 2) (by decide) (by decide), fun h13 e13 => ⟨4, by rw [k11]; rfl, vp_in_nI (n := 2) (by decide) (by decide), fun h18 e18 => ?_⟩⟩
    rw [k10] at e13
    rw [k11] at e18
    have c2' : (2 : Int32).toNatClampNeg = 2 := by decide
    rw [c2'] at e13 e18
    subst e13; subst e18
    have F : Fr [101, 102, 103] h (wI (wI h9 102 2 (nI i)) 103 2 (nI j)) := (K.1.put (by simp)).put (by simp)
    have z : ∀ t, t ≠ 2 → ∀ T, EntV h9 t T → EntV (wI (wI h9 102 2 (nI i)) 103 2 (nI j)) t T := fun t ht T V => V.of (fun k hk => by rw [wI_cell (by decide), wI_cell (by decide)]) (by rw [wI_cell (by decide), wI_idx ht]) (by rw [wI_idx ht, wI_cell (by decide)])
    have V2 := K.to o1
    refine ⟨rfl, X.ent F (z 0 (by decide) _ (K.other o1 (by decide))) ⟨fun what i hw hi => by rw [wI_cell (by decide), wI_cell (by decide)]; exact V2.1 what i hw hi, by rw [wI_cell (by decide), wI_same], by rw [wI_same], hi, hj, V2.2.2.2.2.2⟩ (z 1 (by decide) _ (K.other o3 (by decide))), FrE F⟩
  · rw [if_pos (Or.inr (Or.inr (Or.inr c4)))]; exact ⟨rfl, X, Ag.rf⟩
theorem getD_set {l : List Nat} {i j v : Nat} (hi : i < l.length) : (l.set i v).getD j 0 = if i = j then v else l.getD j 0 := by
  by_cases h : i = j
  · subst h
    rw [if_pos rfl, List.getD_eq_getElem?_getD, List.getElem?_set_self hi]; rfl
  · rw [if_neg h, List.getD_eq_getElem?_getD, List.getElem?_set_ne h, List.getD_eq_getElem?_getD]
theorem lt_of_n {x M : Int32} {n m : Nat} (hM : M = nI n) (hm : m = n + 1) (hn : m < 2 ^ 31) (h : ¬ M < x) : ¬ nI m ≤ x := by
  intro q
  have h1 := Int32.not_lt.mp h
  have h2 := Int32.le_trans q h1
  rw [hM, nI_leI hn (by omega)] at h2
  omega
theorem M_entry {w : Wd} {h : Hp} {s : St} (X : MS h s) (i what v : Int32) : C_X12_entry w SH 97 i what v h (fun r h1 => r = (entryF s.2.2.2.1 i what v).1 ∧ MS h1 (s.1, s.2.1, s.2.2.1, (entryF s.2.2.2.1 i what v).2, s.2.2.2.2) ∧ Ag MCells h h1) := by
  have f := X.1
  obtain ⟨o1, o2, o3, -⟩ := X.2.2
  have k9 : h.2.1 97 9 = 101 := f (97, 9, 101) (by decide +kernel)
  have gt : ∀ {x M : Int32} {n m : Nat}, M = nI n → m = n + 1 → m < 2 ^ 31 → M < x → nI m ≤ x := by
    intro x M n m hM hm hn q
    have h0 : ¬ x < 0 := fun z => by
      have := Int32.lt_trans q z
      rw [hM] at this
      exact absurd this (nI_pos (by omega))
    obtain ⟨j, hj, rfl⟩ := nI_of h0
    rw [hM, nI_ltI (by omega) hj] at q
    rw [nI_leI hn hj]
    omega
  unfold entryF
  refine K_X12_entry ⟨fun c => ?_, fun c => ⟨fun c2 => ?_, fun c2 => ⟨fun c3 => ?_, fun c3 => ⟨fun c4 => ?_, fun c4 => ⟨fun c5 => ?_, fun c5 => ⟨fun c6 y7 e7 => ?_, fun c6 => ?_⟩⟩⟩⟩⟩⟩
  · rw [if_pos (Or.inl c)]; exact ⟨rfl, X, Ag.rf⟩
  · rw [if_pos (Or.inr (Or.inl (show (256 : Int32) ≤ i from gt (n := 255) (m := 256) rfl rfl (by decide) c2)))]; exact ⟨rfl, X, Ag.rf⟩
  · rw [if_pos (Or.inr (Or.inr (Or.inl c3)))]; exact ⟨rfl, X, Ag.rf⟩
  · rw [if_pos (Or.inr (Or.inr (Or.inr (Or.inl (show (6 : Int32) ≤ what from gt (n := 5) (m := 6) rfl rfl (by decide) c4)))))]; exact ⟨rfl, X, Ag.rf⟩
  · rw [if_pos (by simp [c5])]; exact ⟨rfl, X, Ag.rf⟩
  · have d2 := lt_of_n (n := 255) (m := 256) rfl rfl (by decide) c2
    have d4 := lt_of_n (n := 5) (m := 6) rfl rfl (by decide) c4
    rw [if_neg (by rintro (q | q | q | q | q | q); exact c q; exact d2 q; exact c3 q; exact d4 q; exact c5 q; exact absurd c6 (Int32.not_le.mpr q))]
    obtain ⟨a, ha, rfl⟩ := nI_of3 (M := 256) (n := 256) rfl (by decide) c d2
    obtain ⟨b, hb, rfl⟩ := nI_of3 (M := 6) (n := 6) rfl (by decide) c3 d4
    obtain ⟨u, hu, rfl⟩ := nI_of2 (M := 255) (n := 255) rfl c5 c6
    rw [nI_clamp (by omega), nI_clamp (by omega), un_nI (by omega)]
    have m1 : (3072 : Int32) + (256 : Int32) * nI b + nI a = nI (1536 * 2 + 256 * b + a) := by rw [show (3072 : Int32) = nI 3072 from rfl, show (256 : Int32) = nI 256 from rfl, pk_mul, nI_add, nI_add]
    rw [m1] at e7
    subst e7
    rw [k9, nI_clamp (by omega)]
    refine ⟨rfl, 6144, rfl, vp_in_nI (by omega) (by decide), fun y13 e13 => ⟨vp_in_nI (by omega) (by decide), fun h16 e16 => ?_⟩⟩
    subst e16
    have F : Fr [101, 102, 103] h (wI h 101 (1536 * 2 + 256 * b + a) (nI u)) := Fr.rf.put (by simp)
    have hc := cellT_lt ha hb
    refine ⟨by rw [e13]; exact o2.1 b a hb ha, X.ent F (o1.of (fun k hk => wI_idx (by omega)) rfl rfl) ⟨fun what' i' hw' hi' => ?_, o2.2.1, o2.2.2.1, o2.2.2.2.1, o2.2.2.2.2.1, by simpa using o2.2.2.2.2.2.1, fun z hz => ?_⟩ (o3.of (fun k hk => wI_idx (by omega)) rfl rfl), FrE F⟩
    · rw [getD_set (by rw [o2.2.2.2.2.2.1]; exact hc)]
      by_cases e : cellT a b = cellT i' what'
      · obtain ⟨rfl, rfl⟩ := cellT_inj ha hb hi' hw' e
        rw [if_pos rfl, wI_same]
      · rw [if_neg e, wI_idx (by intro q; apply e; have : b = what' ∧ a = i' := by omega
                                 rw [this.1, this.2])]
        exact o2.1 what' i' hw' hi'
    · rcases List.mem_or_eq_of_mem_set hz with q | q
      · exact o2.2.2.2.2.2.2 z q
      · omega
  · rw [if_pos (by simp [Int32.not_le.mp c6])]; exact ⟨rfl, X, Ag.rf⟩
theorem M_place {w : Wd} {h : Hp} {s : St} (X : MS h s) : C_X12_place w SH 97 h (fun r h1 => r = s.2.2.2.2.2.2.2.2.2 ∧ MS h1 s ∧ Ag MCells h h1) := by
  obtain ⟨o1, o2, o3, o4, o5, o6, o7, o8, o9⟩ := X.2.2
  exact K_X12_place ⟨rfl, o9, X, Ag.rf⟩
theorem M_told {w : Wd} {h : Hp} {s : St} (X : MS h s) (what : Int32) : C_X12_told w SH 97 what h (fun r h1 => r = toldF s.2.2.2.2 what ∧ MS h1 s ∧ Ag MCells h h1) := by
  have f := X.1
  have k30 : h.2.1 97 30 = 110 := f (97, 30, 110) (by decide +kernel)
  have k10 : h.2.1 97 10 = 102 := f (97, 10, 102) (by decide +kernel)
  have k11 : h.2.1 97 11 = 103 := f (97, 11, 103) (by decide +kernel)
  obtain ⟨o1, o2, o3, o4, o5, o6, o7, o8, o9⟩ := X.2.2
  have c1' : (1 : Int32).toNatClampNeg = 1 := by decide
  unfold toldF
  refine K_X12_told ⟨fun c => ?_, fun c => ⟨fun c2 => ⟨fun c3 => ⟨fun c4 => ?_, fun c4 => ?_⟩, fun c3 => ?_⟩, fun c2 => ?_⟩⟩
  · rw [if_neg (fun q => by subst q; exact absurd c (by decide)), if_neg (fun q => by subst q; exact absurd c (by decide)), if_pos (Or.inl c)]; exact ⟨rfl, X, Ag.rf⟩
  · obtain ⟨j, hj, rfl⟩ := nI_of2 (M := 9) (n := 9) rfl c c2
    rw [if_neg c3, if_neg c4]
    rw [show (8 : Int32) = nI 8 from rfl, nI_eq (by omega) (by decide)] at c3
    rw [show (9 : Int32) = nI 9 from rfl, nI_eq (by omega) (by decide)] at c4
    have hj8 : j < 8 := by omega
    rw [if_neg (by simp [c]; rw [show (8 : Int32) = nI 8 from rfl, nI_ltI (by omega) (by decide)]; omega), nI_clamp (by omega)]
    refine ⟨rfl, 8, by rw [k30]; rfl, vp_in_nI hj8 (by decide), ?_⟩
    rw [k30]; exact ⟨o5 j hj8, X, Ag.rf⟩
  · subst c4
    rw [if_neg (by decide), if_pos rfl]
    refine ⟨rfl, 4, by rw [k11]; rfl, vp_in_nI (n := 1) (by decide) (by decide), ?_⟩
    rw [k11, c1']; exact ⟨o3.2.2.1, X, Ag.rf⟩
  · subst c3
    rw [if_pos rfl]
    refine ⟨rfl, 4, by rw [k10]; rfl, vp_in_nI (n := 1) (by decide) (by decide), ?_⟩
    rw [k10, c1']; exact ⟨o3.2.1, X, Ag.rf⟩
  · rw [if_neg (fun q => by subst q; exact absurd (by decide) c2), if_neg (fun q => by subst q; exact absurd (by decide) c2), if_pos (Or.inr ?_)]
    · exact ⟨rfl, X, Ag.rf⟩
    · intro q
      exact c2 (Int32.le_trans (Int32.le_of_lt q) (by decide))
theorem M_instruction {w : Wd} {h : Hp} {s : St} (X : MS h s) (i what : Int32) : C_X12_instruction w SH 97 i what h (fun r h1 => r = insF s.2.2.2.2.2.2.1 i what ∧ MS h1 s ∧ Ag MCells h h1) := by
  have f := X.1
  have k32 : h.2.1 97 32 = 111 := f (97, 32, 111) (by decide +kernel)
  have k33 : h.2.1 97 33 = 112 := f (97, 33, 112) (by decide +kernel)
  have k34 : h.2.1 97 34 = 113 := f (97, 34, 113) (by decide +kernel)
  have k35 : h.2.1 97 35 = 114 := f (97, 35, 114) (by decide +kernel)
  obtain ⟨o1, o2, o3, o4, o5, ⟨a1, a2, a3⟩, o7, o8, o9⟩ := X.2.2
  unfold insF
  refine K_X12_instruction ⟨fun c => ?_, fun c => ⟨rfl, ?_⟩⟩
  · rw [if_pos (Or.inl c)]; exact ⟨rfl, X, Ag.rf⟩
  · obtain ⟨j, hj, rfl⟩ := nI_of c
    rw [a1, nI_leI (by omega) hj, nI_clamp hj]
    refine ⟨fun c2 => ?_, fun c2 => ⟨fun c3 => ?_, fun c3 => ⟨fun c4 => ?_, fun c4 => ?_⟩⟩⟩
    · rw [if_pos (Or.inr (Or.inl c2))]; exact ⟨rfl, X, Ag.rf⟩
    · rw [if_pos (Or.inr (Or.inr (Or.inl c3)))]; exact ⟨rfl, X, Ag.rf⟩
    · have hlt : j < s.2.2.2.2.2.2.1.length := by omega
      have c4' : what < 4 := Int32.lt_of_le_of_lt c4 (by decide)
      obtain ⟨d0, d1, d2, d3⟩ := a3 j hlt
      rw [if_neg (by simp [c, c2, c3, c4']), getD_ac hlt, k32, k33, k34, k35]
      have hv : vp_in (nI j) 2000 := vp_in_nI (by omega) (by decide)
      rcases four c3 c4' with rfl | rfl | rfl | rfl
      · exact ⟨fun q => absurd rfl q, fun _ => ⟨2000, rfl, hv, d0, X, Ag.rf⟩⟩
      · exact ⟨fun _ => ⟨fun q => absurd rfl q, fun _ => ⟨2000, rfl, hv, d1, X, Ag.rf⟩⟩, fun q => absurd q (by decide)⟩
      · exact ⟨fun _ => ⟨fun _ => ⟨fun q => absurd rfl q, fun _ => ⟨2000, rfl, hv, d2, X, Ag.rf⟩⟩, fun q => absurd q (by decide)⟩, fun q => absurd q (by decide)⟩
      · exact ⟨fun _ => ⟨fun _ => ⟨fun _ => ⟨2000, rfl, hv, d3, X, Ag.rf⟩, fun q => absurd q (by decide)⟩, fun q => absurd q (by decide)⟩, fun q => absurd q (by decide)⟩
    · rw [if_pos (Or.inr (Or.inr (Or.inr ?_)))]
      · exact ⟨rfl, X, Ag.rf⟩
      · intro q
        rcases four c3 q with rfl | rfl | rfl | rfl <;> exact c4 (by decide)
theorem M_table {w : Wd} {h : Hp} {s : St} (X : MS h s) (i what : Int32) : C_X12_table w SH 97 i what h (fun r h1 => r = tabF s.2.2.2.2 i what ∧ MS h1 s ∧ Ag MCells h h1) := by
  have f := X.1
  obtain ⟨o1, o2, o3, -⟩ := X.2.2
  have gt : ∀ {x M : Int32} {n m : Nat}, M = nI n → m = n + 1 → m < 2 ^ 31 → M < x → nI m ≤ x := by
    intro x M n m hM hm hn q
    have h0 : ¬ x < 0 := fun z => by
      have := Int32.lt_trans q z
      rw [hM] at this
      exact absurd this (nI_pos (by omega))
    obtain ⟨j, hj, rfl⟩ := nI_of h0
    rw [hM, nI_ltI (by omega) hj] at q
    rw [nI_leI hn hj]
    omega
  unfold tabF
  refine K_X12_table ⟨fun c => ?_, fun c => ⟨fun c2 => ?_, fun c2 => ⟨fun c3 => ?_, fun c3 => ⟨fun c4 => ?_, fun c4 => ?_⟩⟩⟩⟩
  · rw [if_pos (Or.inl c)]; exact ⟨rfl, X, Ag.rf⟩
  · rw [if_pos (Or.inr (Or.inl (show (256 : Int32) ≤ i from gt (n := 255) (m := 256) rfl rfl (by decide) c2)))]; exact ⟨rfl, X, Ag.rf⟩
  · rw [if_pos (Or.inr (Or.inr (Or.inl c3)))]; exact ⟨rfl, X, Ag.rf⟩
  · have d2 := lt_of_n (n := 255) (m := 256) rfl rfl (by decide) c2
    have d4 := lt_of_n (n := 5) (m := 6) rfl rfl (by decide) (Int32.not_lt.mpr c4)
    rw [if_neg (by rintro (q | q | q | q); exact c q; exact d2 q; exact c3 q; exact d4 q)]
    obtain ⟨a, ha, rfl⟩ := nI_of3 (M := 256) (n := 256) rfl (by decide) c d2
    obtain ⟨b, hb, rfl⟩ := nI_of3 (M := 6) (n := 6) rfl (by decide) c3 d4
    rw [nI_clamp (by omega), nI_clamp (by omega)]
    refine ⟨rfl, _, S_entryOf f (t := 1) (by decide) o3 a b ha hb, fun v10 h9 hp => ?_⟩
    obtain ⟨rfl, rfl⟩ := hp
    exact ⟨rfl, X, Ag.rf⟩
  · rw [if_pos (Or.inr (Or.inr (Or.inr (show (6 : Int32) ≤ what from gt (n := 5) (m := 6) rfl rfl (by decide) (Int32.not_le.mp c4)))))]; exact ⟨rfl, X, Ag.rf⟩
theorem M_cache {w : Wd} {h : Hp} {s : St} (X : MS h s) (which i : Int32) : C_X12_cache w SH 97 which i h (fun r h1 => r = cacF s.2.2.2.2 which i ∧ MS h1 s ∧ Ag MCells h h1) := by
  have f := X.1
  have k10 : h.2.1 97 10 = 102 := f (97, 10, 102) (by decide +kernel)
  have k11 : h.2.1 97 11 = 103 := f (97, 11, 103) (by decide +kernel)
  have k27 : h.2.1 97 27 = 108 := f (97, 27, 108) (by decide +kernel)
  have k28 : h.2.1 97 28 = 109 := f (97, 28, 109) (by decide +kernel)
  obtain ⟨o1, o2, o3, o4, o5, o6, o7, o8, o9⟩ := X.2.2
  have c1' : (1 : Int32).toNatClampNeg = 1 := by decide
  have hS := o3.2.2.2.2.1
  have hN := o3.2.2.2.1
  unfold cacF
  refine K_X12_cache ⟨fun c => ?_, fun c => ⟨fun c2 => ?_, fun c2 => ⟨fun c3 => ?_, fun c3 => ?_⟩⟩⟩
  · rw [if_neg (fun q => by rw [q.1] at c; exact absurd c (by decide)), if_neg (fun q => by rw [q.1] at c; exact absurd c (by decide))]; exact ⟨rfl, X, Ag.rf⟩
  · rw [if_neg (fun q => by rw [q.1] at c2; exact absurd c2 (by decide)), if_neg (fun q => by rw [q.1] at c2; exact absurd c2 (by decide))]; exact ⟨rfl, X, Ag.rf⟩
  · rw [if_neg (fun q => q.2.1 c3), if_neg (fun q => q.2.1 c3)]; exact ⟨rfl, X, Ag.rf⟩
  · obtain ⟨j, hj, rfl⟩ := nI_of c3
    rw [nI_clamp hj, k10, k11, c1']
    have w01 : which = 0 ∨ which = 1 := by
      obtain ⟨u, hu, rfl⟩ := nI_of2 (M := 1) (n := 1) rfl c (Int32.not_lt.mp c2)
      have : u = 0 ∨ u = 1 := by omega
      rcases this with rfl | rfl
      · exact Or.inl rfl
      · exact Or.inr rfl
    refine ⟨fun c4 => ⟨rfl, 4, rfl, vp_in_nI (n := 1) (by decide) (by decide), ?_⟩, fun c4 => ⟨rfl, 4, rfl, vp_in_nI (n := 1) (by decide) (by decide), ?_⟩⟩
    · have hw : which = 1 := w01.resolve_left c4
      subst hw
      unfold V_X12_cache_37
      rw [o3.2.2.1, show (256 : Int32) = nI 256 from rfl, pk_mul, nI_ltI hj (by omega), k28, nI_clamp hj, if_neg (by simp)]
      refine ⟨fun d => ⟨fun _ => ⟨rfl, 4096, rfl, vp_in_nI (by omega) (by decide), ?_⟩, fun q => absurd q (by decide)⟩, fun d => ?_⟩
      · rw [if_pos ⟨rfl, c3, d⟩, o8 j d, lN_i]; exact ⟨rfl, X, Ag.rf⟩
      · rw [if_neg (fun q => d q.2.2)]; exact ⟨rfl, X, Ag.rf⟩
    · subst c4
      unfold V_X12_cache_37
      rw [o3.2.1, nI_ltI hj (by omega), k27, nI_clamp hj]
      refine ⟨fun d => ⟨fun q => absurd rfl q, fun _ => ⟨rfl, 32, rfl, vp_in_nI (by omega) (by decide), ?_⟩⟩, fun d => ?_⟩
      · rw [if_pos ⟨rfl, c3, d⟩, o7 j d, lN_i]; exact ⟨rfl, X, Ag.rf⟩
      · rw [if_neg (fun q => d q.2.2), if_neg (by simp)]; exact ⟨rfl, X, Ag.rf⟩
