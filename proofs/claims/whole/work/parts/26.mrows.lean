/-! the reference's state, and its calls on its rows -/
def ByV (h : Hp) (a : Nat) (bs : List Nat) : Prop := ∀ j (hj : j < bs.length), un (h.1 a j) = bs[j]
def cellT (i what : Nat) : Nat := (what % 3 * 2 + what / 3) * 256 + i
def MA (h : Hp) (row came old : List Nat) : Prop := (h.1 97 1 = nI row.length ∧ ByV h 98 row ∧ row.length ≤ 8000) ∧ (h.1 97 3 = nI came.length ∧ ByV h 99 came ∧ came.length ≤ 8000) ∧ (h.1 97 5 = nI old.length ∧ ByV h 100 old ∧ old.length ≤ 4000)
def EntV (h : Hp) (t : Nat) (T : Tb) : Prop := (∀ what i, what < 6 → i < 256 → h.1 101 (1536 * t + 256 * what + i) = nI (T.1.getD (cellT i what) 0)) ∧ h.1 102 t = nI T.2.1 ∧ h.1 103 t = nI T.2.2 ∧ T.2.1 ≤ 32 ∧ T.2.2 ≤ 16 ∧ T.1.length = 1536 ∧ ∀ b ∈ T.1, b < 256
def ActV (h : Hp) (ac : List (Nat × Nat × Int32 × Nat)) : Prop := h.1 97 31 = nI ac.length ∧ ac.length ≤ 2000 ∧ ∀ i (hi : i < ac.length), h.1 111 i = nI ac[i].1 ∧ h.1 112 i = nI ac[i].2.1 ∧ h.1 113 i = ac[i].2.2.1 ∧ h.1 114 i = nI ac[i].2.2.2
def MO (h : Hp) (g : Tb) (o : OI) : Prop := EntV h 0 (UBy, 4, 3) ∧ EntV h 2 g ∧ EntV h 1 o.1 ∧ ByV h 104 UBy ∧ (∀ j, j < 8 → h.1 110 j = nI (o.2.1 j)) ∧ ActV h o.2.2.1 ∧ (∀ i, i < o.1.2.1 → h.2.2 108 i = lN (o.2.2.2.1 i)) ∧ (∀ i, i < 256 * o.1.2.2 → h.2.2 109 i = lN (o.2.2.2.2.1 i)) ∧ h.1 97 8 = o.2.2.2.2.2
def MS (h : Hp) (s : St) : Prop := Fin h ∧ MA h s.1 s.2.1 s.2.2.1 ∧ MO h s.2.2.2.1 s.2.2.2.2
theorem MO.cong {h h1 : Hp} {g : Tb} {o : OI} (R : MO h g o) (e : ∀ c, 101 ≤ c → c ≤ 114 → h1.1 c = h.1 c ∧ h1.2.2 c = h.2.2 c) (e8 : h1.1 97 8 = h.1 97 8) (e31 : h1.1 97 31 = h.1 97 31) : MO h1 g o := by
  have E := fun c h1 h2 => e c h1 h2
  unfold MO EntV ByV ActV at *
  rw [(E 101 (by decide) (by decide)).1, (E 102 (by decide) (by decide)).1, (E 103 (by decide) (by decide)).1, (E 104 (by decide) (by decide)).1, (E 110 (by decide) (by decide)).1, (E 111 (by decide) (by decide)).1, (E 112 (by decide) (by decide)).1, (E 113 (by decide) (by decide)).1, (E 114 (by decide) (by decide)).1, (E 108 (by decide) (by decide)).2, (E 109 (by decide) (by decide)).2, e8, e31]
  exact R
theorem mem_M {c : Nat} (h1 : 97 ≤ c) (h2 : c ≤ 125) : c ∈ MCells := List.mem_map.mpr ⟨c - 97, List.mem_range.mpr (by omega), by omega⟩
theorem ByV.of {h h1 : Hp} {a : Nat} {bs : List Nat} (B : ByV h a bs) (e : h1.1 a = h.1 a) : ByV h1 a bs := fun j hj => by rw [e]; exact B j hj
theorem ByV.push {h : Hp} {a : Nat} {bs : List Nat} (B : ByV h a bs) (x : Int32) : ByV (wI h a bs.length x) a (bs ++ [un x]) := by
  intro j hj
  by_cases hjl : j = bs.length
  · subst hjl; rw [wI_same]; simp
  · have hj2 : j < bs.length := by simp at hj; omega
    rw [wI_idx hjl, B j hj2, List.getElem_append_left hj2]
/-- the row alone has changed -/
theorem MS.row {h h1 : Hp} {s : St} {row' : List Nat} (X : MS h s) (F : Fr [97, 98] h h1) (hk : ∀ k, k ≠ 1 → h1.1 97 k = h.1 97 k) (h1' : h1.1 97 1 = nI row'.length) (B : ByV h1 98 row') (hl : row'.length ≤ 8000) : MS h1 (row', s.2) := by
  obtain ⟨f, ⟨⟨a1, a2, a3⟩, ⟨a4, a5, a6⟩, ⟨a7, a8, a9⟩⟩, o⟩ := X
  refine ⟨f.fr F, ⟨⟨h1', B, hl⟩, ⟨by rw [hk 3 (by decide)]; exact a4, a5.of (F.2.2 99 (by simp)), a6⟩, ⟨by rw [hk 5 (by decide)]; exact a7, a8.of (F.2.2 100 (by simp)), a9⟩⟩, o.cong (fun c h1 h2 => ⟨F.2.2 c (by simp; omega), by rw [F.2.1]⟩) (hk 8 (by decide)) (hk 31 (by decide))⟩
theorem FrM {h h1 : Hp} (F : Fr [97, 98] h h1) : Ag MCells h h1 := F.ag fun c hc => mem_M (by simp at hc; omega) (by simp at hc; omega)
theorem M0 : shAt SH 97 = some (.inr 12) := rfl
theorem sar_un (v : Int64) (k : Nat) (hk : k < 8) : un ((v >>> (((8 : Int32) * nI k).toInt64 &&& 63)).toInt32) = lb v k := by
  rw [show (8 : Int32) * nI k = nI (8 * k) from pk_mul 8 k, wb_c _ (by omega), l2i_un]
  unfold lb
  have h1 : (v >>> lN (8 * k)).toBitVec = v.toBitVec.sshiftRight (8 * k) := by
    rw [Int64.toBitVec_shiftRight, wb_tb, wb_sm _ (by omega)]
    rw [BitVec.sshiftRight_eq']
    congr 1
    exact wb_tn (n := 8 * k) (by omega) |>.symm ▸ (by simp [BitVec.toNat_ofNat])
  rw [h1]
  apply Nat.eq_of_testBit_eq
  intro i
  rw [show (256 : Nat) = 2 ^ 8 from rfl, Nat.testBit_mod_two_pow, Nat.testBit_mod_two_pow, Nat.testBit_div_two_pow]
  by_cases hi : i < 8
  · simp only [hi, decide_true, Bool.true_and]
    rw [← BitVec.getLsbD, BitVec.getLsbD_sshiftRight]
    have h2 : 8 * k + i < 64 := by omega
    simp [show ¬ 64 ≤ i by omega, h2, BitVec.getLsbD, Nat.add_comm]
    intro hh
    omega
  · simp [hi]
theorem M_feed {w : Wd} {h : Hp} {s : St} (X : MS h s) (v : Int64) (n : Int32) : C_X12_feed w SH 97 v n h (fun r h1 => r = (feedF s.1 v n).1 ∧ MS h1 ((feedF s.1 v n).2, s.2) ∧ Ag MCells h h1) := by
  obtain ⟨f, ⟨⟨a1, a2, a3⟩, ⟨a4, a5, a6⟩, ⟨a7, a8, a9⟩⟩, o⟩ := id X
  have k0 : h.2.1 97 0 = 98 := f (97, 0, 98) (by decide +kernel)
  refine K_X12_feed nlt_wf (fun m x0 x1 x4 h' => x0 = 97 ∧ x1 = v ∧ x4 = nI m - 1 ∧ m ≤ 8 ∧ ∃ row', row'.length + m ≤ 8000 ∧ h'.1 97 1 = nI row'.length ∧ ByV h' 98 row' ∧ Fr [97, 98] h h' ∧ (∀ k, k ≠ 1 → h'.1 97 k = h.1 97 k) ∧ (nI (row'.length + m), row' ++ lowL v m) = feedF s.1 v n) ?_ ?_
  · unfold feedF
    refine ⟨fun c => ?_, fun c => ⟨fun c2 => ⟨fun c3 => ?_, fun c3 => ?_⟩, fun c2 => ?_⟩⟩
    · rw [if_pos (Or.inl c)]; exact ⟨rfl, X, Ag.rf⟩
    · obtain ⟨j, hj, rfl⟩ := nI_of2 (M := 8) (n := 8) rfl c c2
      rw [show (0 : Int32) = nI 0 from rfl, nI_eq (by omega) (by omega)] at c3
      refine ⟨rfl, ?_⟩
      rw [a1, nI_add, show (8000 : Int32) = nI 8000 from rfl, nI_leI (by omega) (by omega), if_neg (by simp [c, c2]), nI_clamp (by omega), if_neg c3]
      refine ⟨fun c4 y6 e6 => ?_, fun c4 => ?_⟩
      · rw [if_neg (by omega)]
        exact ⟨j, rfl, rfl, e6, hj, s.1, by omega, a1, a2, Fr.rf, fun _ _ => rfl, rfl⟩
      · rw [if_pos (by omega)]; exact ⟨rfl, X, Ag.rf⟩
    · subst c3
      rw [if_neg (by decide), if_pos (by decide)]
      refine ⟨rfl, fun h9 e9 => ?_⟩
      subst e9
      refine ⟨rfl, X.row (Fr.rf.put (by simp)) (fun k hk => wI_idx hk) wI_same (fun j hj => absurd hj (by simp)) (by simp), FrM (Fr.rf.put (by simp))⟩
    · rw [if_pos (Or.inr c2)]; exact ⟨rfl, X, Ag.rf⟩
  · rintro m x0 x1 x4 h' ⟨rfl, rfl, rfl, hm, row', hl, r1, r2, F, hk, he⟩
    have k0' : h'.2.1 97 0 = 98 := by rw [F.1]; exact k0
    refine ⟨fun c => ⟨rfl, ?_⟩, fun c => ⟨rfl, 8000, by rw [k0']; rfl, ?_, fun h7 e7 h9 e9 y11 e11 => ?_⟩⟩
    · cases m with
      | zero =>
        simp only [lowL, List.append_nil, Nat.add_zero] at he
        rw [← he]
        exact ⟨r1, X.row F hk r1 r2 (by omega), FrM F⟩
      | succ m => rw [nI_pred m] at c; exact absurd c (nI_pos (by omega))
    · cases m with
      | zero => exact absurd (by decide) c
      | succ m => rw [r1]; exact vp_in_nI (by omega) (by decide)
    · cases m with
      | zero => exact absurd (by decide) c
      | succ m =>
        rw [nI_pred m] at e7 e11
        rw [k0', r1, nI_clamp (by omega)] at e7
        have eb : un (b8 ((x1 >>> (((8 : Int32) * nI m).toInt64 &&& 63)).toInt32)) = lb x1 m := by rw [un_b8, sar_un _ _ (by omega)]
        have e71 : h7.1 97 = h'.1 97 := by rw [e7, wI_cell (by decide)]
        rw [e71, r1, nI_1] at e9
        refine ⟨m, by omega, rfl, rfl, by rw [e11, addm1], by omega, row' ++ [lb x1 m], by simp; omega, by rw [e9, wI_same]; simp, ?_, ?_, ?_, ?_⟩
        · have := r2.push (b8 ((x1 >>> (((8 : Int32) * nI m).toInt64 &&& 63)).toInt32))
          rw [eb, ← e7] at this
          exact this.of (by rw [e9, wI_cell (by decide)])
        · rw [e9, e7]; exact (F.put (by simp)).put (by simp)
        · intro k hk1
          rw [e9, wI_idx hk1, e71]; exact hk k hk1
        · rw [← he, show (row' ++ [lb x1 m]).length + m = row'.length + (m + 1) by simp; omega]
          simp [lowL]
theorem M_fill {w : Wd} {h : Hp} {s : St} (X : MS h s) (n seed bits : Int32) : C_X12_fill w SH 97 n seed bits h (fun r h1 => r = (fillF s.1 n seed bits).1 ∧ MS h1 ((fillF s.1 n seed bits).2, s.2) ∧ Ag MCells h h1) := by
  obtain ⟨f, ⟨⟨a1, a2, a3⟩, ⟨a4, a5, a6⟩, ⟨a7, a8, a9⟩⟩, o⟩ := id X
  have k0 : h.2.1 97 0 = 98 := f (97, 0, 98) (by decide +kernel)
  refine K_X12_fill nlt_wf (fun m x0 x1 x3 x4 x5 h' => x0 = 97 ∧ x1 = n ∧ x3 = bits ∧ ∃ (i : Nat) (row' : List Nat), x5 = nI i ∧ n = nI (i + m) ∧ i + m < 2 ^ 31 ∧ row'.length + m ≤ 8000 ∧ h'.1 97 1 = nI row'.length ∧ ByV h' 98 row' ∧ Fr [97, 98] h h' ∧ (∀ k, k ≠ 1 → h'.1 97 k = h.1 97 k) ∧ (nI (row'.length + m), row' ++ fillL bits m x4) = fillF s.1 n seed bits) ?_ ?_
  · unfold fillF
    refine ⟨fun c => ?_, fun c => ⟨fun c2 => ?_, fun c2 => ⟨fun c3 => ?_, fun c3 => ?_⟩⟩⟩
    · rw [if_pos (Or.inl c)]; exact ⟨rfl, X, Ag.rf⟩
    · rw [if_pos (Or.inr (Or.inl c2))]; exact ⟨rfl, X, Ag.rf⟩
    · obtain ⟨j, hj, rfl⟩ := nI_of c
      refine ⟨rfl, ?_⟩
      rw [a1, show (8000 : Int32) = nI 8000 from rfl, pk_sub (by omega), nI_leI (by omega) (by omega), if_neg (by simp [c, c2, c3]), nI_clamp hj]
      refine ⟨fun c4 y6 e6 y8 e8 => ?_, fun c4 => ?_⟩
      · subst e6
        rw [if_neg (by omega)]
        exact ⟨j, rfl, rfl, rfl, 0, s.1, e8, by rw [Nat.zero_add], by omega, by omega, a1, a2, Fr.rf, fun _ _ => rfl, rfl⟩
      · rw [if_pos (by omega)]; exact ⟨rfl, X, Ag.rf⟩
    · rw [if_pos (Or.inr (Or.inr c3))]; exact ⟨rfl, X, Ag.rf⟩
  · rintro m x0 x1 x3 x4 x5 h' ⟨rfl, rfl, rfl, i, row', rfl, hn, hb, hl, r1, r2, F, hk, he⟩
    have k0' : h'.2.1 97 0 = 98 := by rw [F.1]; exact k0
    subst hn
    unfold V_X12_fill_38
    rw [nI_leI (by omega) (by omega)]
    refine ⟨fun c => ⟨rfl, ?_⟩, fun c y3 e3 => ⟨rfl, 8000, by rw [k0']; rfl, by rw [r1]; exact vp_in_nI (by omega) (by decide), fun h9 e9 h11 e11 y13 e13 => ?_⟩⟩
    · have hm : m = 0 := by omega
      subst hm
      simp only [fillL, List.append_nil, Nat.add_zero] at he
      rw [Nat.add_zero, ← he]
      exact ⟨r1, X.row F hk r1 r2 (by omega), FrM F⟩
    · cases m with
      | zero => omega
      | succ m =>
        have ez : y3 = zN x4 := e3
        subst ez
        rw [k0', r1, nI_clamp (by omega)] at e9
        have e91 : h9.1 97 = h'.1 97 := by rw [e9, wI_cell (by decide)]
        rw [e91, r1, nI_1] at e11
        refine ⟨m, by omega, rfl, rfl, rfl, i + 1, row' ++ [zB (zN x4) x3], by rw [e13, nI_1], congrArg nI (by omega), by omega, by simp; omega, by rw [e11, wI_same]; simp, ?_, ?_, ?_, ?_⟩
        · have := r2.push (b8 ((((((zN x4).toUInt32 >>> ((24 : Int32).toUInt32 &&& Int32.toUInt32 31)).toInt32).toUInt32 >>> (x3.toUInt32 &&& Int32.toUInt32 31)).toInt32)))
          rw [un_b8, ← e9] at this
          exact ByV.of (h := h9) this (by rw [e11, wI_cell (by decide)])
        · rw [e11, e9]; exact (F.put (by simp)).put (by simp)
        · intro k hk1
          rw [e11, wI_idx hk1, e91]; exact hk k hk1
        · rw [← he, show (row' ++ [zB (zN x4) x3]).length + m = row'.length + (m + 1) by simp; omega]
          simp [fillL]
theorem M_size {w : Wd} {h : Hp} {s : St} (X : MS h s) : C_X12_size w SH 97 h (fun r h1 => r = nI s.1.length ∧ MS h1 s ∧ Ag MCells h h1) := by
  obtain ⟨f, ⟨⟨a1, a2, a3⟩, -⟩, o⟩ := id X
  exact K_X12_size ⟨rfl, a1, X, Ag.rf⟩
theorem M_again {w : Wd} {h : Hp} {s : St} (X : MS h s) (p n : Int32) : C_X12_again w SH 97 p n h (fun r h1 => r = (againF s.1 p n).1 ∧ MS h1 ((againF s.1 p n).2, s.2) ∧ Ag MCells h h1) := by
  obtain ⟨f, ⟨⟨a1, a2, a3⟩, ⟨a4, a5, a6⟩, ⟨a7, a8, a9⟩⟩, o⟩ := id X
  have k0 : h.2.1 97 0 = 98 := f (97, 0, 98) (by decide +kernel)
  refine K_X12_again nlt_wf (fun m x0 x1 x2 x3 h' => x0 = 97 ∧ ∃ (i q : Nat) (row' : List Nat), x1 = nI q ∧ p = nI q ∧ q < 2 ^ 31 ∧ x2 = n ∧ x3 = nI i ∧ n = nI (i + m) ∧ i + m < 2 ^ 31 ∧ row'.length = s.1.length + i ∧ row'.length + m ≤ 8000 ∧ q + (i + m) ≤ s.1.length ∧ (∀ j (hj : j < s.1.length) (hj2 : j < row'.length), row'[j] = s.1[j]) ∧ h'.1 97 1 = nI row'.length ∧ ByV h' 98 row' ∧ Fr [97, 98] h h' ∧ (∀ k, k ≠ 1 → h'.1 97 k = h.1 97 k) ∧ (nI (row'.length + m), row' ++ (s.1.drop (q + i)).take m) = againF s.1 p n) ?_ ?_
  · unfold againF
    refine ⟨fun c => ?_, fun c => ⟨fun c2 => ?_, fun c2 => ?_⟩⟩
    · rw [if_pos (Or.inl c)]; exact ⟨rfl, X, Ag.rf⟩
    · rw [if_pos (Or.inr (Or.inl c2))]; exact ⟨rfl, X, Ag.rf⟩
    · obtain ⟨i, hi, rfl⟩ := nI_of c
      obtain ⟨j, hj, rfl⟩ := nI_of c2
      rw [nI_clamp hi, nI_clamp hj]
      refine ⟨rfl, ?_⟩
      rw [a1, nI_ltI (by omega) hi]
      refine ⟨fun c3 => ?_, fun c3 => ?_⟩
      · rw [if_pos (Or.inr (Or.inr (by omega)))]; exact ⟨rfl, X, Ag.rf⟩
      · rw [pk_sub (by omega), nI_leI hj (by omega)]
        refine ⟨fun c4 => ?_, fun c4 => ?_⟩
        · rw [if_neg (by simp [c, c2]; omega), show (8000 : Int32) = nI 8000 from rfl, pk_sub (by omega), nI_leI hj (by omega)]
          refine ⟨fun c5 y7 e7 => ?_, fun c5 => ?_⟩
          · rw [if_neg (by omega)]
            exact ⟨j, rfl, 0, i, s.1, rfl, rfl, hi, rfl, e7, by rw [Nat.zero_add], by omega, rfl, by omega, by omega, fun _ _ _ => rfl, a1, a2, Fr.rf, fun _ _ => rfl, by rw [Nat.add_zero]⟩
          · rw [if_pos (by omega)]; exact ⟨rfl, X, Ag.rf⟩
        · rw [if_pos (Or.inr (Or.inr (by omega)))]; exact ⟨rfl, X, Ag.rf⟩
  · rintro m x0 x1 x2 x3 h' ⟨rfl, i, q, row', rfl, hp, hq, rfl, rfl, hn, hb, hl0, hl, hqi, hpre, r1, r2, F, hk, he⟩
    have k0' : h'.2.1 97 0 = 98 := by rw [F.1]; exact k0
    subst hn
    unfold V_X12_again_46
    rw [nI_leI (by omega) (by omega), nI_add, nI_clamp (by omega)]
    refine ⟨fun c => ⟨rfl, ?_⟩, fun c => ⟨rfl, 8000, by rw [k0']; rfl, vp_in_nI (by omega) (by decide), by rw [r1]; exact vp_in_nI (by omega) (by decide), fun h8 e8 h10 e10 y12 e12 => ?_⟩⟩
    · have hm : m = 0 := by omega
      subst hm
      simp only [List.take_zero, List.append_nil, Nat.add_zero] at he
      rw [Nat.add_zero, ← he]
      exact ⟨r1, X.row F hk r1 r2 (by omega), FrM F⟩
    · cases m with
      | zero => omega
      | succ m =>
        have hx : q + i < s.1.length := by omega
        rw [k0', r1, nI_clamp (by omega)] at e8
        have e81 : h8.1 97 = h'.1 97 := by rw [e8, wI_cell (by decide)]
        rw [e81, r1, nI_1] at e10
        have eb : un (b8 (h'.1 98 (q + i))) = s.1[q + i] := by rw [un_b8, r2 (q + i) (by omega), hpre _ hx]
        refine ⟨m, by omega, rfl, i + 1, q, row' ++ [s.1[q + i]], rfl, hp, hq, rfl, by rw [e12, nI_1], congrArg nI (by omega), by omega, by simp; omega, by simp; omega, by omega, fun j hj hj2 => ?_, by rw [e10, wI_same]; simp, ?_, ?_, ?_, ?_⟩
        · rw [List.getElem_append_left (by omega)]
          exact hpre j hj (by omega)
        · have := r2.push (b8 (h'.1 98 (q + i)))
          rw [eb, ← e8] at this
          exact ByV.of (h := h8) this (by rw [e10, wI_cell (by decide)])
        · rw [e10, e8]; exact (F.put (by simp)).put (by simp)
        · intro k hk1
          rw [e10, wI_idx hk1, e81]; exact hk k hk1
        · rw [← he, show (row' ++ [s.1[q + i]]).length + m = row'.length + (m + 1) by simp; omega, drop_cons hx, List.take_succ_cons, show q + (i + 1) = q + i + 1 by omega]
          simp
