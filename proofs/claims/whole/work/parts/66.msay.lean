/-! the reference says its file (my own) -/
def FlV (h : Hp) (acc : List Nat) : Prop := h.1 97 43 = nI acc.length ∧ ByV h 115 acc
theorem FlV.fm {K S L : List Nat} {h h1 : Hp} {acc : List Nat} (X : FlV h acc) (F : Fm K S L h h1) (a : 43 ∉ K) (b : 115 ∉ S) : FlV h1 acc := ⟨by rw [F.2.2.2 43 a]; exact X.1, F.by_ X.2 (by decide) b⟩
theorem M_say {w : Wd} {h : Hp} {acc : List Nat} (f : Fin h) (X : FlV h acc) (hl : acc.length < 40000) (x : Int32) : C_X12_say w SH 97 x h (fun h1 => FlV h1 (acc ++ [un x]) ∧ Fm [43] [115] [] h h1) := by
  have k := fx f 97 42 115 (by decide +kernel)
  refine K_X12_say ⟨rfl, fun c => ?_, fun c => ⟨40000, by rw [k]; rfl, by rw [X.1]; exact vp_in_nI (by omega) (by decide), fun h6 e6 => ⟨rfl, fun h2 e2 => ?_⟩⟩⟩
  · rw [X.1, show (40000 : Int32) = nI 40000 from rfl, nI_leI (by omega) (by omega)] at c; omega
  · rw [k, X.1, nI_clamp (by omega)] at e6
    have B : ByV h6 115 (acc ++ [un x]) := by
      rw [e6, ← un_b8]; exact ByV.push X.2 _
    subst e2
    refine ⟨⟨?_, B.of (wI_cell (by decide))⟩, ?_⟩
    · rw [wI_same, e6, wI_cell (by decide), X.1, nI_1, List.length_append]; rfl
    · refine Fm.put ?_ (by simp)
      rw [e6]; exact Fm.rf.putC (by decide) (by simp)
theorem shr7 {n k : Nat} (hn : n < 2 ^ 62) (hk : k < 9) : lN n >>> (((7 : Int32) * nI k).toInt64 &&& 63) = lN (n / 128 ^ k) := by
  rw [show (7 : Int32) * nI k = nI (7 * k) from pk_mul 7 k, wb_c _ (by omega), p128]
  refine pf_shr ?_ hn
  rw [wb_tb, wb_sm _ (by omega), BitVec.toNat_ofNat, Nat.mod_eq_of_lt (by omega)]
theorem M_bigSize {w : Wd} {h : Hp} (n : Nat) (hn : n < 2 ^ 35) : C_X12_bigSize w SH (lN n) h (fun v h1 => h1 = h ∧ v = nI (bigLen n)) := by
  refine K_X12_bigSize nlt_wf (fun m x0 x2 h' => h' = h ∧ x0 = lN n ∧ ∃ k, x2 = nI k ∧ 1 ≤ k ∧ k ≤ 5 ∧ m = 5 - k ∧ k ≤ bigLen n) ?_ ?_
  · intro y1 e1
    exact ⟨4, rfl, rfl, 1, e1, by omega, by omega, rfl, (bigLen_b n).1⟩
  · rintro m x0 x2 h' ⟨rfl, rfl, k, rfl, h1, h5, rfl, hb⟩
    have hb5 := bigLen_b n
    rw [V_X12_bigSize_2, show (5 : Int32) = nI 5 from rfl, nI_leI (by omega) (by omega), shr7 (by omega) (by omega), show (0 : Int64) = lN 0 from rfl, lgLE (by have := Nat.div_le_self n (128 ^ k); omega) (by decide)]
    have e : n / 128 ^ k ≤ 0 ↔ n < 128 ^ k := by rw [Nat.le_zero_eq, Nat.div_eq_zero_iff_lt (Nat.pow_pos (by decide))]
    rw [e]
    refine ⟨fun c => ⟨rfl, by congr 1; omega⟩, fun c => ⟨fun c2 => ⟨rfl, ?_⟩, fun c2 y3 e3 => ?_⟩⟩
    · congr 1
      have : k = 1 ∨ k = 2 ∨ k = 3 ∨ k = 4 := by omega
      rcases this with rfl | rfl | rfl | rfl <;> (unfold bigLen at hb ⊢; simp at c2; split at hb <;> (try split at hb) <;> (try split at hb) <;> (try split at hb) <;> (repeat' split) <;> omega)
    · rw [nI_1] at e3
      refine ⟨5 - (k + 1), by omega, rfl, rfl, k + 1, e3, by omega, by omega, rfl, ?_⟩
      have : k = 1 ∨ k = 2 ∨ k = 3 ∨ k = 4 := by omega
      rcases this with rfl | rfl | rfl | rfl <;> (unfold bigLen; simp at c2; repeat' split) <;> omega
theorem bigR_un (n : Nat) : ∀ k, bigR n (k + 1) = (n / 128 ^ k % 128 + (if k = 0 then 0 else 128)) :: bigR n k
  | 0 => by show [n % 128] = _; simp [bigR]
  | k + 1 => by show (128 + n / 128 ^ (k + 1) % 128) :: bigR n (k + 1) = _; rw [if_neg (by omega), Nat.add_comm]
theorem M_sayBig {w : Wd} {h : Hp} {acc : List Nat} (f : Fin h) (X : FlV h acc) (n : Nat) (hn : n < 2 ^ 31) (hl : acc.length + 5 ≤ 40000) : C_X12_sayBig w SH 97 ((nI n).toInt64) h (fun h1 => FlV h1 (acc ++ bigB n) ∧ Fm [43] [115] [] h h1) := by
  have hb := bigLen_b n
  rw [nI_l hn]
  refine K_X12_sayBig nlt_wf (fun m x0 x1 x3 h' => x0 = 97 ∧ x1 = lN n ∧ ∃ a, m ≤ bigLen n ∧ (x3 = nI (m - 1) ∧ 1 ≤ m ∨ x3 = -1 ∧ m = 0) ∧ FlV h' a ∧ a.length + m = acc.length + bigLen n ∧ a ++ bigR n m = acc ++ bigB n ∧ Fm [43] [115] [] h h') ?_ ?_
  · refine ⟨_, M_bigSize n (by omega), fun v5 h4 hp y6 e6 => ?_⟩
    obtain ⟨e1, e2⟩ := hp
    obtain rfl := e1.symm
    rw [e2, show (1 : Int32) = nI 1 from rfl, pk_sub (by omega)] at e6
    exact ⟨bigLen n, rfl, rfl, acc, Nat.le_refl _, Or.inl ⟨e6, by omega⟩, X, rfl, rfl, Fm.rf⟩
  · rintro m x0 x1 x3 h' ⟨rfl, rfl, a, hm, hx, Xa, hal, he, F⟩
    have f' := F.fin f
    rcases hx with ⟨rfl, hm1⟩ | ⟨rfl, rfl⟩
    rotate_left
    · refine ⟨fun _ => ?_, fun c => absurd (by decide) c⟩
      rw [show bigR n 0 = [] from rfl, List.append_nil] at he
      rw [← he]; exact ⟨Xa, F⟩
    obtain ⟨k, rfl⟩ : ∃ k, m = k + 1 := ⟨m - 1, by omega⟩
    rw [show k + 1 - 1 = k by omega]
    refine ⟨fun c => absurd c (nI_pos (by omega)), fun _ => ?_⟩
    have e : ∀ z : Nat, ((lN n >>> (((7 : Int32) * nI k).toInt64 &&& 63)) &&& (127 : Int64)).toInt32 = nI (n / 128 ^ k % 128) := fun _ => by
      rw [shr7 (by omega) (by omega), show (127 : Int64) = lN (128 - 1) from rfl, g_mask (s := 7) rfl (by decide) (by have := Nat.div_le_self n (128 ^ k); omega), lN_i]
    have nx : ∀ s0 : Int32, un (nI (n / 128 ^ k % 128) ||| s0) = n / 128 ^ k % 128 + (if k = 0 then 0 else 128) → V_X12_sayBig_34 w SH 97 (lN n) (nI k) s0 (nI (n / 128 ^ k % 128)) 97 h' (fun x0 x1 x3 h_1 => ∃ a_1, a_1 < k + 1 ∧ x0 = 97 ∧ x1 = lN n ∧ ∃ a, a_1 ≤ bigLen n ∧ (x3 = nI (a_1 - 1) ∧ 1 ≤ a_1 ∨ x3 = -1 ∧ a_1 = 0) ∧ FlV h_1 a ∧ a.length + a_1 = acc.length + bigLen n ∧ a ++ bigR n a_1 = acc ++ bigB n ∧ Fm [43] [115] [] h h_1) (fun h1 => FlV h1 (acc ++ bigB n) ∧ Fm [43] [115] [] h h1) := by
      intro s0 hs
      refine ⟨rfl, _, M_say f' Xa (by omega) _, fun h5 hp y6 e6 => ?_⟩
      rw [hs] at hp
      refine ⟨k, by omega, rfl, rfl, _, by omega, ?_, hp.1, by simp; omega, ?_, F.tr hp.2⟩
      · cases k with
        | zero => exact Or.inr ⟨by rw [e6]; decide, rfl⟩
        | succ k => exact Or.inl ⟨by rw [e6, addm1]; exact nI_pred k, by omega⟩
      · rw [bigR_un] at he
        rw [List.append_assoc]; exact he
    rw [e 0, show (0 : Int32) = nI 0 from rfl, nI_leI (by omega) (by decide)]
    refine ⟨fun c => nx _ ?_, fun c => nx _ ?_⟩
    · rw [if_pos (by omega), show nI (n / 128 ^ k % 128) ||| nI 0 = nI (n / 128 ^ k % 128) from Int32.or_zero, un_nI (by omega)]
      rfl
    · rw [if_neg (by omega)]
      have h1 := un_128 (n / 128 ^ k % 128)
      rw [and127 _ (by omega), Nat.mod_mod] at h1
      rw [h1]; omega
theorem M_sayHead {w : Wd} {h : Hp} (f : Fin h) (X : FlV h []) (b : Nat) (hb : b < 256) : C_X12_sayHead w SH 97 (nI b) h (fun h1 => FlV h1 (headB b) ∧ Fm [43] [115] [] h h1) := by
  refine K_X12_sayHead ⟨rfl, _, M_say f X (by decide) _, fun h5 hp => ?_⟩
  obtain ⟨X5, F5⟩ := hp
  refine ⟨_, M_say (F5.fin f) X5 (by decide) _, fun h9 hp => ?_⟩
  obtain ⟨X9, F9⟩ := hp
  have F9 := F5.tr F9
  refine ⟨_, M_say (F9.fin f) X9 (by decide) _, fun h13 hp => ?_⟩
  obtain ⟨X13, F13⟩ := hp
  have F13 := F9.tr F13
  refine ⟨_, M_say (F13.fin f) X13 (by decide) _, fun h17 hp => ?_⟩
  obtain ⟨X17, F17⟩ := hp
  have F17 := F13.tr F17
  refine ⟨_, M_say (F17.fin f) X17 (by decide) _, fun h21 hp => ?_⟩
  rw [un_nI hb] at hp
  exact ⟨hp.1, F17.tr hp.2⟩
/-! the parts of a window: codes, addresses -/
def CoV (h : Hp) (cs : List Nat) : Prop := h.1 97 49 = nI cs.length ∧ ∀ j (hj : j < cs.length), un (h.1 118 (10000 + j)) = cs[j]
def AaV (h : Hp) (ad : List Nat) : Prop := h.1 97 50 = nI ad.length ∧ ∀ j (hj : j < ad.length), un (h.1 118 (20000 + j)) = ad[j]
def DaV (h : Hp) (d : List Nat) : Prop := h.1 97 48 = nI d.length ∧ ∀ j (hj : j < d.length), un (h.1 118 j) = d[j]
theorem CoV.fm {K S L : List Nat} {h h1 : Hp} {acc : List Nat} (X : CoV h acc) (F : Fm K S L h h1) (a : 49 ∉ K) (b : 118 ∉ S) : CoV h1 acc := ⟨by rw [F.2.2.2 49 a]; exact X.1, by rw [F.2.2.1 118 (by decide) b]; exact X.2⟩
theorem AaV.fm {K S L : List Nat} {h h1 : Hp} {acc : List Nat} (X : AaV h acc) (F : Fm K S L h h1) (a : 50 ∉ K) (b : 118 ∉ S) : AaV h1 acc := ⟨by rw [F.2.2.2 50 a]; exact X.1, by rw [F.2.2.1 118 (by decide) b]; exact X.2⟩
theorem DaV.fm {K S L : List Nat} {h h1 : Hp} {acc : List Nat} (X : DaV h acc) (F : Fm K S L h h1) (a : 48 ∉ K) (b : 118 ∉ S) : DaV h1 acc := ⟨by rw [F.2.2.2 48 a]; exact X.1, by rw [F.2.2.1 118 (by decide) b]; exact X.2⟩
/-- one byte more at b + length of the cell 118: the other parts are kept -/
theorem put118 {h : Hp} {b : Nat} {l : List Nat} {x : Int32} (X : ∀ j (hj : j < l.length), un (h.1 118 (b + j)) = l[j]) : ∀ j (hj : j < (l ++ [un x]).length), un ((wI h 118 (b + l.length) (b8 x)).1 118 (b + j)) = (l ++ [un x])[j] := by
  intro j hj
  by_cases e : j = l.length
  · subst e; rw [wI_same, un_b8]; simp
  · have hj2 : j < l.length := by simp at hj; omega
    rw [wI_idx (by omega), X j hj2, List.getElem_append_left hj2]
theorem keep118 {h : Hp} {b k : Nat} {l : List Nat} {x : Int32} (X : ∀ j (hj : j < l.length), un (h.1 118 (b + j)) = l[j]) (hk : k < b ∨ b + l.length ≤ k) : ∀ j (hj : j < l.length), un ((wI h 118 k x).1 118 (b + j)) = l[j] := by
  intro j hj
  rw [wI_idx (by omega)]; exact X j hj
theorem M_addAddress {w : Wd} {h : Hp} {ad : List Nat} (f : Fin h) (X : AaV h ad) (hl : ad.length < 10000) (x : Int32) : C_X12_addAddress w SH 97 x h (fun h1 => AaV h1 (ad ++ [un x]) ∧ Fm [50] [118] [] h h1 ∧ (∀ k, k < 20000 → h1.1 118 k = h.1 118 k)) := by
  have k := fx f 97 47 118 (by decide +kernel)
  have e : (20000 : Int32) + h.1 97 50 = nI (20000 + ad.length) := by rw [X.1, show (20000 : Int32) = nI 20000 from rfl, nI_add]
  refine K_X12_addAddress ⟨rfl, 30000, by rw [k]; rfl, by rw [e]; exact vp_in_nI (by omega) (by decide), fun h5 e5 h7 e7 => ?_⟩
  rw [e, nI_clamp (by omega), k] at e5
  subst e7
  refine ⟨⟨?_, ?_⟩, ?_, ?_⟩
  · rw [wI_same, e5, wI_cell (by decide), X.1, nI_1, List.length_append]; rfl
  · rw [wI_cell (by decide), e5]; exact put118 X.2
  · refine Fm.put ?_ (by simp)
    rw [e5]; exact Fm.rf.putC (by decide) (by simp)
  · intro j hj
    rw [wI_cell (by decide), e5, wI_idx (by omega)]
theorem M_addCode {w : Wd} {h : Hp} {cs : List Nat} (f : Fin h) (X : CoV h cs) (hl : cs.length < 10000) (x : Int32) : C_X12_addCode w SH 97 x h (fun h1 => CoV h1 (cs ++ [un x]) ∧ Fm [49] [118] [] h h1 ∧ (∀ k, k < 10000 ∨ 20000 ≤ k → h1.1 118 k = h.1 118 k)) := by
  have k := fx f 97 47 118 (by decide +kernel)
  have e : (10000 : Int32) + h.1 97 49 = nI (10000 + cs.length) := by rw [X.1, show (10000 : Int32) = nI 10000 from rfl, nI_add]
  refine K_X12_addCode ⟨rfl, 30000, by rw [k]; rfl, by rw [e]; exact vp_in_nI (by omega) (by decide), fun h5 e5 h7 e7 => ?_⟩
  rw [e, nI_clamp (by omega), k] at e5
  subst e7
  refine ⟨⟨?_, ?_⟩, ?_, ?_⟩
  · rw [wI_same, e5, wI_cell (by decide), X.1, nI_1, List.length_append]; rfl
  · rw [wI_cell (by decide), e5]; exact put118 X.2
  · refine Fm.put ?_ (by simp)
    rw [e5]; exact Fm.rf.putC (by decide) (by simp)
  · intro j hj
    rw [wI_cell (by decide), e5, wI_idx (by omega)]
