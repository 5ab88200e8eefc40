/-! PURE: BIG numbers, sums, fill -/
theorem lgc0 {x y : Int64} : lg_cmp x y = 0 ↔ x = y := by
  unfold lg_cmp
  constructor
  · intro h
    by_cases h1 : y < x
    · simp [h1] at h
    · by_cases h2 : x < y
      · simp [h1] at h
        exact h
      · exact Int64.le_antisymm (Int64.not_lt.mp h1) (Int64.not_lt.mp h2)
  · intro h
    subst h
    simp [Int64.lt_irrefl]
def bigLen (n : Nat) : Nat := if n < 128 then 1 else if n < 16384 then 2 else if n < 2097152 then 3 else if n < 268435456 then 4 else 5
theorem bigLen_b (n : Nat) : 1 ≤ bigLen n ∧ bigLen n ≤ 5 := by unfold bigLen; split <;> (try split) <;> (try split) <;> (try split) <;> omega
theorem S_bigLength {w : Wd} {sh : List Sh} {h : Hp} (n : Nat) (hn : n < 2 ^ 63) : C_X11_bigLength w sh (lN n) h (fun v h1 => h1 = h ∧ v = nI (bigLen n)) := by
  have sh7 : ∀ m, m < 2 ^ 63 → ((lN m).toUInt64 >>> ((7 : Int32).toInt64.toUInt64 &&& Int64.toUInt64 63)).toInt64 = lN (m / 128) := fun m hm => by
    rw [show (7 : Int32) = nI 7 from rfl, wb_shr (by omega) (by decide)]
  refine K_X11_bigLength nlt_wf (fun m x2 x3 h' => h' = h ∧ ∃ i, m = 5 - i ∧ i ≤ 4 ∧ x2 = nI (i + 1) ∧ x3 = lN (n / 128 ^ (i + 1)) ∧ (i = 0 ∨ 128 ^ i ≤ n)) ?_ ?_
  · intro y1 e1 y3 e3
    refine ⟨5, rfl, 0, rfl, by omega, e1, ?_, Or.inl rfl⟩
    rw [e3, sh7 n hn]
  · rintro m x2 x3 h' ⟨rfl, i, rfl, hi, rfl, rfl, hlo⟩
    have hd : n / 128 ^ (i + 1) < 2 ^ 63 := Nat.lt_of_le_of_lt (Nat.div_le_self _ _) hn
    have hz : lg_cmp (lN (n / 128 ^ (i + 1))) 0 = 0 ↔ n < 128 ^ (i + 1) := by
      rw [lgc0, show (0 : Int64) = lN 0 from rfl, pk_lEQ hd (by decide), Nat.div_eq_zero_iff]
      have : 0 < 128 ^ (i + 1) := Nat.pow_pos (by decide)
      omega
    have cases5 : i = 0 ∨ i = 1 ∨ i = 2 ∨ i = 3 ∨ i = 4 := by omega
    refine ⟨fun c => ?_, fun c => ⟨fun c2 => ?_, fun c2 y3 e3 y5 e5 => ?_⟩⟩
    · rw [hz] at c
      refine ⟨rfl, congrArg nI ?_⟩
      unfold bigLen
      rcases cases5 with rfl | rfl | rfl | rfl | rfl <;> simp at c hlo <;> (try rw [if_neg (by omega)]) <;> (try rw [if_neg (by omega)]) <;> (try rw [if_neg (by omega)]) <;> (try rw [if_neg (by omega)]) <;> (try rw [if_pos (by omega)])
    · rw [hz] at c
      rw [show (5 : Int32) = nI 5 from rfl, nI_leI (by decide) (by omega)] at c2
      have : i = 4 := by omega
      subst this
      refine ⟨rfl, congrArg nI ?_⟩
      unfold bigLen
      simp at c hlo
      rw [if_neg (by omega), if_neg (by omega), if_neg (by omega), if_neg (by omega)]
    · rw [hz] at c
      rw [show (5 : Int32) = nI 5 from rfl, nI_leI (by decide) (by omega)] at c2
      refine ⟨5 - (i + 1), by omega, rfl, i + 1, rfl, by omega, ?_, ?_, Or.inr (by omega)⟩
      · rw [e3, nI_1]
      · rw [e5, sh7 _ hd, Nat.div_div_eq_div_mul, ← Nat.pow_succ]
def bigR (n : Nat) : Nat → List Nat
  | 0 => []
  | 1 => [n % 128]
  | k + 2 => (128 + n / 128 ^ (k + 1) % 128) :: bigR n (k + 1)
/-- the bytes of a BIG number -/
def bigB (n : Nat) : List Nat := bigR n (bigLen n)
theorem un_127 (m : Nat) : un (nI m &&& 127) = m % 128 := by
  rw [pk_and (nI m) (m := 127) 7 (by decide), un_nI (by omega)]
  have : (nI m).toBitVec.toNat = m % 2 ^ 32 := by simp [nI, Int32.toBitVec_ofNat']
  omega
theorem or128 : ∀ j, j < 128 → (nI j ||| 128) = nI (128 + j) := by decide
theorem un_128 (m : Nat) : un ((nI m &&& 127) ||| 128) = 128 + m % 128 := by
  have : (nI m).toBitVec.toNat = m % 2 ^ 32 := by simp [nI, Int32.toBitVec_ofNat']
  rw [pk_and (nI m) (m := 127) 7 (by decide), or128 _ (by omega), un_nI (by omega)]
  omega
theorem p128 (k : Nat) : 128 ^ k = 2 ^ (7 * k) := by rw [show (128 : Nat) = 2 ^ 7 from rfl, ← Nat.pow_mul]
theorem S_pushBig {w : Wd} {sh : List Sh} {h : Hp} {r a N : Nat} {bs : List Nat} {lo : Bool} (R : RowV sh h r a N bs lo) (n : Nat) (hn : n < 2 ^ 63) : C_X8_pushBig w sh r (lN n) h (fun h1 => RowV sh h1 r a N (pushAll N (bs, lo) (bigB n)).1 (pushAll N (bs, lo) (bigB n)).2 ∧ Fr [r, a] h h1) := by
  have hb := bigLen_b n
  refine K_X8_pushBig nlt_wf (fun m x0 x1 x3 h' => x0 = r ∧ x1 = lN n ∧ m ≤ 4 ∧ x3 = nI m ∧ ∃ q : List Nat × Bool, RowV sh h' r a N q.1 q.2 ∧ Fr [r, a] h h' ∧ pushAll N q (bigR n (m + 1)) = pushAll N (bs, lo) (bigB n)) ?_ ?_
  · refine ⟨_, S_bigLength n hn, fun v5 h4 hp y6 e6 => ?_⟩
    obtain ⟨rfl, rfl⟩ := hp
    refine ⟨bigLen n - 1, rfl, rfl, by omega, ?_, (bs, lo), R, Fr.rf, ?_⟩
    · rw [e6, show (1 : Int32) = nI 1 from rfl, pk_sub (by omega)]
    · rw [show bigLen n - 1 + 1 = bigLen n by omega]; rfl
  · rintro m x0 x1 x3 h' ⟨rfl, rfl, hm, rfl, q, Rq, F, he⟩
    refine ⟨fun c => ⟨Rq.1, _, S_push Rq _, fun h6 hp => ?_⟩, fun c => ⟨Rq.1, _, S_push Rq _, fun h11 hp y12 e12 => ?_⟩⟩
    · cases m with
      | zero =>
        rw [lN_i, un_127] at hp
        exact he ▸ ⟨hp.1, F.tr1 hp.2⟩
      | succ m => exact absurd c (nI_nle (by omega) (by omega))
    · cases m with
      | zero => exact absurd (by decide) c
      | succ m =>
        have h7 : (7 : Int32) * nI (m + 1) = nI (7 * (m + 1)) := pk_mul 7 (m + 1)
        rw [h7, wb_shr (by omega) (by omega), lN_i, un_128, ← p128] at hp
        refine ⟨m, by omega, rfl, rfl, by omega, ?_, pushL N q (128 + n / 128 ^ (m + 1) % 128), hp.1, F.tr1 hp.2, he⟩
        rw [e12, addm1]; exact nI_pred m
def adlS (q : Nat × Nat) (b : Nat) : Nat × Nat := ((q.1 + b) % 65521, (q.2 + (q.1 + b) % 65521) % 65521)
def adl (l : List Nat) : Nat := 65536 * (l.foldl adlS (1, 0)).2 + (l.foldl adlS (1, 0)).1
theorem S_sum {w : Wd} {sh : List Sh} {h : Hp} {r a N : Nat} {bs : List Nat} {lo : Bool} (R : RowV sh h r a N bs lo) (f e : Nat) (hf : f ≤ e) (he : e ≤ bs.length) : C_X8_sum w sh r (nI f) (nI e) h (fun v h1 => h1 = h ∧ v = lN (adl ((bs.drop f).take (e - f)))) := by
  have hN := R.2.2.2.1
  have hN2 := R.2.2.2.2.1
  refine K_X8_sum nlt_wf (fun m x0 x2 x3 x4 x5 h' => h' = h ∧ x0 = r ∧ x2 = nI e ∧ ∃ (q : Nat × Nat) (i : Nat), m = e - i ∧ i ≤ e ∧ x5 = nI i ∧ x3 = nI q.1 ∧ x4 = nI q.2 ∧ q.1 < 65521 ∧ q.2 < 65521 ∧ ((bs.drop i).take (e - i)).foldl adlS q = ((bs.drop f).take (e - f)).foldl adlS (1, 0)) ?_ ?_
  · intro y1 e1 y3 e3 y5 e5
    exact ⟨e - f, rfl, rfl, rfl, (1, 0), f, rfl, hf, e5, e1, e3, by decide, by decide, rfl⟩
  · rintro m x0 x2 x3 x4 x5 h' ⟨rfl, rfl, rfl, q, i, rfl, hi, rfl, rfl, rfl, q1, q2, hq⟩
    refine ⟨fun c => ⟨rfl, ?_⟩, fun c => ⟨R.1, _, S_at R i (by omega), fun v7 h6 hp y8 e8 y10 e10 y12 e12 => ?_⟩⟩
    · rw [nI_leI (by omega) (by omega)] at c
      have hie : i = e := by omega
      subst hie
      rw [Nat.sub_self, List.take_zero] at hq
      unfold adl
      rw [← hq, List.foldl_nil, nI_l (by omega), nI_l (by omega), show (65536 : Int64) = lN 65536 from rfl, lN_mul, lN_add]
    · rw [nI_leI (by omega) (by omega)] at c
      have hlt : i < bs.length := by omega
      obtain ⟨rfl, rfl⟩ := hp
      rw [dif_pos hlt] at e8
      have hb := R.lt hlt
      have ea : y8 = nI ((q.1 + bs[i]) % 65521) := by
        rw [e8, nI_add, show (65521 : Int32) = nI 65521 from rfl, pk_rem (by omega) (by decide) (by decide)]
      have eb : y10 = nI ((q.2 + (q.1 + bs[i]) % 65521) % 65521) := by
        rw [e10, ea, nI_add, show (65521 : Int32) = nI 65521 from rfl, pk_rem (by omega) (by decide) (by decide)]
      refine ⟨e - (i + 1), by omega, rfl, rfl, rfl, adlS q bs[i], i + 1, rfl, by omega, by rw [e12, nI_1], ea, eb, Nat.mod_lt _ (by decide), Nat.mod_lt _ (by decide), ?_⟩
      rw [← hq, List.drop_eq_getElem_cons hlt, show e - i = (e - (i + 1)) + 1 by omega, List.take_succ_cons, List.foldl_cons]
theorem S_fill {w : Wd} {sh : List Sh} {h : Hp} {a n : Nat} (hs : shAt sh a = some (.inl (1, n))) (hn : n < 2 ^ 31) (v : Int32) : C_J7_fill_53178 w sh a v h (fun h1 => (∀ j, j < n → h1.1 a j = v) ∧ Fr [a] h h1) := by
  refine K_J7_fill_53178 nlt_wf (fun m x0 x1 x2 x3 h' => x0 = a ∧ x1 = v ∧ x3 = nI n ∧ ∃ i, m = n - i ∧ i ≤ n ∧ x2 = nI i ∧ (∀ j, j < i → h'.1 a j = v) ∧ Fr [a] h h') ?_ ?_
  · intro y1 e1
    exact ⟨n, hs, fun y5 e5 => ⟨n, rfl, rfl, e5, 0, rfl, by omega, e1, fun j hj => absurd hj (by omega), Fr.rf⟩⟩
  · rintro m x0 x1 x2 x3 h' ⟨rfl, rfl, rfl, i, rfl, hi, rfl, hall, F⟩
    refine ⟨fun c => ?_, fun c => ⟨n, hs, ?_, fun h5 e5 y7 e7 => ?_⟩⟩
    · rw [nI_leI hn (by omega)] at c
      exact ⟨fun j hj => hall j (by omega), F⟩
    · rw [nI_leI hn (by omega)] at c
      exact vp_in_nI (by omega) hn
    · rw [nI_leI hn (by omega)] at c
      subst e5
      rw [nI_clamp (by omega)]
      refine ⟨n - (i + 1), by omega, rfl, rfl, rfl, i + 1, rfl, by omega, by rw [e7, nI_1], fun j hj => ?_, F.put (by simp)⟩
      by_cases hji : j = i
      · subst hji; rw [wI_same]
      · rw [wI_idx hji]; exact hall j (by omega)
