/-! PURE: numbers, rows of bytes as lists (my own) -/
def un (x : Int32) : Nat := x.toBitVec.toNat % 256
theorem un_lt (x : Int32) : un x < 256 := Nat.mod_lt _ (by decide)
theorem b8_and (x : Int32) : b8 x &&& 255 = x &&& 255 := bp_b x
theorem b8_un (x : Int32) : b8 x &&& 255 = nI (un x) := by
  rw [b8_and, pk_and x 8 (by decide)]
  rfl
theorem un_b8 (x : Int32) : un (b8 x) = un x := by
  have h1 := b8_un x
  have h2 := pk_and (b8 x) (m := 255) 8 (by decide)
  have h3 : nI (un (b8 x)) = nI (un x) := h2.symm.trans h1
  exact (nI_eq (Nat.lt_trans (un_lt _) (by decide)) (Nat.lt_trans (un_lt _) (by decide))).mp h3
theorem un_nI {n : Nat} (h : n < 256) : un (nI n) = n := by
  unfold un
  rw [pk_tn (by omega)]
  omega
theorem un_mod (n : Nat) : un (nI n) = n % 256 := by
  have : (nI n).toBitVec.toNat = n % 2 ^ 32 := by simp [nI, Int32.toBitVec_ofNat']
  unfold un
  rw [this]
  omega
theorem ofN (n : Nat) : Int32.ofNat n = nI n := rfl
/-- what is outside the cells S is as it was; so are all refs and longs -/
def Fr (S : List Nat) (h h1 : Hp) : Prop := h1.2.1 = h.2.1 ∧ h1.2.2 = h.2.2 ∧ ∀ c, c ∉ S → h1.1 c = h.1 c
theorem Fr.rf {S : List Nat} {h : Hp} : Fr S h h := ⟨rfl, rfl, fun _ _ => rfl⟩
theorem Fr.tr {S T : List Nat} {h h1 h2 : Hp} (a : Fr S h h1) (b : Fr T h1 h2) : Fr (S ++ T) h h2 := ⟨b.1.trans a.1, b.2.1.trans a.2.1, fun c hc => by
  rw [List.mem_append, not_or] at hc
  rw [b.2.2 c hc.2, a.2.2 c hc.1]⟩
theorem Fr.mono {S T : List Nat} {h h1 : Hp} (a : Fr S h h1) (hs : ∀ c, c ∈ S → c ∈ T) : Fr T h h1 := ⟨a.1, a.2.1, fun c hc => a.2.2 c (fun q => hc (hs c q))⟩
theorem Fr.tr1 {S : List Nat} {h h1 h2 : Hp} (a : Fr S h h1) (b : Fr S h1 h2) : Fr S h h2 := (a.tr b).mono (fun c hc => by rcases List.mem_append.mp hc with h | h <;> exact h)
theorem Fr.put {S : List Nat} {h h1 : Hp} {c k : Nat} {v : Int32} (a : Fr S h h1) (hc : c ∈ S) : Fr S h (wI h1 c k v) := ⟨a.1, a.2.1, fun d hd => by
  rw [← a.2.2 d hd]
  funext j
  have : d ≠ c := fun e => hd (e ▸ hc)
  simp [wI, this]⟩
theorem wI_same {h : Hp} {c k : Nat} {v : Int32} : (wI h c k v).1 c k = v := by simp [wI]
theorem wI_cell {h : Hp} {c k d : Nat} {v : Int32} (hd : d ≠ c) : (wI h c k v).1 d = h.1 d := by funext j; simp [wI, hd]
theorem wI_idx {h : Hp} {c k j : Nat} {v : Int32} (hj : j ≠ k) : (wI h c k v).1 c j = h.1 c j := by simp [wI, hj]
theorem wI_R {h : Hp} {c k : Nat} {v : Int32} : (wI h c k v).2.1 = h.2.1 := rfl
theorem wI_J {h : Hp} {c k : Nat} {v : Int32} : (wI h c k v).2.2 = h.2.2 := rfl
/-- a row r, its bytes in the array a of N places: bs; what was lost: lo -/
def RowV (sh : List Sh) (h : Hp) (r a N : Nat) (bs : List Nat) (lo : Bool) : Prop :=
  shAt sh r = some (.inr 8) ∧ shAt sh a = some (.inl (0, N)) ∧ h.2.1 r 0 = a ∧ N ≤ 40000 ∧ bs.length ≤ N ∧ h.1 r 1 = nI bs.length ∧ (∀ j (hj : j < bs.length), un (h.1 a j) = bs[j]) ∧ h.1 r 2 = (if lo = true then 1 else 0)
theorem RowV.ne {sh : List Sh} {h : Hp} {r a N : Nat} {bs : List Nat} {lo : Bool} (R : RowV sh h r a N bs lo) : a ≠ r := by
  intro e
  have h1 := R.1
  rw [← e, R.2.1] at h1
  cases h1
theorem RowV.fr {sh : List Sh} {h h1 : Hp} {r a N : Nat} {bs : List Nat} {lo : Bool} {S : List Nat} (R : RowV sh h r a N bs lo) (F : Fr S h h1) (hr : r ∉ S) (ha : a ∉ S) : RowV sh h1 r a N bs lo := by
  obtain ⟨q1, q2, q3, q4, q5, q6, q7, q8⟩ := R
  refine ⟨q1, q2, by rw [F.1]; exact q3, q4, q5, by rw [F.2.2 r hr]; exact q6, fun j hj => by rw [F.2.2 a ha]; exact q7 j hj, by rw [F.2.2 r hr]; exact q8⟩
theorem RowV.lt {sh : List Sh} {h : Hp} {r a N : Nat} {bs : List Nat} {lo : Bool} (R : RowV sh h r a N bs lo) {j : Nat} (hj : j < bs.length) : bs[j] < 256 := by
  rw [← R.2.2.2.2.2.2.1 j hj]; exact un_lt _
theorem S_length {w : Wd} {sh : List Sh} {h : Hp} {r a N : Nat} {bs : List Nat} {lo : Bool} (R : RowV sh h r a N bs lo) : C_X8_length w sh r h (fun v h1 => h1 = h ∧ v = nI bs.length) :=
  K_X8_length ⟨R.1, rfl, R.2.2.2.2.2.1⟩
theorem S_room {w : Wd} {sh : List Sh} {h : Hp} {r a N : Nat} {bs : List Nat} {lo : Bool} (R : RowV sh h r a N bs lo) : C_X8_room w sh r h (fun v h1 => h1 = h ∧ v = nI (N - bs.length)) := by
  obtain ⟨q1, q2, q3, q4, q5, q6, q7, q8⟩ := R
  refine K_X8_room ⟨q1, N, by rw [q3]; exact q2, rfl, ?_⟩
  rw [q6, ofN, pk_sub q5]
theorem S_hasLost {w : Wd} {sh : List Sh} {h : Hp} {r a N : Nat} {bs : List Nat} {lo : Bool} (R : RowV sh h r a N bs lo) : C_X8_hasLost w sh r h (fun v h1 => h1 = h ∧ v = if lo = true then 1 else 0) := by
  obtain ⟨q1, q2, q3, q4, q5, q6, q7, q8⟩ := R
  refine K_X8_hasLost ⟨q1, ?_, rfl, q8⟩
  rw [q8]; cases lo <;> simp
theorem S_clear {w : Wd} {sh : List Sh} {h : Hp} {r a N : Nat} {bs : List Nat} {lo : Bool} (R : RowV sh h r a N bs lo) : C_X8_clear w sh r h (fun h1 => RowV sh h1 r a N [] false ∧ Fr [r] h h1) := by
  have hne := R.ne
  obtain ⟨q1, q2, q3, q4, q5, q6, q7, q8⟩ := R
  refine K_X8_clear ⟨q1, fun h2 e2 h4 e4 => ?_⟩
  subst e2; subst e4
  refine ⟨⟨q1, q2, q3, q4, Nat.zero_le _, ?_, fun j hj => absurd hj (by simp), ?_⟩, (Fr.rf.put (by simp)).put (by simp)⟩
  · rw [wI_idx (by decide), wI_same]; rfl
  · rw [wI_same]; rfl
theorem S_at {w : Wd} {sh : List Sh} {h : Hp} {r a N : Nat} {bs : List Nat} {lo : Bool} (R : RowV sh h r a N bs lo) (j : Nat) (hj : j < 2 ^ 31) : C_X8_at w sh r (nI j) h (fun v h1 => h1 = h ∧ v = if q : j < bs.length then nI bs[j] else -1) := by
  obtain ⟨q1, q2, q3, q4, q5, q6, q7, q8⟩ := R
  refine K_X8_at ⟨fun c => absurd c (nI_pos hj), fun _ => ⟨q1, fun c => ?_, fun c => ⟨N, by rw [q3]; exact q2, ?_, ?_⟩⟩⟩
  · rw [q6, nI_leI (by omega) hj] at c
    exact ⟨rfl, by rw [dif_neg (by omega)]⟩
  · rw [q6, nI_leI (by omega) hj] at c
    exact vp_in_nI (by omega) (by omega)
  · rw [q6, nI_leI (by omega) hj] at c
    have hlt : j < bs.length := by omega
    refine ⟨rfl, ?_⟩
    rw [dif_pos hlt, b8_un, q3, nI_clamp hj, q7 j hlt]
/-- one more byte, if there is room -/
def pushL (N : Nat) (q : List Nat × Bool) (b : Nat) : List Nat × Bool := if q.1.length < N then (q.1 ++ [b], q.2) else (q.1, true)
theorem S_push {w : Wd} {sh : List Sh} {h : Hp} {r a N : Nat} {bs : List Nat} {lo : Bool} (R : RowV sh h r a N bs lo) (x : Int32) : C_X8_push w sh r x h (fun h1 => RowV sh h1 r a N (pushL N (bs, lo) (un x)).1 (pushL N (bs, lo) (un x)).2 ∧ Fr [r, a] h h1) := by
  have hne := R.ne
  obtain ⟨q1, q2, q3, q4, q5, q6, q7, q8⟩ := R
  refine K_X8_push ⟨q1, N, by rw [q3]; exact q2, fun c h5 e5 => ?_, fun c => ⟨?_, fun h8 e8 h10 e10 => ?_⟩⟩
  · rw [q6, ofN, nI_leI (by omega) (by omega)] at c
    subst e5
    have e : pushL N (bs, lo) (un x) = (bs, true) := by unfold pushL; rw [if_neg (by simp only; omega)]
    rw [e]
    refine ⟨⟨q1, q2, q3, q4, q5, ?_, fun j hj => ?_, ?_⟩, Fr.rf.put (by simp)⟩
    · rw [wI_idx (by decide)]; exact q6
    · rw [wI_cell hne]; exact q7 j hj
    · rw [wI_same]; rfl
  · rw [q6, ofN, nI_leI (by omega) (by omega)] at c
    rw [q6]
    exact vp_in_nI (by omega) (by omega)
  · rw [q6, ofN, nI_leI (by omega) (by omega)] at c
    have hlt : bs.length < N := by omega
    have e : pushL N (bs, lo) (un x) = (bs ++ [un x], lo) := by unfold pushL; rw [if_pos (by simp only; omega)]
    rw [e]
    subst e8; subst e10
    refine ⟨⟨q1, q2, q3, q4, by simp; omega, ?_, fun j hj => ?_, ?_⟩, (Fr.rf.put (by simp [q3])).put (by simp)⟩
    · rw [wI_same, q3, wI_cell (Ne.symm hne), q6, nI_1]; simp
    · rw [wI_cell hne, q3, q6, nI_clamp (by omega)]
      by_cases hjl : j = bs.length
      · subst hjl
        rw [wI_same, un_b8]; simp
      · have hj2 : j < bs.length := by simp at hj; omega
        rw [wI_idx hjl, q7 j hj2, List.getElem_append_left hj2]
    · rw [wI_idx (by decide), q3, wI_cell (Ne.symm hne)]; exact q8
