/-! PURE: more of Row -/
theorem addm1 (x : Int32) : x + (-1) = x - 1 := by rw [Int32.sub_eq_add_neg]
theorem nlt_wf : WellFounded (fun a b : Nat => a < b) := Nat.lt_wfRel.wf
theorem S_put {w : Wd} {sh : List Sh} {h : Hp} {r a N : Nat} {bs : List Nat} {lo : Bool} (R : RowV sh h r a N bs lo) (i : Nat) (hi : i < bs.length) (x : Int32) : C_X8_put w sh r (nI i) x h (fun h1 => RowV sh h1 r a N (bs.set i (un x)) lo ∧ Fr [a] h h1) := by
  have hne := R.ne
  obtain ⟨q1, q2, q3, q4, q5, q6, q7, q8⟩ := R
  refine K_X8_put ⟨fun c => absurd c (nI_pos (by omega)), fun _ => ⟨q1, fun c => ?_, fun c => ⟨N, by rw [q3]; exact q2, vp_in_nI (by omega) (by omega), fun h7 e7 => ?_⟩⟩⟩
  · rw [q6, nI_leI (by omega) (by omega)] at c
    omega
  · subst e7
    rw [q3, nI_clamp (by omega)]
    refine ⟨⟨q1, q2, q3, q4, by simpa using q5, ?_, fun j hj => ?_, ?_⟩, Fr.rf.put (by simp)⟩
    · rw [wI_cell (Ne.symm hne)]; simpa using q6
    · by_cases hji : j = i
      · subst hji
        rw [wI_same, un_b8]; simp
      · have hj2 : j < bs.length := by simpa using hj
        rw [wI_idx hji, q7 j hj2, List.getElem_set_ne (Ne.symm hji)]
    · rw [wI_cell (Ne.symm hne)]; exact q8
theorem S_shorten {w : Wd} {sh : List Sh} {h : Hp} {r a N : Nat} {bs : List Nat} {lo : Bool} (R : RowV sh h r a N bs lo) (n : Nat) (hn : n ≤ bs.length) : C_X8_shorten w sh r (nI n) h (fun h1 => RowV sh h1 r a N (bs.take n) lo ∧ Fr [r] h h1) := by
  have hne := R.ne
  obtain ⟨q1, q2, q3, q4, q5, q6, q7, q8⟩ := R
  refine K_X8_shorten ⟨fun c => absurd c (nI_pos (by omega)), fun _ => ⟨q1, fun c => ?_, fun c h4 e4 => ?_⟩⟩
  · rw [q6, nI_leI (by omega) (by omega)] at c
    rw [List.take_of_length_le c]
    exact ⟨⟨q1, q2, q3, q4, q5, q6, q7, q8⟩, Fr.rf⟩
  · subst e4
    refine ⟨⟨q1, q2, q3, q4, by simp; omega, ?_, fun j hj => ?_, ?_⟩, Fr.rf.put (by simp)⟩
    · rw [wI_same]; simp [Nat.min_eq_left hn]
    · rw [wI_cell hne]
      have hj2 : j < bs.length := by simp at hj; omega
      rw [q7 j hj2, List.getElem_take]
    · rw [wI_idx (by decide)]; exact q8
/-- bytes of a list that come behind, as far as there is room -/
def appL (N : Nat) (q : List Nat × Bool) (l : List Nat) : List Nat × Bool := (q.1 ++ l.take (N - q.1.length), q.2 || decide (N - q.1.length < l.length))
theorem wA_cell {h : Hp} {c d : Nat} {f : Nat → Int32} (hd : d ≠ c) : (wA h c f).1 d = h.1 d := by funext j; simp [wA, hd]
theorem wA_same {h : Hp} {c : Nat} {f : Nat → Int32} : (wA h c f).1 c = f := by funext j; simp [wA]
theorem Fr.putA {S : List Nat} {h h1 : Hp} {c : Nat} {f : Nat → Int32} (a : Fr S h h1) (hc : c ∈ S) : Fr S h (wA h1 c f) := ⟨a.1, a.2.1, fun d hd => by
  rw [← a.2.2 d hd]
  exact wA_cell (fun e => hd (e ▸ hc))⟩
theorem S_append {w : Wd} {sh : List Sh} {h : Hp} {r a N r' a' N' : Nat} {bs bs' : List Nat} {lo lo' : Bool} (R : RowV sh h r a N bs lo) (R' : RowV sh h r' a' N' bs' lo') (f n : Nat) (hf : f + n ≤ bs'.length) : C_X8_append w sh r r' (nI f) (nI n) h (fun h1 => RowV sh h1 r a N (appL N (bs, lo) ((bs'.drop f).take n)).1 (appL N (bs, lo) ((bs'.drop f).take n)).2 ∧ Fr [r, a] h h1) := by
  have hne := R.ne
  have hroom := S_room (w := w) R
  obtain ⟨q1, q2, q3, q4, q5, q6, q7, q8⟩ := R
  obtain ⟨p1, p2, p3, p4, p5, p6, p7, p8⟩ := R'
  have hl : ((bs'.drop f).take n).length = n := by simp; omega
  have fin : ∀ (k : Nat), k = min n (N - bs.length) → ∀ v : Int32, v = (if (appL N (bs, lo) ((bs'.drop f).take n)).2 = true then 1 else 0) → RowV sh (wI (wI (wA h a (va_cpy (h.1 a') (h.1 a) f bs.length k)) r 1 (nI (bs.length + k))) r 2 v) r a N (appL N (bs, lo) ((bs'.drop f).take n)).1 (appL N (bs, lo) ((bs'.drop f).take n)).2 ∧ Fr [r, a] h (wI (wI (wA h a (va_cpy (h.1 a') (h.1 a) f bs.length k)) r 1 (nI (bs.length + k))) r 2 v) := by
    intro k hk v hv
    have hlen : (appL N (bs, lo) ((bs'.drop f).take n)).1.length = bs.length + k := by simp only [appL, List.length_append, List.length_take, List.length_drop]; omega
    refine ⟨⟨q1, q2, q3, q4, by omega, ?_, fun j hj => ?_, ?_⟩, ((Fr.rf.putA (by simp)).put (by simp)).put (by simp)⟩
    · rw [wI_idx (by decide), wI_same, hlen]
    · rw [wI_cell hne, wI_cell hne, wA_same]
      rw [hlen] at hj
      by_cases hjl : j < bs.length
      · rw [pk_cpy_out (Or.inl hjl), q7 j hjl]
        simp only [appL]
        rw [List.getElem_append_left hjl]
      · rw [pk_cpy_in (by omega) (by omega)]
        have hx : f + (j - bs.length) < bs'.length := by omega
        rw [p7 _ hx]
        simp only [appL]
        rw [List.getElem_append_right (by omega)]
        simp [List.getElem_take, List.getElem_drop]
    · rw [wI_same]; exact hv
  refine K_X8_append ⟨fun c => absurd c (nI_pos (by omega)), fun _ => ⟨fun c => absurd c (nI_pos (by omega)), fun _ => ⟨p1, fun c => ?_, fun c => ⟨fun c2 => ⟨q1, _, hroom, fun v h10 hv => ?_⟩, fun c2 => ?_⟩⟩⟩⟩
  · rw [p6, nI_ltI (by omega) (by omega)] at c
    omega
  · obtain ⟨rfl, rfl⟩ := hv
    intro y12 e12
    have ey : y12 = nI (min n (N - bs.length)) := by
      rw [e12]
      split
      · rename_i cc
        rw [nI_ltI (by omega) (by omega)] at cc
        rw [Nat.min_eq_right (by omega)]
      · rename_i cc
        rw [nI_ltI (by omega) (by omega)] at cc
        rw [Nat.min_eq_left (by omega)]
    refine ⟨N', by rw [p3]; exact p2, N, by rw [q3]; exact q2, ⟨nI_pos (by omega), by rw [q6]; exact nI_pos (by omega), by rw [ey]; exact nI_pos (by omega), ?_, ?_⟩, fun h19 e19 h21 e21 => ?_⟩
    · rw [ey, nI_clamp (by omega), nI_clamp (by omega)]; omega
    · rw [ey, q6, nI_clamp (by omega), nI_clamp (by omega)]; omega
    · rw [p3, q3, q6, ey, nI_clamp (by omega), nI_clamp (by omega), nI_clamp (by omega)] at e19
      have e21' : h21 = wI (wA h10 a (va_cpy (h10.1 a') (h10.1 a) f bs.length (min n (N - bs.length)))) r 1 (nI (bs.length + min n (N - bs.length))) := by
        rw [e21, e19, ey, wA_cell (Ne.symm hne), q6, nI_add]
      subst e21'
      have e8 : (wI (wA h10 a (va_cpy (h10.1 a') (h10.1 a) f bs.length (min n (N - bs.length)))) r 1 (nI (bs.length + min n (N - bs.length)))).1 r 2 = (if lo = true then 1 else 0) := by
        rw [wI_idx (by decide), wA_cell (Ne.symm hne)]; exact q8
      rw [e8]
      refine ⟨fun c3 h24 e24 => ?_, fun c3 => ⟨fun c4 h27 e27 => ?_, fun c4 h29 e29 => ?_⟩⟩
      · subst e24
        have : lo = true := by cases lo <;> simp_all
        exact fin _ rfl 1 (by simp [appL, this])
      · subst e27
        have : lo = false := by cases lo <;> simp_all
        rw [ey, nI_leI (by omega) (by omega)] at c4
        exact fin _ rfl 0 (by simp only [appL, hl, this]; rw [if_neg (by simp; omega)])
      · subst e29
        rw [ey, nI_leI (by omega) (by omega)] at c4
        exact fin _ rfl 1 (by simp only [appL, hl]; rw [if_pos (by simp; omega)])
  · rw [p6, pk_sub (by omega), nI_leI (by omega) (by omega)] at c2
    omega
def pushAll (N : Nat) (q : List Nat × Bool) (l : List Nat) : List Nat × Bool := l.foldl (pushL N) q
/-- byte k of a long -/
def lb (v : Int64) (k : Nat) : Nat := v.toBitVec.toNat / 2 ^ (8 * k) % 256
def lowL (v : Int64) : Nat → List Nat
  | 0 => []
  | n + 1 => lb v n :: lowL v n
theorem l2i_un (x : Int64) : un x.toInt32 = x.toBitVec.toNat % 256 := by
  obtain ⟨n, hn, rfl⟩ := wb_of x
  rw [lN_i, un_mod, wb_tn hn]
theorem ushr_un (v : Int64) (k : Nat) (hk : k < 8) : un (((v.toUInt64 >>> (((8 : Int32) * nI k).toInt64.toUInt64 &&& Int64.toUInt64 63)).toInt64).toInt32) = lb v k := by
  obtain ⟨n, hn, rfl⟩ := wb_of v
  rw [show (8 : Int32) * nI k = nI (8 * k) from pk_mul 8 k, wb_shr hn (by omega), l2i_un, wb_tn (by exact Nat.lt_of_le_of_lt (Nat.div_le_self _ _) hn)]
  unfold lb
  rw [wb_tn hn]
theorem S_pushLowest {w : Wd} {sh : List Sh} {h : Hp} {r a N : Nat} {bs : List Nat} {lo : Bool} (R : RowV sh h r a N bs lo) (v : Int64) (n : Nat) (hn : n ≤ 8) : C_X8_pushLowest w sh r v (nI n) h (fun h1 => RowV sh h1 r a N (pushAll N (bs, lo) (lowL v n)).1 (pushAll N (bs, lo) (lowL v n)).2 ∧ Fr [r, a] h h1) := by
  refine K_X8_pushLowest nlt_wf (fun m x0 x1 x4 h' => x0 = r ∧ x1 = v ∧ m ≤ 8 ∧ x4 = nI m - 1 ∧ ∃ q : List Nat × Bool, RowV sh h' r a N q.1 q.2 ∧ Fr [r, a] h h' ∧ pushAll N q (lowL v m) = pushAll N (bs, lo) (lowL v n)) ?_ ?_
  · intro y1 e1
    exact ⟨n, rfl, rfl, hn, e1, (bs, lo), R, Fr.rf, rfl⟩
  · rintro m x0 x1 x4 h' ⟨rfl, rfl, hm, rfl, q, Rq, F, he⟩
    refine ⟨fun c => ?_, fun c => ⟨Rq.1, _, S_push Rq _, fun h6 hp y7 e7 => ?_⟩⟩
    · cases m with
      | zero => exact he ▸ ⟨Rq, F⟩
      | succ m => rw [show nI (m + 1) - 1 = nI m from nI_pred m] at c; exact absurd c (nI_pos (by omega))
    · cases m with
      | zero => exact absurd (by decide) c
      | succ m =>
        rw [show nI (m + 1) - 1 = nI m from nI_pred m] at hp e7
        rw [ushr_un _ _ (by omega)] at hp
        refine ⟨m, by omega, rfl, rfl, by omega, ?_, pushL N q (lb x1 m), hp.1, F.tr1 hp.2, he⟩
        rw [e7, addm1]
