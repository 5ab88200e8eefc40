/-! the class's calls on its rows -/
theorem pushAll_ok {N : Nat} : ∀ (l : List Nat) (bs : List Nat) (lo : Bool), bs.length + l.length ≤ N → pushAll N (bs, lo) l = (bs ++ l, lo)
  | [], bs, lo, _ => by simp [pushAll]
  | b :: l, bs, lo, h => by
    have h1 : bs.length + 1 + l.length ≤ N := by simp at h; omega
    show pushAll N (pushL N (bs, lo) b) l = _
    have e : pushL N (bs, lo) b = (bs ++ [b], lo) := by unfold pushL; rw [if_pos (by simp only; omega)]
    rw [e, pushAll_ok l (bs ++ [b]) lo (by simp; omega)]
    simp
theorem lowL_len (v : Int64) : ∀ n, (lowL v n).length = n
  | 0 => rfl
  | n + 1 => by simp [lowL, lowL_len v n]
theorem appL_ok {N : Nat} {bs l : List Nat} {lo : Bool} (h : bs.length + l.length ≤ N) : appL N (bs, lo) l = (bs ++ l, lo) := by
  unfold appL
  simp only
  rw [List.take_of_length_le (by omega)]
  have : decide (N - bs.length < l.length) = false := by simp; omega
  rw [this, Bool.or_false]
def feedF (row : List Nat) (v : Int64) (n : Int32) : Int32 × List Nat := if n < 0 ∨ ¬ n ≤ 8 then (-2, row) else if n.toNatClampNeg = 0 then (0, []) else if 8000 < row.length + n.toNatClampNeg then (-4, row) else (nI (row.length + n.toNatClampNeg), row ++ lowL v n.toNatClampNeg)
theorem S_isByte {w : Wd} {sh : List Sh} {h : Hp} (b : Int32) : C_X11_isByte w sh b h (fun v h1 => h1 = h ∧ v = if b < 0 ∨ 255 < b then 0 else 1) := by
  refine K_X11_isByte ⟨fun c => ⟨rfl, by rw [if_pos (Or.inl c)]⟩, fun c => ⟨fun c2 => ⟨rfl, by rw [if_pos (Or.inr c2)]⟩, fun c2 => ⟨rfl, by rw [if_neg (by simp [c, c2])]⟩⟩⟩
theorem X_feed {w : Wd} {h : Hp} {s : St} (X : XS h s) (v : Int64) (n : Int32) : C_X11_feed w SH 1 v n h (fun r h1 => r = (feedF s.1 v n).1 ∧ XS h1 ((feedF s.1 v n).2, s.2) ∧ Ag XCells h h1) := by
  obtain ⟨ra, e, b1, b2, R⟩ := X.get
  have hN := R.2.2.2.2.1
  refine K_X11_feed ⟨fun c => ?_, fun c => ⟨fun c2 => ?_, fun c2 => ?_⟩⟩
  · unfold feedF; rw [if_pos (Or.inl c)]; exact ⟨rfl, X, Ag.rf⟩
  · obtain ⟨j, hj, rfl⟩ := nI_of2 (M := 8) (n := 8) rfl c c2
    refine ⟨rfl, by rw [e]; exact R.1, _, by rw [e]; exact S_room R, fun v9 h8 hp => ?_⟩
    obtain ⟨rfl, rfl⟩ := hp
    unfold feedF
    rw [if_neg (by simp [c, c2]), nI_clamp (by omega)]
    refine ⟨fun c3 => ⟨fun c4 => ?_, fun c4 => ?_⟩, fun c3 => ?_⟩
    · rw [nI_leI (by omega) (by omega)] at c3
      rw [show (0 : Int32) = nI 0 from rfl, nI_eq (by omega) (by omega)] at c4
      rw [if_neg c4, if_neg (by omega)]
      refine ⟨rfl, by rw [e]; exact R.1, _, by rw [e]; exact S_pushLowest R v j hj, fun h6 hp => ?_⟩
      rw [pushAll_ok _ _ _ (by rw [lowL_len]; omega)] at hp
      obtain ⟨R6, F6⟩ := hp
      have e6 : h6.2.1 1 0 = ra := by rw [F6.1]; exact e
      refine ⟨by rw [e6]; exact R6.1, _, by rw [e6]; exact S_length R6, fun v12 h11 hp => ?_⟩
      obtain ⟨rfl, rfl⟩ := hp
      exact ⟨by simp [lowL_len], X.row e F6 R6, FrX F6 b2⟩
    · rw [show (0 : Int32) = nI 0 from rfl, nI_eq (by omega) (by omega)] at c4
      subst c4
      rw [if_pos rfl]
      refine ⟨by rw [e]; exact R.1, _, by rw [e]; exact S_clear R, fun h16 hp => ?_⟩
      obtain ⟨R1, F1⟩ := hp
      have e1 : h16.2.1 1 0 = ra := by rw [F1.1]; exact e
      refine ⟨rfl, by rw [e1]; exact R1.1, _, by rw [e1]; exact S_pushLowest R1 v 0 (by omega), fun h6 hp => ?_⟩
      obtain ⟨R6, F6⟩ := hp
      have e6 : h6.2.1 1 0 = ra := by rw [F6.1]; exact e1
      refine ⟨by rw [e6]; exact R6.1, _, by rw [e6]; exact S_length R6, fun v12 h11 hp => ?_⟩
      obtain ⟨rfl, rfl⟩ := hp
      have F : Fr [ra, ra + 1] h8 h11 := (F1.mono (by simp)).tr1 F6
      exact ⟨rfl, X.row e F R6, FrX F b2⟩
    · rw [nI_leI (by omega) (by omega)] at c3
      rw [if_neg (by omega), if_pos (by omega)]
      exact ⟨rfl, X, Ag.rf⟩
  · unfold feedF; rw [if_pos (Or.inr c2)]; exact ⟨rfl, X, Ag.rf⟩
/-- z becomes .. -/
def zN (z : Int32) : Int32 := z * 1664525 + 1013904223
def zB (z bits : Int32) : Nat := un ((((z.toUInt32 >>> ((24 : Int32).toUInt32 &&& Int32.toUInt32 31)).toInt32).toUInt32 >>> (bits.toUInt32 &&& Int32.toUInt32 31)).toInt32)
def fillL (bits : Int32) : Nat → Int32 → List Nat
  | 0, _ => []
  | n + 1, z => zB (zN z) bits :: fillL bits n (zN z)
theorem fillL_len (bits : Int32) : ∀ n z, (fillL bits n z).length = n
  | 0, _ => rfl
  | n + 1, z => by simp [fillL, fillL_len bits n]
def fillF (row : List Nat) (n seed bits : Int32) : Int32 × List Nat := if n < 0 ∨ bits < 0 ∨ ¬ bits ≤ 7 then (-2, row) else if 8000 < row.length + n.toNatClampNeg then (-4, row) else (nI (row.length + n.toNatClampNeg), row ++ fillL bits n.toNatClampNeg seed)
theorem X_fill {w : Wd} {h : Hp} {s : St} (X : XS h s) (n seed bits : Int32) : C_X11_fill w SH 1 n seed bits h (fun r h1 => r = (fillF s.1 n seed bits).1 ∧ XS h1 ((fillF s.1 n seed bits).2, s.2) ∧ Ag XCells h h1) := by
  obtain ⟨ra, e, b1, b2, R⟩ := X.get
  have hN := R.2.2.2.2.1
  refine K_X11_fill nlt_wf (fun m x0 x1 x3 x4 x5 h' => x0 = 1 ∧ x1 = n ∧ x3 = bits ∧ ∃ (i : Nat) (row' : List Nat), x5 = nI i ∧ i + m = n.toNatClampNeg ∧ n = nI (i + m) ∧ s.1.length + (i + m) ≤ 8000 ∧ ¬ (n < 0 ∨ bits < 0 ∨ ¬ bits ≤ 7) ∧ row'.length = s.1.length + i ∧ RowV SH h' ra (ra + 1) 8000 row' false ∧ Fr [ra, ra + 1] h h' ∧ row' ++ fillL bits m x4 = s.1 ++ fillL bits n.toNatClampNeg seed) ?_ ?_
  · refine ⟨fun c => ?_, fun c => ⟨fun c2 => ?_, fun c2 => ⟨fun c3 => ?_, fun c3 => ?_⟩⟩⟩
    · unfold fillF; rw [if_pos (Or.inl c)]; exact ⟨rfl, X, Ag.rf⟩
    · unfold fillF; rw [if_pos (Or.inr (Or.inl c2))]; exact ⟨rfl, X, Ag.rf⟩
    · refine ⟨rfl, by rw [e]; exact R.1, _, by rw [e]; exact S_room R, fun v10 h9 hp => ?_⟩
      obtain ⟨rfl, rfl⟩ := hp
      obtain ⟨j, hj, rfl⟩ := nI_of c
      refine ⟨fun c4 y12 e12 y14 e14 => ?_, fun c4 => ?_⟩
      · rw [nI_leI (by omega) (by omega)] at c4
        subst e12
        exact ⟨j, rfl, rfl, rfl, 0, s.1, e14, by rw [nI_clamp hj]; omega, by rw [Nat.zero_add], by omega, by simp [c, c2, c3], rfl, R, Fr.rf, by rw [nI_clamp hj]⟩
      · rw [nI_leI (by omega) (by omega)] at c4
        unfold fillF
        rw [if_neg (by simp [c, c2, c3]), nI_clamp hj, if_pos (by omega)]
        exact ⟨rfl, X, Ag.rf⟩
    · unfold fillF; rw [if_pos (Or.inr (Or.inr c3))]; exact ⟨rfl, X, Ag.rf⟩
  · rintro m x0 x1 x3 x4 x5 h' ⟨rfl, rfl, rfl, i, row', rfl, him, hn, hle, hok, hlen, R', F', heq⟩
    have e' : h'.2.1 1 0 = ra := by rw [F'.1]; exact e
    refine ⟨fun c => ⟨rfl, by rw [e']; exact R'.1, _, by rw [e']; exact S_length R', fun v8 h7 hp => ?_⟩, fun c y9 e9 => ⟨rfl, by rw [e']; exact R'.1, _, by rw [e']; exact S_push R' _, fun h16 hp y17 e17 => ?_⟩⟩
    · obtain ⟨rfl, rfl⟩ := hp
      rw [hn, nI_leI (by omega) (by omega)] at c
      have hm : m = 0 := by omega
      subst hm
      simp only [fillL, List.append_nil] at heq
      unfold fillF
      rw [if_neg hok, if_neg (by omega)]
      refine ⟨by rw [hlen]; congr 1; omega, ?_, FrX F' b2⟩
      have := X.row e F' R'
      rw [heq] at this
      exact this
    · rw [hn, nI_leI (by omega) (by omega)] at c
      cases m with
      | zero => omega
      | succ m =>
        have ep : pushL 8000 (row', false) (zB (zN x4) x3) = (row' ++ [zB (zN x4) x3], false) := by unfold pushL; rw [if_pos (by simp only; omega)]
        have ez : y9 = zN x4 := e9
        subst ez
        obtain ⟨R6, F6⟩ := hp
        have R6 : RowV SH h16 ra (ra + 1) 8000 (pushL 8000 (row', false) (zB (zN x4) x3)).1 (pushL 8000 (row', false) (zB (zN x4) x3)).2 := R6
        rw [ep] at R6
        refine ⟨m, by omega, rfl, rfl, rfl, i + 1, row' ++ [zB (zN x4) x3], by rw [e17, nI_1], by omega, by rw [hn]; congr 1; omega, by omega, hok, by simp; omega, R6, F'.tr1 F6, ?_⟩
        rw [← heq]
        simp [fillL]
