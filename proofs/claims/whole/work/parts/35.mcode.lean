/-! the reference's constructor -/
def uW (c what : Nat) : Nat := match what with
  | 0 => (uE c).1
  | 1 => (uE c).2.1
  | 2 => (uE c).2.2.1
  | 3 => (uE c).2.2.2.1
  | 4 => (uE c).2.2.2.2.1
  | _ => (uE c).2.2.2.2.2
/-- the entries of the codes below c are the usual ones -/
def EntU (h : Hp) (c : Nat) : Prop := ∀ what i, what < 6 → i < c → h.1 101 (256 * what + i) = nI (uW i what)
theorem six {what : Nat} (h : what < 6) : what = 0 ∨ what = 1 ∨ what = 2 ∨ what = 3 ∨ what = 4 ∨ what = 5 := by omega
theorem UBy_get {i what : Nat} (hi : i < 256) (hw : what < 6) : UBy.getD (cellT i what) 0 = uW i what := by
  have hc := cellT_lt hi hw
  have h1 : UBy.getD (cellT i what) 0 = uAt (cellT i what) := by
    rw [UBy_eq, List.getD_eq_getElem?_getD, List.getElem?_map, List.getElem?_range hc]; rfl
  obtain ⟨u0, u1, u2, u3, u4, u5⟩ := uAt_c hi
  rw [h1]
  rcases six hw with rfl | rfl | rfl | rfl | rfl | rfl
  · exact u0
  · exact u1
  · exact u2
  · exact u3
  · exact u4
  · exact u5
theorem UBy_lt : ∀ b ∈ UBy, b < 256 := by
  intro b hb
  rw [UBy_eq] at hb
  obtain ⟨k, hk, rfl⟩ := List.mem_map.mp hb
  have h1 := uE_ok (k % 256) (Nat.mod_lt _ (by decide))
  unfold uAt
  split
  · exact h1.1
  · exact h1.2.2.2.1
  · exact h1.2.1
  · exact h1.2.2.2.2.1
  · exact h1.2.2.1
  · exact h1.2.2.2.2.2
theorem S_code {w : Wd} {h : Hp} {c : Nat} (f9 : h.2.1 97 9 = 101) (U : EntU h c) (hc : c < 256) (k s m k2 s2 m2 : Nat) (e : uE c = (k, s, m, k2, s2, m2)) : C_X12_code w SH 97 (nI c) (nI k) (nI s) (nI m) (nI k2) (nI s2) (nI m2) h (fun v h1 => v = nI (c + 1) ∧ EntU h1 (c + 1) ∧ Fr [101] h h1) := by
  have ad : ∀ q : Nat, q < 2000 → nI q + nI c = nI (q + c) := fun q _ => nI_add q c
  refine K_X12_code ⟨rfl, 6144, by rw [f9]; rfl, vp_in_nI (by omega) (by decide), fun h5 e5 => ⟨by rw [show (256 : Int32) = nI 256 from rfl, nI_add]; exact vp_in_nI (by omega) (by decide), fun h8 e8 => ⟨by rw [show (512 : Int32) = nI 512 from rfl, nI_add]; exact vp_in_nI (by omega) (by decide), fun h11 e11 => ⟨by rw [show (768 : Int32) = nI 768 from rfl, nI_add]; exact vp_in_nI (by omega) (by decide), fun h14 e14 => ⟨by rw [show (1024 : Int32) = nI 1024 from rfl, nI_add]; exact vp_in_nI (by omega) (by decide), fun h17 e17 => ⟨by rw [show (1280 : Int32) = nI 1280 from rfl, nI_add]; exact vp_in_nI (by omega) (by decide), fun h20 e20 => ?_⟩⟩⟩⟩⟩⟩
  rw [f9, nI_clamp (by omega)] at e5
  rw [f9, show (256 : Int32) = nI 256 from rfl, nI_add, nI_clamp (by omega)] at e8
  rw [f9, show (512 : Int32) = nI 512 from rfl, nI_add, nI_clamp (by omega)] at e11
  rw [f9, show (768 : Int32) = nI 768 from rfl, nI_add, nI_clamp (by omega)] at e14
  rw [f9, show (1024 : Int32) = nI 1024 from rfl, nI_add, nI_clamp (by omega)] at e17
  rw [f9, show (1280 : Int32) = nI 1280 from rfl, nI_add, nI_clamp (by omega)] at e20
  subst e5; subst e8; subst e11; subst e14; subst e17; subst e20
  refine ⟨nI_1 c, fun what i hw hi => ?_, ((((((Fr.rf.put (by simp)).put (by simp)).put (by simp)).put (by simp)).put (by simp)).put (by simp))⟩
  by_cases hic : i = c
  · subst hic
    rcases six hw with rfl | rfl | rfl | rfl | rfl | rfl
    · rw [wI_idx (by omega), wI_idx (by omega), wI_idx (by omega), wI_idx (by omega), wI_idx (by omega), show 256 * 0 + i = i by omega, wI_same]; simp [uW, e]
    · rw [wI_idx (by omega), wI_idx (by omega), wI_idx (by omega), wI_idx (by omega), show 256 * 1 + i = 256 + i by omega, wI_same]; simp [uW, e]
    · rw [wI_idx (by omega), wI_idx (by omega), wI_idx (by omega), show 256 * 2 + i = 512 + i by omega, wI_same]; simp [uW, e]
    · rw [wI_idx (by omega), wI_idx (by omega), show 256 * 3 + i = 768 + i by omega, wI_same]; simp [uW, e]
    · rw [wI_idx (by omega), show 256 * 4 + i = 1024 + i by omega, wI_same]; simp [uW, e]
    · rw [show 256 * 5 + i = 1280 + i by omega, wI_same]; simp [uW, e]
  · rw [wI_idx (by omega), wI_idx (by omega), wI_idx (by omega), wI_idx (by omega), wI_idx (by omega), wI_idx (by omega)]
    exact U what i hw (by omega)
theorem S_rowOf {w : Wd} {sh : List Sh} {h : Hp} (k : Nat) (hk : k < 6) : C_X12_rowOf w sh (nI k) h (fun v h1 => h1 = h ∧ v = nI (if k % 2 = 0 then k / 2 else 3 + k / 2)) := by
  have e : nI k - nI k / (2 : Int32) * (2 : Int32) = nI (k % 2) := pk_rem (d := 2) (by omega) (by decide) (by decide)
  have e2 : nI k / (2 : Int32) = nI (k / 2) := pk_div (d := 2) (by omega) (by decide) (by decide)
  refine K_X12_rowOf ?_
  unfold V_X12_rowOf_0
  rw [e, e2, show (0 : Int32) = nI 0 from rfl, nI_eq (by omega) (by decide)]
  refine ⟨fun c => ⟨rfl, by rw [if_neg c, show (3 : Int32) = nI 3 from rfl, nI_add]⟩, fun c => ⟨rfl, by rw [if_pos c]⟩⟩
theorem rowOf_cell {k i : Nat} (hk : k < 6) : cellT i (if k % 2 = 0 then k / 2 else 3 + k / 2) = 256 * k + i := by
  unfold cellT
  split <;> omega
theorem S_entryOf0 {w : Wd} {h : Hp} (k9 : h.2.1 97 9 = 101) {t : Nat} {T : Tb} (ht : t < 4) (V : EntV h t T) (i what : Nat) (hi : i < 256) (hw : what < 6) : C_X12_entryOf w SH 97 (nI t) (nI i) (nI what) h (fun v h1 => h1 = h ∧ v = nI (T.1.getD (cellT i what) 0)) := by
  have m1 : (1536 : Int32) * nI t + (256 : Int32) * nI what + nI i = nI (1536 * t + 256 * what + i) := by rw [show (1536 : Int32) = nI 1536 from rfl, show (256 : Int32) = nI 256 from rfl, pk_mul, pk_mul, nI_add, nI_add]
  refine K_X12_entryOf ⟨rfl, 6144, by rw [k9]; rfl, ?_, rfl, ?_⟩
  · rw [m1]; exact vp_in_nI (by omega) (by decide)
  · rw [m1, k9, nI_clamp (by omega)]; exact V.1 what i hw hi
/-- a table AS BYTES, into an array -/
theorem S_asBytes {w : Wd} {h : Hp} (f : h.2.1 97 9 = 101) {t a N : Nat} {T : Tb} (ht : t < 4) (V : EntV h t T) (hs : shAt SH a = some (.inl (0, N))) (hN : 1536 ≤ N) (hN2 : N < 2 ^ 31) (ha : a ≠ 101 ∧ a ≠ 102 ∧ a ≠ 103) : C_X12_asBytes w SH 97 (nI t) a h (fun h1 => ByV h1 a T.1 ∧ Fr [a] h h1) := by
  have hl := V.2.2.2.2.2.1
  have hb := V.2.2.2.2.2.2
  refine K_X12_asBytes nlt_wf (fun m x0 x1 x2 x3 h' => x0 = 97 ∧ x1 = nI t ∧ x2 = a ∧ ∃ k, k ≤ 6 ∧ m = 4 * (256 * (6 - k)) + 1 ∧ x3 = nI k ∧ (∀ j, j < 256 * k → un (h'.1 a j) = T.1.getD j 0) ∧ Fr [a] h h') (fun m x0 x1 x2 x3 x4 h' => x0 = 97 ∧ x1 = nI t ∧ x2 = a ∧ ∃ k i, k < 6 ∧ i ≤ 256 ∧ m = 4 * (256 * (6 - k) - i) + (if i = 0 then 0 else 2) ∧ x3 = nI k ∧ x4 = nI i ∧ (∀ j, j < 256 * k + i → un (h'.1 a j) = T.1.getD j 0) ∧ Fr [a] h h') ?_ ?_ ?_
  · intro y1 e1
    exact ⟨_, rfl, rfl, rfl, 0, by omega, rfl, e1, fun j hj => absurd hj (by omega), Fr.rf⟩
  · rintro m x0 x1 x2 x3 h' ⟨rfl, rfl, rfl, k, hk, rfl, rfl, hd, F⟩
    unfold V_X12_asBytes_2
    rw [show (6 : Int32) = nI 6 from rfl, nI_leI (by decide) (by omega)]
    refine ⟨fun c => ⟨fun j hj => ?_, F⟩, fun c y2 e2 => ?_⟩
    · rw [hd j (by omega), getD_at hj]
    · exact ⟨4 * (256 * (6 - k) - 0) + 0, by omega, rfl, rfl, rfl, k, 0, by omega, by omega, by rw [if_pos rfl], rfl, e2, hd, F⟩
  · rintro m x0 x1 x2 x3 x4 h' ⟨rfl, rfl, rfl, k, i, hk, hi, rfl, rfl, rfl, hd, F⟩
    have V' : EntV h' t T := V.of (fun q hq => by rw [F.2.2 101 (by simpa using Ne.symm ha.1)]) (by rw [F.2.2 102 (by simpa using Ne.symm ha.2.1)]) (by rw [F.2.2 103 (by simpa using Ne.symm ha.2.2)])
    unfold V_X12_asBytes_11
    rw [show (256 : Int32) = nI 256 from rfl, nI_leI (by decide) (by omega), pk_mul, nI_add]
    refine ⟨fun c y2 e2 => ?_, fun c => ⟨_, S_rowOf k hk, fun v8 h7 hp => ?_⟩⟩
    · have : i = 256 := by omega
      subst this
      exact ⟨4 * (256 * (6 - (k + 1))) + 1, by rw [if_neg (by omega)]; omega, rfl, rfl, rfl, k + 1, by omega, rfl, by rw [e2, nI_1], fun j hj => hd j (by omega), F⟩
    · obtain ⟨rfl, rfl⟩ := hp
      have hr : (if k % 2 = 0 then k / 2 else 3 + k / 2) < 6 := by split <;> omega
      have ent := S_entryOf0 (w := w) (by rw [F.1]; exact f) ht V' i _ (by omega) hr
      refine ⟨rfl, _, ent, fun v14 h13 hp => ?_⟩
      obtain ⟨rfl, rfl⟩ := hp
      rw [rowOf_cell hk]
      refine ⟨N, hs, vp_in_nI (by omega) hN2, fun h18 e18 y20 e20 => ?_⟩
      rw [nI_clamp (by omega)] at e18
      subst e18
      have hlt : 256 * k + i < T.1.length := by omega
      refine ⟨4 * (256 * (6 - k) - (i + 1)) + 2, ?_, rfl, rfl, rfl, k, i + 1, hk, by omega, by rw [if_neg (by omega)], rfl, by rw [e20, nI_1], fun j hj => ?_, F.put (by simp)⟩
      · split <;> omega
      · by_cases hji : j = 256 * k + i
        · subst hji
          rw [wI_same, un_b8, getD_at hlt, un_nI (hb _ (List.getElem_mem hlt))]
        · rw [wI_idx hji]; exact hd j (by omega)
