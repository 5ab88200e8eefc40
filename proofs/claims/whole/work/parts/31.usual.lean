/-! the usual table is laid; caches are wiped and fitted -/
def TabS (sh : List Sh) (h : Hp) (t r a : Nat) (T : List Nat) : Prop := shAt sh t = some (.inr 10) ∧ h.2.1 t 0 = r ∧ RowV sh h r a 1536 T false ∧ T.length = 1536 ∧ t ≠ r ∧ t ≠ a
theorem S_putS {w : Wd} {sh : List Sh} {h : Hp} {t r a : Nat} {T : List Nat} (V : TabS sh h t r a T) (i what : Nat) (hi : i < 256) (hw : what < 6) (x : Int32) : C_X10_put w sh t (nI i) (nI what) x h (fun h1 => TabS sh h1 t r a (T.set (cellT i what) (un x)) ∧ Fr [a] h h1) := by
  obtain ⟨q1, q2, q3, q4, q5, q6⟩ := V
  have hc := cellT_lt hi hw
  refine K_X10_put ⟨q1, _, S_cell i what hi hw, fun v6 h5 hp => ?_⟩
  obtain ⟨rfl, rfl⟩ := hp
  refine ⟨by rw [q2]; exact q3.1, _, by rw [q2]; exact S_put q3 _ (by omega) x, fun h11 hp => ?_⟩
  obtain ⟨R, F⟩ := hp
  exact ⟨⟨q1, by rw [F.1]; exact q2, R, by simpa using q4, q5, q6⟩, F⟩
theorem S_lay {w : Wd} {sh : List Sh} {h : Hp} {t r a : Nat} {T : List Nat} (V : TabS sh h t r a T) (i hf k s m : Nat) (hi : i < 256) (hh : hf = 0 ∨ hf = 3) (hk : k < 256) (hs : s < 256) (hm : m < 256) : C_X10_lay w sh t (nI i) (nI hf) (nI k) (nI s) (nI m) h (fun h1 => TabS sh h1 t r a (((T.set (cellT i hf) k).set (cellT i (hf + 1)) s).set (cellT i (hf + 2)) m) ∧ Fr [a] h h1) := by
  have a0 : nI hf + 0 = nI (hf + 0) := nI_add hf 0
  have a1 : nI hf + 1 = nI (hf + 1) := nI_add hf 1
  have a2 : nI hf + 2 = nI (hf + 2) := nI_add hf 2
  refine K_X10_lay ⟨V.1, _, by rw [a0]; exact S_putS V i (hf + 0) hi (by omega) (nI k), fun h5 hp => ?_⟩
  obtain ⟨V1, F1⟩ := hp
  refine ⟨_, by rw [a1]; exact S_putS V1 i (hf + 1) hi (by omega) (nI s), fun h9 hp => ?_⟩
  obtain ⟨V2, F2⟩ := hp
  refine ⟨_, by rw [a2]; exact S_putS V2 i (hf + 2) hi (by omega) (nI m), fun h13 hp => ?_⟩
  obtain ⟨V3, F3⟩ := hp
  rw [un_nI hk, un_nI hs, un_nI hm] at V3
  exact ⟨V3, (F1.tr1 F2).tr1 F3⟩
/-- the codes below c are laid, the others are 0 -/
def upTo (c : Nat) : List Nat := (List.range 1536).map fun k => if k % 256 < c then uAt k else 0
theorem upTo_len (c : Nat) : (upTo c).length = 1536 := by simp [upTo]
theorem upTo_get {c k : Nat} (hk : k < (upTo c).length) : (upTo c)[k] = if k % 256 < c then uAt k else 0 := by simp only [upTo, List.getElem_map, List.getElem_range]
theorem upTo_0 : upTo 0 = List.replicate 1536 0 := by
  apply List.ext_getElem
  · rw [upTo_len, List.length_replicate]
  · intro i h1 h2
    rw [List.getElem_replicate]
    simp only [upTo, List.getElem_map, List.getElem_range]
    rw [if_neg (by omega)]
theorem upTo_256 : upTo 256 = UBy := by
  rw [UBy_eq]
  unfold upTo
  apply List.map_congr_left
  intro k _
  rw [if_pos (Nat.mod_lt _ (by decide))]
theorem uAt_c {c : Nat} (hc : c < 256) : uAt (cellT c 0) = (uE c).1 ∧ uAt (cellT c 1) = (uE c).2.1 ∧ uAt (cellT c 2) = (uE c).2.2.1 ∧ uAt (cellT c 3) = (uE c).2.2.2.1 ∧ uAt (cellT c 4) = (uE c).2.2.2.2.1 ∧ uAt (cellT c 5) = (uE c).2.2.2.2.2 := by
  have e0 : cellT c 0 = 256 * 0 + c := by unfold cellT; omega
  have e1 : cellT c 1 = 256 * 2 + c := by unfold cellT; omega
  have e2 : cellT c 2 = 256 * 4 + c := by unfold cellT; omega
  have e3 : cellT c 3 = 256 * 1 + c := by unfold cellT; omega
  have e4 : cellT c 4 = 256 * 3 + c := by unfold cellT; omega
  have e5 : cellT c 5 = 256 * 5 + c := by unfold cellT; omega
  have hd : ∀ j, (256 * j + c) / 256 = j := fun j => by omega
  have hm : ∀ j, (256 * j + c) % 256 = c := fun j => by omega
  unfold uAt
  rw [e0, e1, e2, e3, e4, e5, hd, hd, hd, hd, hd, hd, hm, hm, hm, hm, hm, hm]
  exact ⟨rfl, rfl, rfl, rfl, rfl, rfl⟩
theorem upTo_step {c : Nat} (hc : c < 256) (T : List Nat) (hl : T.length = 1536) (h0 : ∀ k (hk : k < T.length), k % 256 ≠ c → T[k] = (upTo c)[k]'(by rw [upTo_len]; omega)) (h1 : ∀ what, what < 6 → ∀ hk : cellT c what < T.length, T[cellT c what] = uAt (cellT c what)) : T = upTo (c + 1) := by
  apply List.ext_getElem
  · rw [hl, upTo_len]
  · intro k k1 k2
    have hu : (upTo (c + 1))[k] = if k % 256 < c + 1 then uAt k else 0 := by simp only [upTo, List.getElem_map, List.getElem_range]
    rw [hu]
    by_cases hkc : k % 256 = c
    · have hq : k / 256 < 6 := by omega
      have : ∃ what, what < 6 ∧ k = cellT c what := by
        have hq2 : k / 256 = 0 ∨ k / 256 = 1 ∨ k / 256 = 2 ∨ k / 256 = 3 ∨ k / 256 = 4 ∨ k / 256 = 5 := by omega
        rcases hq2 with q | q | q | q | q | q
        · exact ⟨0, by decide, by unfold cellT; omega⟩
        · exact ⟨3, by decide, by unfold cellT; omega⟩
        · exact ⟨1, by decide, by unfold cellT; omega⟩
        · exact ⟨4, by decide, by unfold cellT; omega⟩
        · exact ⟨2, by decide, by unfold cellT; omega⟩
        · exact ⟨5, by decide, by unfold cellT; omega⟩
      obtain ⟨what, hw, rfl⟩ := this
      rw [if_pos (by omega)]
      exact h1 what hw k1
    · rw [h0 k k1 hkc]
      have hu2 : (upTo c)[k]'(by rw [upTo_len]; omega) = if k % 256 < c then uAt k else 0 := by simp only [upTo, List.getElem_map, List.getElem_range]
      rw [hu2]
      by_cases q : k % 256 < c
      · rw [if_pos q, if_pos (by omega)]
      · rw [if_neg q, if_neg (by omega)]
theorem cellT_mod {c what : Nat} (hc : c < 256) : cellT c what % 256 = c := by unfold cellT; omega
theorem upTo_single {c : Nat} (hc : c < 256) (h3 : (uE c).2.2.2 = (0, 0, 0)) : (((upTo c).set (cellT c 0) (uE c).1).set (cellT c (0 + 1)) (uE c).2.1).set (cellT c (0 + 2)) (uE c).2.2.1 = upTo (c + 1) := by
  obtain ⟨u0, u1, u2, u3, u4, u5⟩ := uAt_c hc
  refine upTo_step hc _ (by simp [upTo_len]) (fun k hk hkc => ?_) (fun what hw hk => ?_)
  · rw [List.getElem_set_ne (fun e => hkc (by rw [← e]; exact cellT_mod hc)), List.getElem_set_ne (fun e => hkc (by rw [← e]; exact cellT_mod hc)), List.getElem_set_ne (fun e => hkc (by rw [← e]; exact cellT_mod hc))]
  · have ne : ∀ a b, a < 6 → b < 6 → a ≠ b → cellT c a ≠ cellT c b := fun a b ha hb hab e => hab (cellT_inj hc ha hc hb e).2
    have z : ∀ what, what < 6 → ∀ hk : cellT c what < (upTo c).length, (upTo c)[cellT c what] = 0 := fun what hw hk => by
      rw [upTo_get hk, cellT_mod hc, if_neg (by omega)]
    have h3a : (uE c).2.2.2.1 = 0 := by rw [h3]
    have h3b : (uE c).2.2.2.2.1 = 0 := by rw [h3]
    have h3c : (uE c).2.2.2.2.2 = 0 := by rw [h3]
    have hw6 : what = 0 ∨ what = 1 ∨ what = 2 ∨ what = 3 ∨ what = 4 ∨ what = 5 := by omega
    rcases hw6 with rfl | rfl | rfl | rfl | rfl | rfl
    · rw [List.getElem_set_ne (ne _ _ (by decide) (by decide) (by decide)), List.getElem_set_ne (ne _ _ (by decide) (by decide) (by decide)), List.getElem_set_self, u0]
    · rw [List.getElem_set_ne (ne _ _ (by decide) (by decide) (by decide)), List.getElem_set_self, u1]
    · rw [List.getElem_set_self, u2]
    · rw [List.getElem_set_ne (ne _ _ (by decide) (by decide) (by decide)), List.getElem_set_ne (ne _ _ (by decide) (by decide) (by decide)), List.getElem_set_ne (ne _ _ (by decide) (by decide) (by decide)), z 3 (by decide), u3, h3a]
    · rw [List.getElem_set_ne (ne _ _ (by decide) (by decide) (by decide)), List.getElem_set_ne (ne _ _ (by decide) (by decide) (by decide)), List.getElem_set_ne (ne _ _ (by decide) (by decide) (by decide)), z 4 (by decide), u4, h3b]
    · rw [List.getElem_set_ne (ne _ _ (by decide) (by decide) (by decide)), List.getElem_set_ne (ne _ _ (by decide) (by decide) (by decide)), List.getElem_set_ne (ne _ _ (by decide) (by decide) (by decide)), z 5 (by decide), u5, h3c]
theorem upTo_pair {c : Nat} (hc : c < 256) : (((((((upTo c).set (cellT c 0) (uE c).1).set (cellT c (0 + 1)) (uE c).2.1).set (cellT c (0 + 2)) (uE c).2.2.1)).set (cellT c 3) (uE c).2.2.2.1).set (cellT c (3 + 1)) (uE c).2.2.2.2.1).set (cellT c (3 + 2)) (uE c).2.2.2.2.2 = upTo (c + 1) := by
  obtain ⟨u0, u1, u2, u3, u4, u5⟩ := uAt_c hc
  have nm : ∀ {k what : Nat}, k % 256 ≠ c → cellT c what ≠ k := fun hk e => hk (by rw [← e]; exact cellT_mod hc)
  refine upTo_step hc _ (by simp [upTo_len]) (fun k hk hkc => ?_) (fun what hw hk => ?_)
  · rw [List.getElem_set_ne (nm hkc), List.getElem_set_ne (nm hkc), List.getElem_set_ne (nm hkc), List.getElem_set_ne (nm hkc), List.getElem_set_ne (nm hkc), List.getElem_set_ne (nm hkc)]
  · have ne : ∀ a b, a < 6 → b < 6 → a ≠ b → cellT c a ≠ cellT c b := fun a b ha hb hab e => hab (cellT_inj hc ha hc hb e).2
    have hw6 : what = 0 ∨ what = 1 ∨ what = 2 ∨ what = 3 ∨ what = 4 ∨ what = 5 := by omega
    rcases hw6 with rfl | rfl | rfl | rfl | rfl | rfl
    · rw [List.getElem_set_ne (ne _ _ (by decide) (by decide) (by decide)), List.getElem_set_ne (ne _ _ (by decide) (by decide) (by decide)), List.getElem_set_ne (ne _ _ (by decide) (by decide) (by decide)), List.getElem_set_ne (ne _ _ (by decide) (by decide) (by decide)), List.getElem_set_ne (ne _ _ (by decide) (by decide) (by decide)), List.getElem_set_self, u0]
    · rw [List.getElem_set_ne (ne _ _ (by decide) (by decide) (by decide)), List.getElem_set_ne (ne _ _ (by decide) (by decide) (by decide)), List.getElem_set_ne (ne _ _ (by decide) (by decide) (by decide)), List.getElem_set_ne (ne _ _ (by decide) (by decide) (by decide)), List.getElem_set_self, u1]
    · rw [List.getElem_set_ne (ne _ _ (by decide) (by decide) (by decide)), List.getElem_set_ne (ne _ _ (by decide) (by decide) (by decide)), List.getElem_set_ne (ne _ _ (by decide) (by decide) (by decide)), List.getElem_set_self, u2]
    · rw [List.getElem_set_ne (ne _ _ (by decide) (by decide) (by decide)), List.getElem_set_ne (ne _ _ (by decide) (by decide) (by decide)), List.getElem_set_self, u3]
    · rw [List.getElem_set_ne (ne _ _ (by decide) (by decide) (by decide)), List.getElem_set_self, u4]
    · rw [List.getElem_set_self, u5]
theorem uE_ok : ∀ c, c < 256 → (uE c).1 < 256 ∧ (uE c).2.1 < 256 ∧ (uE c).2.2.1 < 256 ∧ (uE c).2.2.2.1 < 256 ∧ (uE c).2.2.2.2.1 < 256 ∧ (uE c).2.2.2.2.2 < 256 := by decide +kernel
/-- one code of one instruction -/
theorem lay1 {w : Wd} {sh : List Sh} {h : Hp} {t r a c : Nat} (V : TabS sh h t r a (upTo c)) (hc : c < 256) (k s m : Nat) (e : uE c = (k, s, m, 0, 0, 0)) : C_X10_lay w sh t (nI c) 0 (nI k) (nI s) (nI m) h (fun h1 => TabS sh h1 t r a (upTo (c + 1)) ∧ Fr [a] h h1) := by
  have ok := uE_ok c hc
  have h1 := S_lay (w := w) V c 0 k s m hc (Or.inl rfl) (by rw [e] at ok; exact ok.1) (by rw [e] at ok; exact ok.2.1) (by rw [e] at ok; exact ok.2.2.1)
  have h2 := upTo_single hc (by rw [e])
  rw [e] at h2
  rw [h2] at h1
  exact h1
theorem S_laySingles {w : Wd} {sh : List Sh} {h : Hp} {t r a : Nat} (V : TabS sh h t r a (upTo 0)) : C_X10_laySingles w sh t h (fun v h1 => v = nI 163 ∧ TabS sh h1 t r a (upTo 163) ∧ Fr [a] h h1) := by
  refine K_X10_laySingles nlt_wf (fun m x0 x1 x2 h' => x0 = t ∧ ∃ z, z ≤ 18 ∧ m = 2002 - 4 * (z + 1) ∧ x1 = nI (z + 1) ∧ x2 = nI z ∧ TabS sh h' t r a (upTo (z + 1)) ∧ Fr [a] h h') (fun m x0 x1 x2 h' => x0 = t ∧ ∃ z, z ≤ 9 ∧ m = 2000 - 4 * (19 + 16 * z) ∧ x1 = nI (19 + 16 * z) ∧ x2 = nI z ∧ TabS sh h' t r a (upTo (19 + 16 * z)) ∧ Fr [a] h h') (fun m x0 x1 x2 x3 h' => x0 = t ∧ ∃ z y, z ≤ 8 ∧ 4 ≤ y ∧ y ≤ 19 ∧ m = 2001 - 4 * (16 + 16 * z + y) ∧ x1 = nI (16 + 16 * z + y) ∧ x2 = nI z ∧ x3 = nI y ∧ TabS sh h' t r a (upTo (16 + 16 * z + y)) ∧ Fr [a] h h') ?_ ?_ ?_ ?_
  · refine ⟨V.1, _, lay1 V (by decide) 2 0 0 rfl, fun h5 hp y6 e6 y8 e8 => ?_⟩
    exact ⟨_, rfl, 0, by omega, rfl, e6, e8, hp.1, hp.2⟩
  · rintro m x0 x1 x2 h' ⟨rfl, z, hz, rfl, rfl, rfl, V', F⟩
    unfold V_X10_laySingles_13
    rw [show (17 : Int32) = nI 17 from rfl, nI_ltI (by decide) (by omega)]
    refine ⟨fun c y2 e2 => ⟨_, ?_, rfl, 0, by omega, rfl, ?_, e2, ?_, F⟩, fun c => ⟨V'.1, _, lay1 V' (by omega) 1 z 0 ?_, fun h8 hp y9 e9 y11 e11 => ⟨_, ?_, rfl, z + 1, by omega, rfl, by rw [e9, nI_1], by rw [e11, nI_1], hp.1, F.tr1 hp.2⟩⟩⟩
    · omega
    · have : z = 18 := by omega
      subst this; rfl
    · have : z = 18 := by omega
      subst this; exact V'
    · unfold uE; rw [if_neg (by omega), if_pos (by omega)]; simp
    · omega
  · rintro m x0 x1 x2 h' ⟨rfl, z, hz, rfl, rfl, rfl, V', F⟩
    unfold V_X10_laySingles_39
    rw [show (8 : Int32) = nI 8 from rfl, nI_ltI (by decide) (by omega)]
    refine ⟨fun c => ?_, fun c => ⟨V'.1, _, lay1 V' (by omega) 3 0 z ?_, fun h6 hp y7 e7 y9 e9 => ⟨_, ?_, rfl, z, 4, by omega, by omega, by omega, rfl, by rw [e7, nI_1]; congr 1; omega, rfl, e9, ?_, F.tr1 hp.2⟩⟩⟩
    · have : z = 9 := by omega
      subst this
      exact ⟨rfl, V', F⟩
    · unfold uE; rw [if_neg (by omega), if_neg (by omega), if_pos (by omega), if_pos (by omega)]; congr 3; omega
    · omega
    · have := hp.1
      rw [show 16 + 16 * z + 4 = 19 + 16 * z + 1 by omega]; exact this
  · rintro m x0 x1 x2 x3 h' ⟨rfl, z, y, hz, hy1, hy2, rfl, rfl, rfl, rfl, V', F⟩
    unfold V_X10_laySingles_59
    rw [show (18 : Int32) = nI 18 from rfl, nI_ltI (by decide) (by omega)]
    refine ⟨fun c y2 e2 => ⟨_, ?_, rfl, z + 1, by omega, rfl, ?_, by rw [e2, nI_1], ?_, F⟩, fun c => ⟨V'.1, _, lay1 V' (by omega) 3 y z ?_, fun h8 hp y9 e9 y11 e11 => ⟨_, ?_, rfl, z, y + 1, by omega, by omega, by omega, rfl, by rw [e9, nI_1]; rfl, rfl, by rw [e11, nI_1], hp.1, F.tr1 hp.2⟩⟩⟩
    · omega
    · congr 1; omega
    · rw [show 19 + 16 * (z + 1) = 16 + 16 * z + y by omega]; exact V'
    · unfold uE; rw [if_neg (by omega), if_neg (by omega), if_pos (by omega), if_neg (by omega)]
      have q1 : (16 + 16 * z + y - 19) % 16 + 3 = y := by omega
      have q2 : (16 + 16 * z + y - 19) / 16 = z := by omega
      rw [q1, q2]
    · omega
/-- where the codes of a MODE begin -/
def pB (z : Nat) : Nat := if z ≤ 6 then 163 + 12 * z else 235 + 4 * (z - 6)
def pP (z : Nat) : Nat := if z ≤ 5 then 3 else 1
theorem uE_pair {z d y : Nat} (hz : z ≤ 8) (hd : 1 ≤ d) (hd4 : d ≤ 4) (hy : 4 ≤ y) (hyp : y ≤ pP z + 3) : uE (pB z + pP z * (d - 1) + (y - 4)) = (1, d, 0, 3, y, z) := by
  unfold pB pP at *
  by_cases h5 : z ≤ 5
  · rw [if_pos h5] at *
    rw [if_pos (by omega)]
    unfold uE
    rw [if_neg (by omega), if_neg (by omega), if_neg (by omega), if_pos (by omega)]
    have q1 : (163 + 12 * z + 3 * (d - 1) + (y - 4) - 163) % 12 / 3 + 1 = d := by omega
    have q2 : (163 + 12 * z + 3 * (d - 1) + (y - 4) - 163) % 3 + 4 = y := by omega
    have q3 : (163 + 12 * z + 3 * (d - 1) + (y - 4) - 163) / 12 = z := by omega
    rw [q1, q2, q3]
  · rw [if_neg h5] at *
    have hy4 : y = 4 := by omega
    subst hy4
    have e : (if z ≤ 6 then 163 + 12 * z else 235 + 4 * (z - 6)) = 235 + 4 * (z - 6) := by split <;> omega
    rw [e]
    unfold uE
    rw [if_neg (by omega), if_neg (by omega), if_neg (by omega), if_neg (by omega), if_pos (by omega)]
    have q1 : (235 + 4 * (z - 6) + 1 * (d - 1) + (4 - 4) - 235) % 4 + 1 = d := by omega
    have q3 : 6 + (235 + 4 * (z - 6) + 1 * (d - 1) + (4 - 4) - 235) / 4 = z := by omega
    rw [q1, q3]
theorem pB_next {z : Nat} (hz : z ≤ 8) : pB (z + 1) = pB z + 4 * pP z := by unfold pB pP; split <;> split <;> split <;> omega
theorem pB_le {z : Nat} (hz : z ≤ 9) : pB z ≤ 247 := by unfold pB; split <;> omega
theorem pP_b (z : Nat) : 1 ≤ pP z ∧ pP z ≤ 3 := by unfold pP; split <;> omega
theorem S_layPairs {w : Wd} {sh : List Sh} {h : Hp} {t r a : Nat} (V : TabS sh h t r a (upTo 163)) : C_X10_layPairs w sh t (nI 163) h (fun h1 => TabS sh h1 t r a UBy ∧ Fr [a] h h1) := by
  refine K_X10_layPairs nlt_wf
    (fun m x0 x2 x3 h' => x0 = t ∧ ∃ z, z ≤ 9 ∧ m = 16 * (256 - pB z) + 6 ∧ x2 = nI (pB z) ∧ x3 = nI z ∧ TabS sh h' t r a (upTo (pB z)) ∧ Fr [a] h h')
    (fun m x0 x2 x3 x4 x5 h' => x0 = t ∧ ∃ z d c, z ≤ 8 ∧ 1 ≤ d ∧ d ≤ 5 ∧ c = pB z + pP z * (d - 1) ∧ c ≤ 247 ∧ m = 16 * (256 - c) + (if d = 1 then 4 else 8) ∧ x2 = nI c ∧ x3 = nI z ∧ x4 = nI (pP z + 3) ∧ x5 = nI d ∧ TabS sh h' t r a (upTo c) ∧ Fr [a] h h')
    (fun m x0 x2 x3 x4 x5 x6 h' => x0 = t ∧ ∃ z d y c, z ≤ 8 ∧ 1 ≤ d ∧ d ≤ 4 ∧ 4 ≤ y ∧ y ≤ pP z + 4 ∧ c = pB z + pP z * (d - 1) + (y - 4) ∧ c ≤ 247 ∧ m = 16 * (256 - c) + (if y = pP z + 4 then 10 else 2) ∧ x2 = nI c ∧ x3 = nI z ∧ x4 = nI (pP z + 3) ∧ x5 = nI d ∧ x6 = nI y ∧ TabS sh h' t r a (upTo c) ∧ Fr [a] h h')
    (fun m x0 x2 x3 h' => x0 = t ∧ ∃ z, z ≤ 9 ∧ m = 9 - z ∧ x2 = nI (247 + z) ∧ x3 = nI z ∧ TabS sh h' t r a (upTo (247 + z)) ∧ Fr [a] h h') ?_ ?_ ?_ ?_ ?_
  · intro y1 e1 y3 e3
    exact ⟨_, rfl, 0, by omega, rfl, e1, e3, V, Fr.rf⟩
  · rintro m x0 x2 x3 h' ⟨rfl, z, hz, rfl, rfl, rfl, V', F⟩
    have hb := pB_le hz
    unfold V_X10_layPairs_4 V_X10_layPairs_21
    rw [show (8 : Int32) = nI 8 from rfl, nI_ltI (by decide) (by omega), show (5 : Int32) = nI 5 from rfl, nI_ltI (by decide) (by omega)]
    refine ⟨fun q y2 e2 => ?_, fun q => ⟨fun q2 y1 e1 y3 e3 => ?_, fun q2 y1 e1 y3 e3 => ?_⟩⟩
    · have hz9 : z = 9 := by omega
      subst hz9
      exact ⟨9, by show 9 < 16 * (256 - 247) + 6; omega, rfl, 0, by omega, rfl, rfl, e2, V', F⟩
    · refine ⟨16 * (256 - pB z) + 4, by omega, rfl, z, 1, pB z, by omega, by omega, by omega, by omega, by omega, by rw [if_pos rfl], rfl, rfl, ?_, e3, V', F⟩
      rw [e1]; unfold pP; rw [if_neg (by omega)]; rfl
    · refine ⟨16 * (256 - pB z) + 4, by omega, rfl, z, 1, pB z, by omega, by omega, by omega, by omega, by omega, by rw [if_pos rfl], rfl, rfl, ?_, e3, V', F⟩
      rw [e1]; unfold pP; rw [if_pos (by omega)]; rfl
  · rintro m x0 x2 x3 x4 x5 h' ⟨rfl, z, d, c, hz, hd1, hd5, hc, hc2, rfl, rfl, rfl, rfl, rfl, V', F⟩
    have hp := pP_b z
    unfold V_X10_layPairs_26
    rw [show (4 : Int32) = nI 4 from rfl, nI_ltI (by decide) (by omega)]
    refine ⟨fun q y2 e2 => ?_, fun q y4 e4 => ?_⟩
    · have hd : d = 5 := by omega
      subst hd
      have hcz : c = pB (z + 1) := by rw [hc, pB_next hz]; omega
      subst hcz
      exact ⟨16 * (256 - pB (z + 1)) + 6, by rw [if_neg (by omega)]; omega, rfl, z + 1, by omega, rfl, rfl, by rw [e2, nI_1], V', F⟩
    · refine ⟨16 * (256 - c) + 2, ?_, rfl, z, d, 4, c, hz, hd1, by omega, by omega, by omega, by rw [hc]; omega, hc2, by rw [if_neg (by omega)], rfl, rfl, rfl, rfl, e4, V', F⟩
      split <;> omega
  · rintro m x0 x2 x3 x4 x5 x6 h' ⟨rfl, z, d, y, c, hz, hd1, hd4, hy4, hyp, hc, hc2, rfl, rfl, rfl, rfl, rfl, rfl, V', F⟩
    have hp := pP_b z
    unfold V_X10_layPairs_35
    rw [nI_ltI (by omega) (by omega)]
    refine ⟨fun q y2 e2 => ?_, fun q => ?_⟩
    · have hy : y = pP z + 4 := by omega
      refine ⟨16 * (256 - c) + 8, by rw [if_pos hy]; omega, rfl, z, d + 1, c, hz, by omega, by omega, ?_, hc2, by rw [if_neg (by omega)], rfl, rfl, rfl, by rw [e2, nI_1], V', F⟩
      rw [hc, hy, show d + 1 - 1 = (d - 1) + 1 by omega, Nat.mul_add]
      omega
    · have hu := uE_pair hz hd1 hd4 hy4 (by omega)
      rw [← hc] at hu
      have hc256 : c < 256 := by omega
      have l1 := S_lay (w := w) V' c 0 1 d 0 hc256 (Or.inl rfl) (by omega) (by omega) (by omega)
      refine ⟨V'.1, _, l1, fun h8 hp8 => ?_⟩
      obtain ⟨V1, F1⟩ := hp8
      have l2 := S_lay (w := w) V1 c 3 3 y z hc256 (Or.inr rfl) (by omega) (by omega) (by omega)
      refine ⟨_, l2, fun h12 hp12 y13 e13 y15 e15 => ?_⟩
      obtain ⟨V2, F2⟩ := hp12
      have h3 := upTo_pair hc256
      rw [hu] at h3
      rw [h3] at V2
      have hc3 : c + 1 ≤ 247 := by
        have := pB_next hz
        have := pB_le (z := z + 1) (by omega)
        have hm : pP z * (d - 1) + pP z ≤ 4 * pP z := by
          have : pP z * (d - 1) ≤ pP z * 3 := Nat.mul_le_mul_left _ (by omega)
          omega
        omega
      refine ⟨16 * (256 - (c + 1)) + (if y + 1 = pP z + 4 then 10 else 2), ?_, rfl, z, d, y + 1, c + 1, hz, hd1, hd4, by omega, by omega, by rw [hc]; omega, hc3, rfl, by rw [e13, nI_1], rfl, rfl, rfl, by rw [e15, nI_1], V2, (F.tr1 F1).tr1 F2⟩
      split <;> split <;> omega
  · rintro m x0 x2 x3 h' ⟨rfl, z, hz, rfl, rfl, rfl, V', F⟩
    unfold V_X10_layPairs_85
    rw [show (8 : Int32) = nI 8 from rfl, nI_ltI (by decide) (by omega)]
    refine ⟨fun q => ?_, fun q => ?_⟩
    · have hz9 : z = 9 := by omega
      subst hz9
      rw [show 247 + 9 = 256 from rfl, upTo_256] at V'
      exact ⟨V', F⟩
    · have hu : uE (247 + z) = (3, 4, z, 1, 1, 0) := by
        unfold uE
        rw [if_neg (by omega), if_neg (by omega), if_neg (by omega), if_neg (by omega), if_neg (by omega), show 247 + z - 247 = z by omega]
      have hc256 : 247 + z < 256 := by omega
      have l1 := S_lay (w := w) V' (247 + z) 0 3 4 z hc256 (Or.inl rfl) (by omega) (by omega) (by omega)
      refine ⟨V'.1, _, l1, fun h8 hp8 => ?_⟩
      obtain ⟨V1, F1⟩ := hp8
      have l2 := S_lay (w := w) V1 (247 + z) 3 1 1 0 hc256 (Or.inr rfl) (by omega) (by omega) (by omega)
      refine ⟨_, l2, fun h12 hp12 y13 e13 y15 e15 => ?_⟩
      obtain ⟨V2, F2⟩ := hp12
      have h3 := upTo_pair hc256
      rw [hu] at h3
      rw [h3] at V2
      exact ⟨9 - (z + 1), by omega, rfl, z + 1, by omega, rfl, by rw [e13, nI_1]; rfl, by rw [e15, nI_1], V2, (F.tr1 F1).tr1 F2⟩
theorem S_becomeUsual {w : Wd} {sh : List Sh} {h : Hp} {t r a : Nat} {bs : List Nat} {lo : Bool} (ht : shAt sh t = some (.inr 10)) (hr : h.2.1 t 0 = r) (R : RowV sh h r a 1536 bs lo) (htr : t ≠ r) (hta : t ≠ a) : C_X10_becomeUsual w sh t h (fun h1 => TabS sh h1 t r a UBy ∧ Fr [t, r, a] h h1 ∧ h1.1 t 1 = nI 4 ∧ h1.1 t 2 = nI 3) := by
  have F0 : Fr [t] h (wI (wI h t 1 4) t 2 3) := (Fr.rf.put (by simp)).put (by simp)
  have R0 := R.fr F0 (by simpa using Ne.symm htr) (by simpa using Ne.symm hta)
  refine K_X10_becomeUsual nlt_wf (fun m x0 x1 h' => x0 = t ∧ ∃ i, i + m = 1536 ∧ x1 = nI i ∧ RowV sh h' r a 1536 (List.replicate i 0) false ∧ Fr [t, r, a] h h' ∧ h'.2.1 t 0 = r ∧ h'.1 t 1 = nI 4 ∧ h'.1 t 2 = nI 3) ?_ ?_
  · refine ⟨ht, fun h2 e2 h4 e4 => ?_⟩
    subst e2; subst e4
    refine ⟨by rw [hr]; exact R.1, _, by rw [hr]; exact S_clear R0, fun h10 hp y11 e11 => ?_⟩
    obtain ⟨R1, F1⟩ := hp
    have F : Fr [t, r, a] h h10 := (F0.mono (by simp)).tr1 (F1.mono (by simp))
    refine ⟨1536, rfl, 0, by omega, e11, R1, F, by rw [F.1]; exact hr, ?_, ?_⟩
    · rw [F1.2.2 t (by simpa using htr), wI_idx (by decide), wI_same]; rfl
    · rw [F1.2.2 t (by simpa using htr), wI_same]; rfl
  · rintro m x0 x1 h' ⟨rfl, i, him, rfl, R', F, hr', n1, n2⟩
    unfold V_X10_becomeUsual_19
    rw [show (1536 : Int32) = nI 1536 from rfl, nI_leI (by decide) (by omega)]
    refine ⟨fun c => ?_, fun c => ⟨ht, by rw [hr']; exact R'.1, _, by rw [hr']; exact S_push R' 0, fun h17 hp y18 e18 => ?_⟩⟩
    · have hi : i = 1536 := by omega
      subst hi
      rw [← upTo_0] at R'
      have V0 : TabS sh h' x0 r a (upTo 0) := ⟨ht, hr', R', upTo_len 0, htr, hta⟩
      refine ⟨ht, _, S_laySingles V0, fun v7 h6 hp => ?_⟩
      obtain ⟨rfl, V1, F1⟩ := hp
      refine ⟨_, S_layPairs V1, fun h11 hp => ?_⟩
      obtain ⟨V2, F2⟩ := hp
      have F3 := F1.tr1 F2
      exact ⟨V2, F.tr1 (F3.mono (by simp)), by rw [F3.2.2 x0 (by simpa using hta)]; exact n1, by rw [F3.2.2 x0 (by simpa using hta)]; exact n2⟩
    · obtain ⟨R1, F1⟩ := hp
      have ep : pushL 1536 (List.replicate i 0, false) (un 0) = (List.replicate (i + 1) 0, false) := by
        unfold pushL
        rw [if_pos (by simp; omega), List.replicate_succ']
        rfl
      rw [ep] at R1
      refine ⟨m - 1, by omega, rfl, i + 1, by omega, by rw [e18, nI_1], R1, F.tr1 (F1.mono (by simp)), by rw [F1.1]; exact hr', ?_, ?_⟩
      · rw [F1.2.2 x0 (by simp [htr, hta])]; exact n1
      · rw [F1.2.2 x0 (by simp [htr, hta])]; exact n2
