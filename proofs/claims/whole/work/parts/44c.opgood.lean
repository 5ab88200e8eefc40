/-! a table judged (class), the log cleared, head's marks (my own) -/
def gH (T : Tb) (c w : Nat) : Prop := (tE T c w = 0 ∧ tE T c (w + 1) = 0 ∧ tE T c (w + 2) = 0) ∨ ((tE T c w = 1 ∨ tE T c w = 2) ∧ tE T c (w + 2) = 0) ∨ (tE T c w = 3 ∧ tE T c (w + 2) < 2 + T.2.1 + T.2.2)
theorem GoodT_gH {T : Tb} : GoodT T ↔ ∀ c, c < 256 → gH T c 0 ∧ gH T c 3 := by
  constructor
  · exact fun g c hc => ⟨g c hc 0 (Or.inl rfl), g c hc 3 (Or.inr rfl)⟩
  · intro g c hc w hw
    rcases hw with rfl | rfl
    · exact (g c hc).1
    · exact (g c hc).2
theorem S_isGoodHalf {w : Wd} {h : Hp} {t r a : Nat} {T : Tb} (V : TabV h t r a T) (c hf : Nat) (hc : c < 256) (hh : hf = 0 ∨ hf = 3) : C_X10_isGoodHalf w SH t (nI c) (nI hf) h (fun v h1 => h1 = h ∧ (v = 0 ∨ v = 1) ∧ (v = 1 ↔ gH T c hf)) := by
  have bt := V.2.2.1.bys
  have hn := V.2.2.2.2.2.2
  refine K_X10_isGoodHalf ⟨V.1, _, by rw [show (2 : Int32) = nI 2 from rfl, nI_add]; exact S_get V c (hf + 2) hc (by omega), fun v6 h5 hp y7 e7 => ?_⟩
  obtain ⟨rfl, rfl⟩ := hp
  subst e7
  refine ⟨_, by rw [show (0 : Int32) = nI 0 from rfl, nI_add]; exact S_get V c (hf + 0) hc (by omega), fun v13 h12 hp => ?_⟩
  obtain ⟨rfl, rfl⟩ := hp
  have hg : gH T c hf ↔ (tE T c hf = 0 ∧ tE T c (hf + 1) = 0 ∧ tE T c (hf + 2) = 0) ∨ ((tE T c hf = 1 ∨ tE T c hf = 2) ∧ tE T c (hf + 2) = 0) ∨ (tE T c hf = 3 ∧ tE T c (hf + 2) < 2 + T.2.1 + T.2.2) := Iff.rfl
  have k0 : tE T c hf < 256 := getD_lt bt _
  have k1 : tE T c (hf + 1) < 256 := getD_lt bt _
  have k2 : tE T c (hf + 2) < 256 := getD_lt bt _
  rw [show T.1.getD (cellT c (hf + 0)) 0 = tE T c hf from rfl, show T.1.getD (cellT c (hf + 2)) 0 = tE T c (hf + 2) from rfl]
  have no : ∀ {p : Prop}, ¬ p → ((0 : Int32) = 0 ∨ (0 : Int32) = 1) ∧ ((0 : Int32) = 1 ↔ p) := fun q => ⟨Or.inl rfl, ⟨fun e => absurd e (by decide), fun e => absurd e q⟩⟩
  have yes : ∀ {p : Prop}, p → ((1 : Int32) = 0 ∨ (1 : Int32) = 1) ∧ ((1 : Int32) = 1 ↔ p) := fun q => ⟨Or.inr rfl, ⟨fun _ => q, fun _ => rfl⟩⟩
  refine ⟨fun q => ?_, fun q => ?_, fun q => ?_, fun q => ?_, fun q => ?_⟩
  · rw [nI_toInt (by omega)] at q
    exact ⟨rfl, no (by rw [hg]; omega)⟩
  · rw [nIz (by omega)] at q
    refine ⟨_, by rw [show (1 : Int32) = nI 1 from rfl, nI_add]; exact S_get V c (hf + 1) hc (by omega), fun v22 h21 hp => ?_⟩
    obtain ⟨rfl, rfl⟩ := hp
    rw [show T.1.getD (cellT c (hf + 1)) 0 = tE T c (hf + 1) from rfl, nIz (by omega), nIz (by omega)]
    exact ⟨fun q1 => ⟨rfl, no (by rw [hg]; omega)⟩, fun q1 => ⟨fun q2 => ⟨rfl, no (by rw [hg]; omega)⟩, fun q2 => ⟨rfl, yes (by rw [hg]; omega)⟩⟩⟩
  · rw [show (1 : Int32) = nI 1 from rfl, nI_eq (by omega) (by omega)] at q
    rw [nIz (by omega)]
    exact ⟨fun q2 => ⟨rfl, no (by rw [hg]; omega)⟩, fun q2 => ⟨rfl, yes (by rw [hg]; omega)⟩⟩
  · rw [show (2 : Int32) = nI 2 from rfl, nI_eq (by omega) (by omega)] at q
    rw [nIz (by omega)]
    exact ⟨fun q2 => ⟨rfl, no (by rw [hg]; omega)⟩, fun q2 => ⟨rfl, yes (by rw [hg]; omega)⟩⟩
  · rw [show (3 : Int32) = nI 3 from rfl, nI_eq (by omega) (by omega)] at q
    rw [V.2.2.2.2.1, V.2.2.2.2.2.1, show (2 : Int32) = nI 2 from rfl, nI_add, nI_add, nI_leI (by omega) (by omega)]
    exact ⟨fun q2 => ⟨rfl, no (by rw [hg]; omega)⟩, fun q2 => ⟨rfl, yes (by rw [hg]; omega)⟩⟩
theorem S_isGood {w : Wd} {h : Hp} {t r a : Nat} {T : Tb} (V : TabV h t r a T) : C_X10_isGood w SH t h (fun v h1 => h1 = h ∧ (v = 0 ∨ v = 1) ∧ (v = 1 ↔ GoodT T)) := by
  refine K_X10_isGood nlt_wf (fun m x0 x1 h' => x0 = t ∧ h' = h ∧ ∃ k, x1 = nI k ∧ k ≤ 256 ∧ m = 256 - k ∧ ∀ c, c < k → gH T c 0 ∧ gH T c 3) ?_ ?_
  · intro y1 e1
    exact ⟨256, rfl, rfl, 0, e1, by omega, rfl, fun c hc => absurd hc (by omega)⟩
  · rintro m x0 x1 h' ⟨rfl, rfl, k, rfl, hk, rfl, g⟩
    have bad : ¬ (∀ c, c < 256 → gH T c 0 ∧ gH T c 3) → h' = h' ∧ ((0 : Int32) = 0 ∨ (0 : Int32) = 1) ∧ ((0 : Int32) = 1 ↔ GoodT T) := fun q => ⟨rfl, Or.inl rfl, ⟨fun e => absurd e (by decide), fun e => absurd (GoodT_gH.mp e) q⟩⟩
    rw [V_X10_isGood_2]
    rw [show (256 : Int32) = nI 256 from rfl, nI_leI (by omega) (by omega)]
    refine ⟨fun c7 => ⟨rfl, Or.inr rfl, ⟨fun _ => GoodT_gH.mpr fun c hc => g c (by omega), fun _ => rfl⟩⟩, fun c7 => ⟨V.1, _, S_isGoodHalf V k 0 (by omega) (Or.inl rfl), fun v7 h6 hp => ?_⟩⟩
    obtain ⟨rfl, e1, i1⟩ := hp
    refine ⟨fun c8 => bad fun q => ?_, fun c8 => ⟨_, S_isGoodHalf V k 3 (by omega) (Or.inr rfl), fun v13 h12 hp => ?_⟩⟩
    · have := i1.mpr (q k (by omega)).1
      rw [c8] at this
      exact absurd this (by decide)
    · obtain ⟨rfl, e2, i2⟩ := hp
      refine ⟨fun c9 y15 e15 => ?_, fun c9 => bad fun q => ?_⟩
      · refine ⟨256 - (k + 1), by omega, rfl, rfl, k + 1, by rw [e15, nI_1], by omega, rfl, fun c hc => ?_⟩
        by_cases ck : c < k
        · exact g c ck
        · have : c = k := by omega
          subst this
          exact ⟨i1.mp (e1.resolve_left c8), i2.mp (e2.resolve_left c9)⟩
      · have := i2.mpr (q k (by omega)).2
        rw [c9] at this
        exact absurd this (by decide)
theorem S_clearLog {w : Wd} {own : Bool} {h : Hp} {l lc ld : Nat} (C : LogC own h l lc ld) (hne : l ≠ lc) : C_X4_clear w SH l h (fun h1 => LogW own h1 l lc ld (fun _ => 0) [] ∧ Fr [l, lc] h h1) := by
  refine K_X4_clear ⟨C.1, _, by rw [C.2.1]; exact S_fill C.2.2.2.1 (by decide) 0, fun h5 hp h6 e6 => ?_⟩
  obtain ⟨Z, F⟩ := hp
  subst e6
  refine ⟨?_, (F.mono (by simp)).put (by simp)⟩
  unfold LogW
  split
  · refine ⟨fun j hj => ⟨?_, trivial⟩, ?_, by simp, fun i hi => absurd hi (by simp)⟩
    · rw [wI_cell (by omega)]; exact Z j hj
    · rw [wI_same]; rfl
  · rw [wI_same]
theorem sum4 {src : List Nat} (hb : ∀ b ∈ src, b < 256) (p : Nat) : sumGo src p 4 = 3603153920 ↔ (src.getD p 0 = 214 ∧ src.getD (p + 1) 0 = 195 ∧ src.getD (p + 2) 0 = 196 ∧ src.getD (p + 3) 0 = 0) := by
  have b0 := getD_lt hb p
  have b1 := getD_lt hb (p + 1)
  have b2 := getD_lt hb (p + 2)
  have b3 := getD_lt hb (p + 3)
  simp only [sumGo, Nat.add_zero]
  omega
theorem and2 : ∀ b : Nat, b < 8 → (nI b &&& (2 : Int32) = 0 ↔ ¬ (b % 4 = 2 ∨ b % 4 = 3)) := by decide
theorem apxP_ok {src : List Nat} {e p n q : Nat} (h : apxP src e p = .inr (n, q)) : p < q ∧ q ≤ e := by
  unfold apxP at h
  split at h
  · cases h
  rename_i n1 q1 h1
  have k1 := hbP_ok h1
  split at h
  · cases h
  injection h with h; injection h with a b
  omega
theorem GoodU : GoodT (UBy, 4, 3) := by
  have key : ∀ c, c < 256 → ∀ w, w = 0 ∨ w = 3 → ((uAt (cellT c w) = 0 ∧ uAt (cellT c (w + 1)) = 0 ∧ uAt (cellT c (w + 2)) = 0) ∨ ((uAt (cellT c w) = 1 ∨ uAt (cellT c w) = 2) ∧ uAt (cellT c (w + 2)) = 0) ∨ (uAt (cellT c w) = 3 ∧ uAt (cellT c (w + 2)) < 2 + 4 + 3)) := by
    have k2 : ∀ c, c < 256 → ((uAt (cellT c 0) = 0 ∧ uAt (cellT c (0 + 1)) = 0 ∧ uAt (cellT c (0 + 2)) = 0) ∨ ((uAt (cellT c 0) = 1 ∨ uAt (cellT c 0) = 2) ∧ uAt (cellT c (0 + 2)) = 0) ∨ (uAt (cellT c 0) = 3 ∧ uAt (cellT c (0 + 2)) < 2 + 4 + 3)) ∧ ((uAt (cellT c 3) = 0 ∧ uAt (cellT c (3 + 1)) = 0 ∧ uAt (cellT c (3 + 2)) = 0) ∨ ((uAt (cellT c 3) = 1 ∨ uAt (cellT c 3) = 2) ∧ uAt (cellT c (3 + 2)) = 0) ∨ (uAt (cellT c 3) = 3 ∧ uAt (cellT c (3 + 2)) < 2 + 4 + 3)) := by decide +kernel
    intro c hc w hw
    rcases hw with rfl | rfl
    · exact (k2 c hc).1
    · exact (k2 c hc).2
  have hu : ∀ k, k < 1536 → UBy.getD k 0 = uAt k := fun k hk => by
    rw [UBy_eq, List.getD_eq_getElem?_getD]
    simp [hk]
  have hc : ∀ c w, c < 256 → w < 6 → cellT c w < 1536 := by
    intro c w hc hw
    have : w = 0 ∨ w = 1 ∨ w = 2 ∨ w = 3 ∨ w = 4 ∨ w = 5 := by omega
    rcases this with rfl | rfl | rfl | rfl | rfl | rfl <;> simp [cellT] <;> omega
  intro c hcc w hw
  have := key c hcc w hw
  unfold tE
  simp only []
  rw [hu _ (hc c w hcc (by omega)), hu _ (hc c (w + 1) hcc (by omega)), hu _ (hc c (w + 2) hcc (by omega))]
  exact this
