/-! the reference: a given table, from its beginning (my own) -/
theorem M_givenT {w : Wd} {h : Hp} {e p : Nat} {src : List Nat} (X : MP h e src (UBy, 4, 3) (ost0 p fun _ => 0)) (B : ByV h 104 UBy) : C_X12_givenTable w SH 97 h (fun h1 => GtS e src p h1 ∧ MFr h h1) := by
  obtain ⟨x1, x2, x3, x4, x5, x6, x7, x8, x9, x10, x11, x12⟩ := id X
  have hls := x1.2.2.2.1
  have i14 : h.1 97 14 = nI p := x5.1
  have hpe : p ≤ e ∧ e ≤ src.length := x5.2
  have A : Fa h 0 0 := x12
  refine K_X12_givenTable nlt_wf (fun m x0 x3 x4 x5 h2 => ∃ n q hb, tabHP src e p = .inr (n, q) ∧ (q + n ≤ e ∧ e ≤ src.length) ∧ (EntV hb 1 (UBy, 4, 3) ∧ hb.1 102 3 = nI (src.getD q 0) ∧ hb.1 103 3 = nI (src.getD (q + 1) 0) ∧ MFr h hb) ∧ J7 h hb e src n q m x0 x3 x4 x5 h2) (fun m x0 x3 x4 x5 x7 x8 h2 => ∃ n q, tabHP src e p = .inr (n, q) ∧ (q + n ≤ e ∧ e ≤ src.length) ∧ J9 h e src n q m x0 x3 x4 x5 x7 x8 h2) ?_ ?_ ?_
  · refine ⟨rfl, _, M_headBig x1 A (fun _ => ⟨i14, x4.1, hpe.1, hpe.2⟩), fun v6 h5 hp y7 e7 y9 e9 => ?_⟩
    subst e7
    obtain ⟨-, hb, F5⟩ := hp
    have hb := hb rfl
    have hb : hbMs e (hbP src e p) y7 h5 := hb
    have M5 : MFr h h5 := F5.mf (by decide) (by decide) (by decide)
    cases hB : hbP src e p with
    | inl x =>
      obtain ⟨f, q⟩ := x
      rw [hB] at hb
      obtain ⟨rfl, A5, hf, q', hq, V⟩ := hb
      refine ⟨_, M_wantsF A5 hf _, fun v15 h14 hp => ?_⟩
      obtain ⟨rfl, e1⟩ := hp
      obtain rfl := e1.symm
      refine ⟨fun c => absurd rfl c, fun _ => ⟨?_, M5⟩⟩
      unfold GtS
      rw [show tabHP src e p = .inl (f, q) by simp only [tabHP, hB]]
      exact ⟨hf, q', X.hb F5 A5 V hq⟩
    | inr x =>
    obtain ⟨n, q⟩ := x
    rw [hB] at hb
    obtain ⟨rfl, A5, V⟩ := hb
    rw [V] at e9
    subst e9
    have hk := hbP_ok hB
    have j15 : h5.1 97 15 = nI e := by rw [F5.2.2.2 15 (by decide)]; exact x4.1
    refine ⟨_, M_wants A5 (fun _ => ⟨V, j15, by omega, by omega⟩) n (by omega), fun v15 h14 hp => ?_⟩
    obtain ⟨-, w1, F14⟩ := hp
    have w1 := w1 rfl
    by_cases g : e < q + n
    · rw [if_pos g] at w1
      obtain ⟨rfl, A14⟩ := w1
      have F14' : Fm [6, 7, 14, 36, 37] [] [] h h14 := F5.tr (F14.mono (by decide) (by decide) (by decide))
      refine ⟨fun c => absurd rfl c, fun _ => ⟨?_, F14'.mf (by decide) (by decide) (by decide)⟩⟩
      unfold GtS
      rw [show tabHP src e p = .inl (1, e) by simp only [tabHP, hB, if_pos g]]
      exact ⟨by decide, q, X.hb F14' A14 (by rw [F14.2.2.2 14 (by decide)]; exact V) (by omega)⟩
    rw [if_neg g] at w1
    obtain ⟨rfl, e5⟩ := w1
    obtain rfl := e5.symm
    refine ⟨fun _ y17 e17 y19 e19 => ?_, fun c => absurd c (by decide)⟩
    rw [V, lN_i, nI_add] at e17
    rw [j15] at e19
    subst e17; subst e19
    have S5 := x1.fm F5 (by decide)
    have f5 := S5.1
    have hz : tabHP src e p = (if n < 2 ∨ 32 < src.getD q 0 ∨ 16 < src.getD (q + 1) 0 then .inl (5, q) else .inr (n, q)) := by simp only [tabHP, hB, if_neg g]
    have bad : (n < 2 ∨ 32 < src.getD q 0 ∨ 16 < src.getD (q + 1) 0) → ∀ L207 L259, V_X12_givenTable_80 w SH 97 (nI q) h5 L207 L259 (fun h1 => GtS e src p h1 ∧ MFr h h1) := by
      intro hbad L207 L259
      refine ⟨rfl, _, M_fails A5 5 q (by decide), fun v6 h6 hp => ?_⟩
      obtain ⟨-, A6, F6⟩ := hp
      have F6' : Fm [6, 7, 14, 36, 37] [] [] h h6 := F5.tr (F6.mono (by decide) (by decide) (by decide))
      refine ⟨?_, F6'.mf (by decide) (by decide) (by decide)⟩
      unfold GtS
      rw [hz, if_pos hbad]
      exact ⟨by decide, q, X.hb F6' A6 (by rw [F6.2.2.2 14 (by decide)]; exact V) (by omega)⟩
    rw [show (2 : Int64) = lN 2 from rfl, lgLT (by omega) (by omega)]
    refine ⟨fun c => bad (Or.inl c) _ _, fun c2 => ?_⟩
    have b1 := getD_lt x1.2.2.2.2 q
    have b2 := getD_lt x1.2.2.2.2 (q + 1)
    have k10 := fx f5 97 10 102 (by decide +kernel)
    have k11 := fx f5 97 11 103 (by decide +kernel)
    have k12 := fx f5 97 12 104 (by decide +kernel)
    have k21 := fx f5 97 21 106 (by decide +kernel)
    rw [S5.2.1, V, nI_1, nI_clamp (by omega), nI_clamp (by omega), S5.at (by omega), S5.at (by omega), show (32 : Int32) = nI 32 from rfl, nI_ltI (by omega) (by omega), show (16 : Int32) = nI 16 from rfl, nI_leI (by omega) (by omega), k10, k11, k12]
    refine ⟨8000, rfl, vp_in_nI (by omega) (by decide), fun c => bad (Or.inr (Or.inl c)) _ _, fun c3 => ⟨vp_in_nI (by omega) (by decide), fun c4 => ⟨vp_in_nI (by omega) (by decide), 4, rfl, vp_in_nI (n := 3) (by decide) (by decide), fun h32 e32 => ?_⟩, fun c => bad (Or.inr (Or.inr (by omega))) _ _⟩⟩
    have hT : tabHP src e p = .inr (n, q) := by rw [hz, if_neg (by omega)]
    have cl3 : (3 : Int32).toNatClampNeg = 3 := by decide
    rw [cl3] at e32
    have V32 : h32.1 97 14 = nI q := by rw [e32, wI_cell (by decide)]; exact V
    rw [V32, nI_1, nI_clamp (by omega), cl3]
    have s98 : b8 (h32.1 98 (q + 1)) &&& 255 = nI (src.getD (q + 1) 0) := by rw [e32, wI_cell (by decide)]; exact S5.at (by omega)
    rw [s98]
    refine ⟨vp_in_nI (by omega) (by decide), 4, rfl, vp_in_nI (n := 3) (by decide) (by decide), fun h38 e38 h40 e40 h42 e42 h44 e44 h46 e46 h48 e48 h50 e50 h52 e52 h54 e54 => ?_⟩
    have V38 : h38.1 97 14 = nI q := by rw [e38, wI_cell (by decide)]; exact V32
    rw [V38, show (2 : Int32) = nI 2 from rfl, nI_add] at e40
    have r21 : h44.2.1 97 21 = 106 := by
      rw [e44, wR_cellx (by decide), e42, e40, e38, e32]; exact k21
    rw [r21] at e48
    have c97 : ∀ k, k ≠ 14 → k ≠ 15 → k ≠ 17 → k ≠ 23 → k ≠ 18 → k ≠ 19 → h54.1 97 k = h5.1 97 k := by
      intro k a b c d e f
      rw [e54, wI_idx f, e52, wI_idx e, e50, wI_idx d, e48]
      show h46.1 97 k = _
      rw [e46, wI_idx c, e44]
      show h42.1 97 k = _
      rw [e42, wI_idx b, e40, wI_idx a, e38, wI_cell (by decide), e32, wI_cell (by decide)]
    have cc : ∀ c, c ≠ 97 → c ≠ 102 → c ≠ 103 → h54.1 c = h5.1 c := by
      intro c a b d
      rw [e54, wI_cell a, e52, wI_cell a, e50, wI_cell a, e48]
      show h46.1 c = _
      rw [e46, wI_cell a, e44]
      show h42.1 c = _
      rw [e42, wI_cell a, e40, wI_cell a, e38, wI_cell d, e32, wI_cell b]
    have rr : ∀ c k, (c, k) ≠ (97, 16) → (c, k) ≠ (97, 22) → h54.2.1 c k = h5.2.1 c k := by
      intro c k a b
      rw [e54, e52, e50]
      show h48.2.1 c k = _
      rw [e48, wR_cellx b, e46]
      show h44.2.1 c k = _
      rw [e44, wR_cellx a, e42, e40, e38, e32]
      rfl
    have lj : h54.2.2 = h5.2.2 := by rw [e54, e52, e50, e48, e46, e44, e42, e40, e38, e32]; rfl
    have i102 : ∀ k, h54.1 102 k = if k = 3 then nI (src.getD q 0) else h5.1 102 k := by
      intro k
      rw [e54, wI_cell (by decide), e52, wI_cell (by decide), e50, wI_cell (by decide), e48]
      show h46.1 102 k = _
      rw [e46, wI_cell (by decide), e44]
      show h42.1 102 k = _
      rw [e42, wI_cell (by decide), e40, wI_cell (by decide), e38, wI_cell (by decide), e32, wI_if]
    have i103 : ∀ k, h54.1 103 k = if k = 3 then nI (src.getD (q + 1) 0) else h5.1 103 k := by
      intro k
      rw [e54, wI_cell (by decide), e52, wI_cell (by decide), e50, wI_cell (by decide), e48]
      show h46.1 103 k = _
      rw [e46, wI_cell (by decide), e44]
      show h42.1 103 k = _
      rw [e42, wI_cell (by decide), e40, wI_cell (by decide), e38, wI_if, e32, wI_cell (by decide)]
    have VV : ∀ t T, t < 3 → EntV h5 t T → EntV h54 t T := fun t T ht V => V.of (fun k _ => by rw [cc 101 (by decide) (by decide) (by decide)]) (by rw [i102, if_neg (by omega)]) (by rw [i103, if_neg (by omega)])
    have f54 : Fin h54 := fun z hz => by
      rw [rr z.1 z.2.1 (fun a => (show ∀ z ∈ FINS, (z.1, z.2.1) ≠ (97, 16) by decide +kernel) z hz a) (fun a => (show ∀ z ∈ FINS, (z.1, z.2.1) ≠ (97, 22) by decide +kernel) z hz a)]
      exact f5 z hz
    have M54 : MFr h h54 := M5.tr ⟨fun c hc => cc c (fun a => hc (by simp [a])) (fun a => hc (by simp [a])) (fun a => hc (by simp [a])), fun c _ => by rw [lj], fun c k hc => rr c k (fun a => hc (by simp [a])) (fun a => hc (by simp [a])), fun k hk => c97 k (fun a => by simp [a] at hk) (fun a => by simp [a] at hk) (fun a => by simp [a] at hk) (fun a => by simp [a] at hk) (fun a => by simp [a] at hk) (fun a => by simp [a] at hk), fun t T ht V => VV t T (by omega) V⟩
    have V1 := VV 1 _ (by decide) (x2.fm F5 (by decide) (by decide) (by decide))
    have V0 := VV 0 _ (by decide) (x3.fm F5 (by decide) (by decide) (by decide))
    have ac5 := x10.1.fm F5 (by decide) (by decide) (by decide) (by decide) (by decide)
    have X54 : MH h54 0 106 (q + n) false src UBy (UBy, 4, 3) (ost0 (q + 2) fun _ => 0) := by
      refine MH.of ⟨⟨f54, by rw [rr 97 13 (by decide) (by decide)]; exact S5.2.1, S5.2.2.1.of (cc 98 (by decide) (by decide) (by decide)), S5.2.2.2⟩, ⟨by decide, V0⟩, ?_, ?_, ?_, ?_, ?_, ?_, ?_, Or.inr ⟨?_, by rw [UBy_len]; decide, (F5.by_ B (by decide) (by decide)).of (cc 104 (by decide) (by decide) (by decide))⟩, ⟨Or.inr rfl, ?_⟩, fun j hj => absurd hj (by show ¬ j < 0; omega), ⟨by show 0 ≤ 8000; decide, fun b hb => by cases hb⟩, ?_, ?_, ?_, ?_, ⟨by show q + 2 ≤ q + n; omega, by omega⟩, fun _ => (by show (0 : Nat) < 16000; decide), fun _ => (by show (0 : Nat) < 16000; decide), Or.inl (by show 0 < 4; decide), GoodU, ⟨?_, by show (0 : Nat) < 17; decide, fun q => absurd rfl q⟩, UBy_lt⟩
      · rw [e54, wI_idx (by decide), e52, wI_idx (by decide), e50, wI_idx (by decide), e48]
        show h46.1 97 14 = _
        rw [e46, wI_idx (by decide), e44]
        show h42.1 97 14 = _
        rw [e42, wI_idx (by decide), e40, wI_same]; rfl
      · rw [e54, wI_idx (by decide), e52, wI_idx (by decide), e50, wI_idx (by decide), e48]
        show h46.1 97 15 = _
        rw [e46, wI_idx (by decide), e44]
        show h42.1 97 15 = _
        rw [e42, wI_same]
      · rw [e54, wI_idx (by decide), e52, wI_idx (by decide), e50, wI_idx (by decide), e48]
        show h46.1 97 17 = _
        rw [e46, wI_same, UBy_len]; rfl
      · rw [e54, wI_idx (by decide), e52, wI_same]; rfl
      · rw [e54, wI_same]; rfl
      · rw [e54, wI_idx (by decide), e52, wI_idx (by decide), e50, wI_same]; rfl
      · rw [c97 29 (by decide) (by decide) (by decide) (by decide) (by decide) (by decide), F5.2.2.2 29 (by decide)]; exact x8
      · rw [e54, e52, e50]
        show h48.2.1 97 16 = _
        rw [e48, wR_cellx (by decide), e46]
        show h44.2.1 97 16 = _
        rw [e44, wR_samex]
      · rw [e54, e52, e50]
        show h48.2.1 97 22 = _
        rw [e48, wR_samex]
      · intro i hi
        rw [lj, F5.2.1 108 (by decide)]
        exact x6 i (by have hi : i < 4 := hi; omega)
      · intro i hi
        rw [lj, F5.2.1 109 (by decide)]
        exact x7 i (by have hi : i < 256 * 3 := hi; omega)
      · intro j hj
        rw [cc 110 (by decide) (by decide) (by decide), F5.2.2.1 110 (by decide) (by decide)]
        exact x9 j hj
      · have a5 := ac5
        unfold ActV at a5 ⊢
        rw [c97 31 (by decide) (by decide) (by decide) (by decide) (by decide) (by decide), cc 111 (by decide) (by decide) (by decide), cc 112 (by decide) (by decide) (by decide), cc 113 (by decide) (by decide) (by decide), cc 114 (by decide) (by decide) (by decide)]
        exact a5
      · rw [c97 6 (by decide) (by decide) (by decide) (by decide) (by decide) (by decide)]; exact A5.1
    refine ⟨_, M_head (own := false) X54.r X54.fa X54.i14 X54.i15 X54.e, fun v60 h59 hp y61 e61 => ?_⟩
    subst e61
    have g := M_gsub (w := w) (h := h) (e := e) (x3 := nI q) (x4 := nI (q + n)) (x5 := nI e) ⟨rfl, rfl, rfl⟩ X54 hp.1 hp.2
    have up : ∀ h2, (∃ a, J7 h h54 e src n q a 97 (nI q) (nI (q + n)) (nI e) h2) → ∃ a n' q' hb, tabHP src e p = .inr (n', q') ∧ (q' + n' ≤ e ∧ e ≤ src.length) ∧ (EntV hb 1 (UBy, 4, 3) ∧ hb.1 102 3 = nI (src.getD q' 0) ∧ hb.1 103 3 = nI (src.getD (q' + 1) 0) ∧ MFr h hb) ∧ J7 h hb e src n' q' a 97 (nI q) (nI (q + n)) (nI e) h2 := fun h2 ⟨a, j⟩ => ⟨a, n, q, h54, hT, ⟨by omega, hpe.2⟩, ⟨V1, by rw [i102, if_pos rfl], by rw [i103, if_pos rfl], M54⟩, j⟩
    refine ⟨fun c => up _ (g.1 c), fun c => ⟨fun c5 => up _ ((g.2 c).1 c5), fun c5 => ?_⟩⟩
    obtain ⟨P, c1, k1⟩ := (g.2 c).2 c5
    exact ⟨P, c1, fun h68 hp => up _ (k1 h68 hp)⟩
  · rintro m x0 x3 x4 x5 h2 ⟨n, q, hb, hT, he, hV, I⟩
    have hx : x0 = 97 := I.1
    subst hx
    exact M_g207 hT he hV (fun a x3 x4 x5 h3 ha j => ⟨a, ha, n, q, hb, hT, he, hV, j⟩) (fun a x3 x4 x5 x7 x8 h3 ha j => ⟨a, ha, n, q, hT, he, j⟩) I
  · rintro m x0 x3 x4 x5 x7 x8 h2 ⟨n, q, hT, he, I⟩
    have hx : x0 = 97 := I.1
    subst hx
    exact M_g259 hT he (fun a x3 x4 x5 x7 x8 h3 ha j => ⟨a, ha, n, q, hT, he, j⟩) I
