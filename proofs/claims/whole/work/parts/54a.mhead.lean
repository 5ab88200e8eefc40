/-! the reference: head, appendix, a table judged (my own) -/
def hdS (e : Nat) (r : Sum (Nat × Nat) (Nat × Nat)) (v : Int32) (h1 : Hp) : Prop := match r with
  | .inl (f, q) => v = 0 ∧ Fa h1 f q ∧ f ≠ 0 ∧ ∃ q', q' ≤ e ∧ h1.1 97 14 = nI q'
  | .inr (b, q) => v = nI b ∧ Fa h1 0 0 ∧ h1.1 97 14 = nI q
theorem mkM {own : Bool} {b : Nat} (hb : b < 256) : (nI b &&& ((if own = true then (6 : Int32) else 4) ^^^ (-1 : Int32)) = 0 ↔ (b = 0 ∨ b = 4 ∨ own = true ∧ (b = 2 ∨ b = 6))) := by
  cases own with
  | true => rw [if_pos rfl]; exact mk49 b hb
  | false => rw [if_neg (by simp)]; exact mk70 b hb
theorem M_head {w : Wd} {h : Hp} {src : List Nat} (X : Sr h src) {own : Bool} {p e : Nat} (A : Fa h 0 0) (i14 : h.1 97 14 = nI p) (i15 : h.1 97 15 = nI e) (he : p ≤ e ∧ e ≤ src.length) : C_X12_head w SH 97 (if own = true then (6 : Int32) else 4) h (fun v h1 => hdS e (headP own src e p) v h1 ∧ Fm [6, 7, 14] [] [] h h1) := by
  have hls := X.2.2.2.1
  refine K_X12_head ⟨rfl, _, M_wants A (fun _ => ⟨i14, i15, he.1, by omega⟩) 4 (by decide), fun v6 h5 hp => ?_⟩
  obtain ⟨-, w1, F5⟩ := hp
  have w1 := w1 rfl
  by_cases g : e < p + 4
  · rw [if_pos g] at w1
    obtain ⟨rfl, A5⟩ := w1
    refine ⟨fun c => absurd rfl c, fun _ => ⟨?_, F5.mono (by decide) (by decide) (by decide)⟩⟩
    rw [show headP own src e p = .inl (1, e) by simp only [headP, if_pos g]]
    exact ⟨rfl, A5, by decide, p, he.1, by rw [F5.2.2.2 14 (by decide)]; exact i14⟩
  rw [if_neg g] at w1
  obtain ⟨rfl, e5⟩ := w1
  obtain rfl := e5.symm
  refine ⟨fun _ => ?_, fun c => absurd c (by decide)⟩
  rw [X.2.1, i14, nI_1, show (2 : Int32) = nI 2 from rfl, show (3 : Int32) = nI 3 from rfl, nI_add, nI_add, nI_clamp (by omega), nI_clamp (by omega), nI_clamp (by omega), nI_clamp (by omega), X.at (by omega), X.at (by omega), X.at (by omega), b8z, X.2.2.1 (p + 3) (by omega), ← getD_at (l := src) (i := p + 3) (by omega)]
  have b0 := getD_lt X.2.2.2.2 p
  have b1 := getD_lt X.2.2.2.2 (p + 1)
  have b2 := getD_lt X.2.2.2.2 (p + 2)
  rw [show (214 : Int32) = nI 214 from rfl, nI_eq (by omega) (by omega), show (195 : Int32) = nI 195 from rfl, nI_eq (by omega) (by omega), show (196 : Int32) = nI 196 from rfl, nI_eq (by omega) (by omega)]
  have bad : ¬ (src.getD p 0 = 214 ∧ src.getD (p + 1) 0 = 195 ∧ src.getD (p + 2) 0 = 196 ∧ src.getD (p + 3) 0 = 0) → V_X12_head_87 w SH 97 h (fun v h1 => hdS e (headP own src e p) v h1 ∧ Fm [6, 7, 14] [] [] h h1) := by
    intro hb
    refine ⟨rfl, _, by rw [i14]; exact M_fails A 2 p (by decide), fun v6 h5 hp => ?_⟩
    obtain ⟨-, A5, F5⟩ := hp
    refine ⟨?_, F5.mono (by decide) (by decide) (by decide)⟩
    rw [show headP own src e p = .inl (2, p) by
      unfold headP
      rw [if_neg g, if_pos hb]]
    exact ⟨rfl, A5, by decide, p, he.1, by rw [F5.2.2.2 14 (by decide)]; exact i14⟩
  refine ⟨8000, rfl, vp_in_nI (by omega) (by decide), fun c => bad fun q => c q.1, fun c1 => ⟨vp_in_nI (by omega) (by decide), fun c => bad fun q => c q.2.1, fun c2 => ⟨vp_in_nI (by omega) (by decide), fun c => bad fun q => c q.2.2.1, fun c3 => ⟨vp_in_nI (by omega) (by decide), fun c4 h18 e18 => ?_, fun c => bad fun q => c q.2.2.2⟩⟩⟩⟩
  have good : src.getD p 0 = 214 ∧ src.getD (p + 1) 0 = 195 ∧ src.getD (p + 2) 0 = 196 ∧ src.getD (p + 3) 0 = 0 := ⟨c1, c2, c3, c4⟩
  rw [show (4 : Int32) = nI 4 from rfl, nI_add] at e18
  have F18 : Fm [6, 7, 14] [] [] h h18 := by rw [e18]; exact Fm.rf.put (by decide)
  have A18 : Fa h18 0 0 := ⟨by rw [e18, wI_idx (by decide)]; exact A.1, by decide, fun q => absurd rfl q⟩
  have j14 : h18.1 97 14 = nI (p + 4) := by rw [e18, wI_same]
  have j15 : h18.1 97 15 = nI e := by rw [e18, wI_idx (by decide)]; exact i15
  have X18 := X.fm F18 (by decide)
  refine ⟨_, M_wants A18 (fun _ => ⟨j14, j15, by omega, by omega⟩) 1 (by decide), fun v24 h23 hp => ?_⟩
  obtain ⟨-, w2, F23⟩ := hp
  have w2 := w2 rfl
  by_cases g2 : e < p + 4 + 1
  · rw [if_pos g2] at w2
    obtain ⟨rfl, A5⟩ := w2
    refine ⟨fun c => absurd rfl c, fun _ => ⟨?_, F18.tr (F23.mono (by decide) (by decide) (by decide))⟩⟩
    rw [show headP own src e p = .inl (1, e) by
      unfold headP
      rw [if_neg g, if_neg (not_not_intro good), if_pos (by omega)]]
    exact ⟨rfl, A5, by decide, p + 4, by omega, by rw [F23.2.2.2 14 (by decide)]; exact j14⟩
  rw [if_neg g2] at w2
  obtain ⟨rfl, e5⟩ := w2
  obtain rfl := e5.symm
  refine ⟨fun _ => ?_, fun c => absurd c (by decide)⟩
  rw [X18.2.1, j14, nI_clamp (by omega), X18.at (by omega)]
  have hb := getD_lt X.2.2.2.2 (p + 4)
  have hd : headP own src e p = (if ¬ (src.getD (p + 4) 0 = 0 ∨ src.getD (p + 4) 0 = 4 ∨ own = true ∧ (src.getD (p + 4) 0 = 2 ∨ src.getD (p + 4) 0 = 6)) then .inl (4, p + 4) else .inr (src.getD (p + 4) 0, p + 5)) := by
    unfold headP
    rw [if_neg g, if_neg (not_not_intro good), if_neg (by omega)]
  generalize src.getD (p + 4) 0 = b at hb hd
  rw [hd]
  refine ⟨8000, rfl, vp_in_nI (by omega) (by decide), fun y29 e29 => ?_⟩
  subst e29
  rw [mkM hb]
  refine ⟨fun c9 h32 e32 => ?_, fun c9 => ⟨_, M_fails A18 4 (p + 4) (by decide), fun v38 h37 hp => ?_⟩⟩
  · rw [nI_1] at e32
    rw [if_neg (not_not_intro c9)]
    refine ⟨⟨rfl, ⟨by rw [e32, wI_idx (by decide)]; exact A18.1, by decide, fun q => absurd rfl q⟩, by rw [e32, wI_same]⟩, ?_⟩
    rw [e32]; exact F18.put (by decide)
  · obtain ⟨-, A5, F5⟩ := hp
    rw [if_pos c9]
    exact ⟨⟨rfl, A5, by decide, p + 4, by omega, by rw [F5.2.2.2 14 (by decide)]; exact j14⟩, F18.tr (F5.mono (by decide) (by decide) (by decide))⟩
def apS (e : Nat) (own : Bool) (tl : Nat → Nat) (h : Hp) (r : Sum (Nat × Nat) (Nat × Nat)) (h1 : Hp) : Prop := match r with
  | .inl (f, q) => Fa h1 f q ∧ f ≠ 0 ∧ (∃ q', q' ≤ e ∧ h1.1 97 14 = nI q') ∧ h1.1 110 = h.1 110
  | .inr (n, q) => Fa h1 0 0 ∧ h1.1 97 14 = nI q ∧ ∀ j, j < 8 → h1.1 110 j = nI (cntP own tl 6 n j)
theorem M_appendix {w : Wd} {h : Hp} {src : List Nat} (X : Sr h src) {own : Bool} {p e : Nat} {tl : Nat → Nat} (A : Fa h 0 0) (i14 : h.1 97 14 = nI p) (i15 : h.1 97 15 = nI e) (he : p ≤ e ∧ e ≤ src.length) (i19 : h.1 97 19 = (if own = true then 1 else 0)) (ht : ∀ j, j < 8 → h.1 110 j = nI (tl j)) (h6 : tl 6 = 0) : C_X12_appendix w SH 97 h (fun h1 => apS e own tl h (apxP src e p) h1 ∧ Fm [6, 7, 14, 36, 37] [110] [] h h1) := by
  have hls := X.2.2.2.1
  refine K_X12_appendix ⟨rfl, _, M_headBig X A (fun _ => ⟨i14, i15, he.1, he.2⟩), fun v6 h5 hp y7 e7 => ?_⟩
  subst e7
  obtain ⟨-, hb, F5⟩ := hp
  have hb := hb rfl
  have G5 : Fm [6, 7, 14, 36, 37] [110] [] h h5 := F5.mono (by decide) (by decide) (by decide)
  cases hB : hbP src e p with
  | inl x =>
    obtain ⟨f, q⟩ := x
    rw [hB] at hb
    obtain ⟨rfl, A5, hf, q', hq, V⟩ := hb
    refine ⟨_, M_wantsF A5 hf _, fun v13 h12 hp => ?_⟩
    obtain ⟨rfl, e1⟩ := hp
    obtain rfl := e1.symm
    refine ⟨fun _ => ⟨?_, G5⟩, fun c => absurd rfl c⟩
    rw [show apxP src e p = .inl (f, q) by simp only [apxP, hB]]
    exact ⟨A5, hf, ⟨q', hq, V⟩, F5.2.2.1 110 (by decide) (by decide)⟩
  | inr x =>
  obtain ⟨n, q⟩ := x
  rw [hB] at hb
  obtain ⟨rfl, A5, V⟩ := hb
  have hk := hbP_ok hB
  have j15 : h5.1 97 15 = nI e := by rw [F5.2.2.2 15 (by decide)]; exact i15
  refine ⟨_, M_wants A5 (fun _ => ⟨V, j15, by omega, by omega⟩) n (by omega), fun v13 h12 hp => ?_⟩
  obtain ⟨-, w1, F12⟩ := hp
  have w1 := w1 rfl
  by_cases g : e < q + n
  · rw [if_pos g] at w1
    obtain ⟨rfl, A12⟩ := w1
    refine ⟨fun _ => ⟨?_, G5.tr (F12.mono (by decide) (by decide) (by decide))⟩, fun c => absurd rfl c⟩
    rw [show apxP src e p = .inl (1, e) by simp only [apxP, hB, if_pos g]]
    exact ⟨A12, by decide, ⟨q, by omega, by rw [F12.2.2.2 14 (by decide)]; exact V⟩, by rw [F12.2.2.1 110 (by decide) (by decide), F5.2.2.1 110 (by decide) (by decide)]⟩
  rw [if_neg g] at w1
  obtain ⟨rfl, e5⟩ := w1
  obtain rfl := e5.symm
  refine ⟨fun c => absurd c (by decide), fun _ h15 e15 => ?_⟩
  rw [V, lN_i, nI_add] at e15
  have F15 : Fm [6, 7, 14, 36, 37] [110] [] h h15 := by rw [e15]; exact G5.put (by decide)
  have f5 := F5.fin X.1
  have k30 : h5.2.1 97 30 = 110 := fx f5 97 30 110 (by decide +kernel)
  have j19 : h15.1 97 19 = (if own = true then 1 else 0) := by rw [F15.2.2.2 19 (by decide)]; exact i19
  have A15 : Fa h15 0 0 := ⟨by rw [e15, wI_idx (by decide)]; exact A5.1, by decide, fun q => absurd rfl q⟩
  have V15 : h15.1 97 14 = nI (q + n) := by rw [e15, wI_same]
  have t15 : ∀ j, j < 8 → h15.1 110 j = nI (tl j) := fun j hj => by rw [e15, wI_cell (by decide), F5.2.2.1 110 (by decide) (by decide)]; exact ht j hj
  rw [j19, k30, show apxP src e p = .inr (n, q + n) by simp only [apxP, hB, if_neg g]]
  have cl6 : (6 : Int32).toNatClampNeg = 6 := by decide
  refine ⟨fun c => ⟨8, rfl, vp_in_nI (n := 6) (by decide) (by decide), vp_in_nI (n := 6) (by decide) (by decide), fun h22 e22 => ?_⟩, fun c => ⟨8, rfl, vp_in_nI (n := 6) (by decide) (by decide), fun h27 e27 => ?_⟩⟩
  · have ho : own = false := by
      cases own with
      | false => rfl
      | true => rw [if_pos rfl] at c; exact absurd c (by decide)
    subst ho
    rw [cl6] at e22
    refine ⟨⟨⟨by rw [e22, wI_cell (by decide)]; exact A15.1, by decide, fun q => absurd rfl q⟩, by rw [e22, wI_cell (by decide)]; exact V15, fun j hj => ?_⟩, by rw [e22]; exact F15.putC (by decide) (by decide)⟩
    rw [e22, wI_if]
    show _ = nI (tl j)
    split
    · rename_i q; rw [q]; exact t15 6 (by decide)
    · exact t15 j hj
  · have ho : own = true := by
      cases own with
      | true => rfl
      | false => rw [if_neg (by simp)] at c; exact absurd rfl c
    subst ho
    rw [cl6, lN_i] at e27
    refine ⟨⟨⟨by rw [e27, wI_cell (by decide)]; exact A15.1, by decide, fun q => absurd rfl q⟩, by rw [e27, wI_cell (by decide)]; exact V15, fun j hj => ?_⟩, by rw [e27]; exact F15.putC (by decide) (by decide)⟩
    rw [e27, wI_if]
    unfold cntP
    rw [if_pos rfl]
    unfold updN
    split
    · rw [h6, Nat.zero_add]
    · exact t15 j hj
theorem M_isGood {w : Wd} {h : Hp} (f : Fin h) {t : Nat} {T : Tb} (ht : t < 4) (V : EntV h t T) : C_X12_isGood w SH 97 (nI t) h (fun v h1 => h1 = h ∧ (v = 0 ∨ v = 1) ∧ (v = 1 ↔ GoodT T)) := by
  have k10 := fx f 97 10 102 (by decide +kernel)
  have k11 := fx f 97 11 103 (by decide +kernel)
  refine K_X12_isGood nlt_wf (fun m x0 x1 x2 h' => x0 = 97 ∧ x1 = nI t ∧ h' = h ∧ ∃ k, x2 = nI k ∧ k ≤ 256 ∧ m = 4 * (256 - k) ∧ ∀ c, c < k → gH T c 0 ∧ gH T c 3) (fun m x0 x1 x2 x3 h' => x0 = 97 ∧ x1 = nI t ∧ h' = h ∧ ∃ k v, x2 = nI k ∧ k < 256 ∧ x3 = nI v ∧ (v = 0 ∨ v = 3 ∧ gH T k 0 ∨ v = 6 ∧ gH T k 0 ∧ gH T k 3) ∧ m = 4 * (256 - k) - 1 - v / 3 ∧ ∀ c, c < k → gH T c 0 ∧ gH T c 3) ?_ ?_ ?_
  · intro y1 e1
    exact ⟨1024, rfl, rfl, rfl, 0, e1, by omega, rfl, fun c hc => absurd hc (by omega)⟩
  · rintro m x0 x1 x2 h' ⟨rfl, rfl, rfl, k, rfl, hk, rfl, g⟩
    rw [V_X12_isGood_2, show (256 : Int32) = nI 256 from rfl, nI_leI (by omega) (by omega)]
    refine ⟨fun c7 => ⟨rfl, Or.inr rfl, ⟨fun _ => GoodT_gH.mpr fun c hc => g c (by omega), fun _ => rfl⟩⟩, fun c7 y2 e2 => ⟨_, by omega, rfl, rfl, rfl, k, 0, rfl, by omega, e2, Or.inl rfl, rfl, g⟩⟩
  · rintro m x0 x1 x2 x3 h' ⟨rfl, rfl, rfl, k, v, rfl, hk, rfl, hv, rfl, g⟩
    rw [V_X12_isGood_11, show (6 : Int32) = nI 6 from rfl, nI_leI (by omega) (by omega)]
    refine ⟨fun c7 y2 e2 => ?_, fun c7 => ⟨rfl, ?_⟩⟩
    · have hg : gH T k 0 ∧ gH T k 3 := by
        rcases hv with q | q | q
        · omega
        · omega
        · exact q.2
      refine ⟨4 * (256 - (k + 1)), by omega, rfl, rfl, rfl, k + 1, by rw [e2, nI_1], by omega, rfl, fun c hc => ?_⟩
      by_cases ck : c < k
      · exact g c ck
      · rw [show c = k by omega]; exact hg
    · have bt := V.2.2.2.2.2.2
      have k0 : tE T k v < 256 := getD_lt bt _
      have k1 : tE T k (v + 1) < 256 := getD_lt bt _
      have k2 : tE T k (v + 2) < 256 := getD_lt bt _
      have hn := V.2.2.2.1
      have hs := V.2.2.2.2.1
      have hg : gH T k v ↔ (tE T k v = 0 ∧ tE T k (v + 1) = 0 ∧ tE T k (v + 2) = 0) ∨ ((tE T k v = 1 ∨ tE T k v = 2) ∧ tE T k (v + 2) = 0) ∨ (tE T k v = 3 ∧ tE T k (v + 2) < 2 + T.2.1 + T.2.2) := Iff.rfl
      have hv2 : v = 0 ∨ v = 3 := by omega
      have no : ∀ L2 L11, ¬ gH T k v → V_X12_isGood_121 w SH 97 (nI t) (nI k) (nI v) (0 : Int32) h' L2 L11 (fun v h1 => h1 = h' ∧ (v = 0 ∨ v = 1) ∧ (v = 1 ↔ GoodT T)) := by
        intro L2 L11 hn y1 e1
        subst e1
        refine ⟨fun c => absurd rfl c, fun _ => ⟨rfl, Or.inl rfl, ⟨fun e => absurd e (by decide), fun q => absurd ?_ hn⟩⟩⟩
        have := GoodT_gH.mp q k hk
        rcases hv2 with q | q <;> rw [q]
        · exact this.1
        · exact this.2
      have yes : gH T k v → V_X12_isGood_121 w SH 97 (nI t) (nI k) (nI v) (1 : Int32) h' (fun x0 x1 x2 h => ∃ a, a < 4 * (256 - k) - 1 - v / 3 ∧ x0 = 97 ∧ x1 = nI t ∧ h = h' ∧ ∃ k, x2 = nI k ∧ k ≤ 256 ∧ a = 4 * (256 - k) ∧ ∀ c, c < k → gH T c 0 ∧ gH T c 3) (fun x0 x1 x2 x3 h => ∃ a, a < 4 * (256 - k) - 1 - v / 3 ∧ x0 = 97 ∧ x1 = nI t ∧ h = h' ∧ ∃ k v, x2 = nI k ∧ k < 256 ∧ x3 = nI v ∧ (v = 0 ∨ v = 3 ∧ gH T k 0 ∨ v = 6 ∧ gH T k 0 ∧ gH T k 3) ∧ a = 4 * (256 - k) - 1 - v / 3 ∧ ∀ c, c < k → gH T c 0 ∧ gH T c 3) (fun v h1 => h1 = h' ∧ (v = 0 ∨ v = 1) ∧ (v = 1 ↔ GoodT T)) := by
        intro gy y1 e1
        subst e1
        refine ⟨fun _ y4 e4 => ⟨4 * (256 - k) - 1 - (v + 3) / 3, by omega, rfl, rfl, rfl, k, v + 3, rfl, hk, by rw [e4, show (3 : Int32) = nI 3 from rfl, nI_add], ?_, rfl, g⟩, fun c => absurd c (by decide)⟩
        rcases hv with q | q | q
        · subst q; exact Or.inr (Or.inl ⟨rfl, gy⟩)
        · obtain ⟨rfl, q2⟩ := q; exact Or.inr (Or.inr ⟨rfl, q2, gy⟩)
        · omega
      refine ⟨_, S_entryOf f ht V k v hk (by omega), fun v9 h8 hp y10 e10 => ?_⟩
      obtain ⟨q1, q2⟩ := hp
      obtain rfl := q1.symm
      rw [q2] at e10
      refine ⟨_, by rw [nI_1]; exact S_entryOf f ht V k (v + 1) hk (by omega), fun v16 h15 hp y17 e17 => ?_⟩
      obtain ⟨q1, q3⟩ := hp
      obtain rfl := q1.symm
      rw [q3] at e17
      refine ⟨_, by rw [show (2 : Int32) = nI 2 from rfl, nI_add]; exact S_entryOf f ht V k (v + 2) hk (by omega), fun v23 h22 hp y24 e24 => ?_⟩
      obtain ⟨q1, q4⟩ := hp
      obtain rfl := q1.symm
      rw [q4] at e24
      subst e10; subst e17; subst e24
      rw [show T.1.getD (cellT k v) 0 = tE T k v from rfl, show T.1.getD (cellT k (v + 1)) 0 = tE T k (v + 1) from rfl, show T.1.getD (cellT k (v + 2)) 0 = tE T k (v + 2) from rfl]
      rw [nIz (by omega), nIz (by omega), nIz (by omega), show (3 : Int32) = nI 3 from rfl, nI_eq (by omega) (by omega), nI_leI (by omega) (by omega), k10, k11, nI_clamp (by omega), V.2.1, V.2.2.1, show (2 : Int32) = nI 2 from rfl, nI_add, nI_add, nI_leI (by omega) (by omega)]
      refine ⟨fun c8 => ⟨fun c9 => ⟨fun c10 => no _ _ (by rw [hg]; omega), fun c10 => ⟨fun c11 => no _ _ (by rw [hg]; omega), fun c11 => yes (by rw [hg]; omega)⟩⟩, fun c9 => ⟨4, rfl, vp_in_nI ht (by decide), 4, rfl, vp_in_nI ht (by decide), fun c10 => no _ _ (by rw [hg]; omega), fun c10 => yes (by rw [hg]; omega)⟩⟩, fun c8 => ⟨fun c9 => no _ _ (by rw [hg]; omega), fun c9 => ⟨fun c10 => no _ _ (by rw [hg]; omega), fun c10 => yes (by rw [hg]; omega)⟩⟩⟩
