/-! the reference: a window from its beginning (my own) -/
theorem b8z (x : Int32) : b8 x = 0 ↔ un x = 0 := by
  have h0 : b8 (0 : Int32) = 0 := by decide
  have h1 : un (0 : Int32) = 0 := by decide
  rw [← h1, ← un_eq_b8, h0]
theorem M_headBigF {w : Wd} {h : Hp} {f q : Nat} (A : Fa h f q) (hf : f ≠ 0) : C_X12_headBig w SH 97 h (fun v h1 => v = 0 ∧ h1 = h) :=
  K_X12_headBig ⟨rfl, fun c => absurd (A.le.mp c) hf, fun _ => ⟨rfl, rfl⟩⟩
def hdMs (h : Hp) (t tc e : Nat) (own : Bool) (src base : List Nat) (T : Tb) (b n : Nat) (seg : List Nat) (s1 : Ost) (r : Sum (Nat × Nat) (Nat × Nat)) (v : Int64) (h2 : Hp) : Prop := match r with
  | .inl (f, p) => v = 0 ∧ Fa h2 f p ∧ f ≠ 0 ∧ ∀ tot : Ost, tot = s1.bad f p → WPost h t tc e own src base T tot h2
  | .inr (k, q) => v = lN k ∧ WD h t tc e own src base T b n seg s1 q h2
theorem WD.fa {h h1 : Hp} {t tc e : Nat} {own : Bool} {src base : List Nat} {T : Tb} {b n : Nat} {seg : List Nat} {s1 : Ost} {q : Nat} (D : WD h t tc e own src base T b n seg s1 q h1) : Fa h1 0 0 := by
  have A := D.2.2.2.1.fa
  have A : Fa h1 s1.ft s1.pl := A
  rw [D.2.2.1] at A
  exact ⟨A.1, by decide, fun q => absurd rfl q⟩
theorem WD.head {w : Wd} {h h1 : Hp} {t tc e : Nat} {own : Bool} {src base : List Nat} {T : Tb} {b n : Nat} {seg : List Nat} {s1 : Ost} {q : Nat} (D : WD h t tc e own src base T b n seg s1 q h1) : ∃ P : Int64 → Hp → Prop, C_X12_headBig w SH 97 h1 P ∧ ∀ v h2, P v h2 → hdMs h t tc e own src base T b n seg s1 (hbP src e q) v h2 := by
  have X := D.2.2.2.1
  have he := X.e
  refine ⟨_, M_headBig X.r D.fa (fun _ => ⟨X.i14, X.i15, he.1, he.2⟩), fun v h2 hp => ?_⟩
  obtain ⟨-, hb, F⟩ := hp
  have hb := hb rfl
  have hb : hbMs e (hbP src e q) v h2 := hb
  cases hB : hbP src e q with
  | inl x =>
    obtain ⟨f, p⟩ := x
    rw [hB] at hb
    obtain ⟨ev, A, hf, q', hq, V⟩ := hb
    exact ⟨ev, A, hf, fun tot et => D.bad F A hf V hq et⟩
  | inr x =>
    obtain ⟨k, q'⟩ := x
    rw [hB] at hb
    have hk := hbP_ok hB
    exact ⟨hb.1, D.hb F hb.2.1 hb.2.2 (by omega)⟩
theorem M_w261F {w : Wd} {h : Hp} {R : Hp → Prop} {L149 : Nat → Int32 → Int64 → Int32 → Hp → Prop} {L362 : Nat → Int32 → Int64 → Int32 → Int64 → Int64 → Int64 → Int64 → Int32 → Int32 → Int64 → Int32 → Hp → Prop} {L547 : Nat → Int64 → Int32 → Hp → Prop} {f q : Nat} (A : Fa h f q) (hf : f ≠ 0) (r : R h) (x1 x2 : Int32) (x3 : Int64) (x5 : Int32) (x7 : Int64) : V_X12_window_261 w SH 97 x1 x2 x3 x5 x7 h L149 L362 L547 R := by
  refine ⟨rfl, _, M_wantsF A hf _, fun v6 h5 hp => ?_⟩
  obtain ⟨rfl, e1⟩ := hp
  obtain rfl := e1.symm
  exact ⟨fun c => absurd rfl c, fun _ => r⟩
theorem and4z {b : Nat} (hb : b < 8) : (nI b &&& (4 : Int32) ≤ 0) ↔ ¬ 4 ≤ b := by
  rw [and4 b hb, show (0 : Int32) = nI 0 from rfl, nI_leI (by unfold sumN; split <;> omega) (by decide)]
  unfold sumN
  split <;> omega
theorem M_w261 {w : Wd} {h : Hp} {t tc e : Nat} {own : Bool} {src base : List Nat} {T : Tb} {tot s1 : Ost} {L149 : Nat → Int32 → Int64 → Int32 → Hp → Prop} {L362 : Nat → Int32 → Int64 → Int32 → Int64 → Int64 → Int64 → Int64 → Int32 → Int32 → Int64 → Int32 → Hp → Prop} {L547 : Nat → Int64 → Int32 → Hp → Prop} (hL : ∀ m x7 x19 h2, m ≤ 8000 → I5 h t tc e own src base T tot m 97 x7 x19 h2 → L547 97 x7 x19 h2) (hL3 : ∀ m x2 x3 x5 x7 x9 x11 x13 x15 x16 x17 x19 h2, m ≤ 50004 → I3 h t tc e own src base T tot m 97 x2 x3 x5 x7 x9 x11 x13 x15 x16 x17 x19 h2 → L362 97 x2 x3 x5 x7 x9 x11 x13 x15 x16 x17 x19 h2) {h1 : Hp} {b n tz q p fo p1 : Nat} {seg : List Nat} (D : WD h t tc e own src base T b n seg s1 q h1) (hB : hbP src e p = .inr (fo, p1)) (hT : hbP src e p1 = .inr (tz, q)) (h10 : ¬ 8000 - s1.out.length < tz) (et : tot = totP own T src b n seg s1 (sizP src e p b s1.out.length)) : V_X12_window_261 w SH 97 (nI b) (nI p) (lN fo) (nI p1) (lN tz) h1 L149 L362 L547 (WPost h t tc e own src base T tot) := by
  obtain ⟨d1, d2, d3, X, B, i25, F⟩ := id D
  have hls := X.r.2.2.2.1
  have he := X.e
  have he1 : q ≤ e := he.1
  have A := D.fa
  have i14 : h1.1 97 14 = nI q := X.i14
  have kB := hbP_ok hB
  have kT := hbP_ok hT
  refine ⟨rfl, _, M_wants A (fun _ => ⟨i14, X.i15, he1, by omega⟩) 1 (by decide), fun v6 h5 hp => ?_⟩
  obtain ⟨-, w1, F5⟩ := hp
  have w1 := w1 rfl
  by_cases g : e < q + 1
  · rw [if_pos g] at w1
    obtain ⟨rfl, A5⟩ := w1
    have ez : sizP src e p b s1.out.length = .inl (1, e) := by
      have e1 : tgtP src e p1 s1.out.length = .inl (1, e) := by
        simp only [tgtP, hT]
        rw [if_neg h10, if_pos g]
      simp only [sizP, hB, e1]
    rw [ez] at et
    exact ⟨fun c7 => absurd rfl c7, fun _ => D.bad (F5.mono (by decide) (by decide) (by decide)) A5 (by decide) (by rw [F5.2.2.2 14 (by decide)]; exact i14) he1 et⟩
  rw [if_neg g] at w1
  obtain ⟨rfl, e5⟩ := w1
  obtain rfl := e5.symm
  refine ⟨fun _ => ?_, fun c7 => absurd c7 (by decide)⟩
  rw [X.r.2.1, i14, nI_clamp (by omega), b8z, X.r.2.2.1 q (by omega), ← getD_at (l := src) (i := q) (by omega)]
  refine ⟨8000, rfl, vp_in_nI (by omega) (by decide), fun c8 h12 e12 => ?_, fun c8 => ⟨_, M_fails A 9 q (by decide), fun v40 h39 hp => ?_⟩⟩
  · have hg : tgtP src e p1 s1.out.length = .inr (tz, q + 1) := by
      simp only [tgtP, hT]
      rw [if_neg h10, if_neg g, if_neg (not_not_intro c8)]
    rw [nI_1] at e12
    have F12 : Fm [6, 7, 14, 36, 37] [] [] h1 h12 := by rw [e12]; exact Fm.rf.put (by decide)
    have D12 := D.hb F12 ⟨by rw [e12, wI_idx (by decide)]; exact A.1, by decide, fun q => absurd rfl q⟩ (by rw [e12, wI_same]) (show q + 1 ≤ e by omega)
    have fl : ∀ (h2 : Hp) (f p' : Nat), Fa h2 f p' → f ≠ 0 → WPost h t tc e own src base T tot h2 → ∀ (x7 x9 x11 x13 : Int64) (x1 : Int32), ((x1 ≤ 0) → V_X12_window_333 w SH 97 (nI p) (lN fo) (nI p1) x7 x9 x11 x13 (0 : Int32) h2 L149 L362 L547 (WPost h t tc e own src base T tot)) ∧ ((¬ x1 ≤ 0) → V_X12_window_333 w SH 97 (nI p) (lN fo) (nI p1) x7 x9 x11 x13 (1 : Int32) h2 L149 L362 L547 (WPost h t tc e own src base T tot)) := fun h2 f p' A2 hf r x7 x9 x11 x13 x1 => ⟨fun _ => M_w333F A2 hf r _ _ _ _ _ _ _ _, fun _ => M_w333F A2 hf r _ _ _ _ _ _ _ _⟩
    obtain ⟨P, c1, k1⟩ := D12.head (w := w)
    refine ⟨P, c1, fun v18 h17 hp y19 e19 => ?_⟩
    replace hp := k1 _ _ hp
    subst e19
    cases hD : hbP src e (q + 1) with
    | inl x =>
      obtain ⟨f, p'⟩ := x
      rw [hD] at hp
      obtain ⟨rfl, A2, hf, r⟩ := hp
      have r := r tot (by rw [et]; simp only [sizP, hB, hg, hD, totP])
      refine ⟨_, M_headBigF A2 hf, fun v25 h24 hp y26 e26 => ?_⟩
      obtain ⟨-, e1⟩ := hp
      obtain rfl := e1.symm
      refine ⟨_, M_headBigF A2 hf, fun v32 h31 hp y33 e33 => ?_⟩
      obtain ⟨-, e1⟩ := hp
      obtain rfl := e1.symm
      exact fl _ f p' A2 hf r _ _ _ _ _
    | inr x =>
    obtain ⟨d, p3⟩ := x
    rw [hD] at hp
    obtain ⟨rfl, D3⟩ := hp
    obtain ⟨P, c1, k1⟩ := D3.head (w := w)
    refine ⟨P, c1, fun v25 h24 hp y26 e26 => ?_⟩
    replace hp := k1 _ _ hp
    subst e26
    have kD := hbP_ok hD
    cases hC : hbP src e p3 with
    | inl x =>
      obtain ⟨f, p'⟩ := x
      rw [hC] at hp
      obtain ⟨rfl, A2, hf, r⟩ := hp
      have r := r tot (by rw [et]; simp only [sizP, hB, hg, hD, hC, totP])
      refine ⟨_, M_headBigF A2 hf, fun v32 h31 hp y33 e33 => ?_⟩
      obtain ⟨-, e1⟩ := hp
      obtain rfl := e1.symm
      exact fl _ f p' A2 hf r _ _ _ _ _
    | inr x =>
    obtain ⟨c, p4⟩ := x
    rw [hC] at hp
    obtain ⟨rfl, D4⟩ := hp
    obtain ⟨P, c1, k1⟩ := D4.head (w := w)
    refine ⟨P, c1, fun v32 h31 hp y33 e33 => ?_⟩
    replace hp := k1 _ _ hp
    subst e33
    have kC := hbP_ok hC
    cases hA : hbP src e p4 with
    | inl x =>
      obtain ⟨f, p'⟩ := x
      rw [hA] at hp
      obtain ⟨rfl, A2, hf, r⟩ := hp
      have r := r tot (by rw [et]; simp only [sizP, hB, hg, hD, hC, hA, totP])
      exact fl _ f p' A2 hf r _ _ _ _ _
    | inr x =>
    obtain ⟨a, p5⟩ := x
    rw [hA] at hp
    obtain ⟨rfl, D5⟩ := hp
    have kA := hbP_ok hA
    have ez : sizP src e p b s1.out.length = sz5 e p b fo p1 tz d c a p5 := by
      simp only [sizP, hB, hg, hD, hC, hA, sz5]
    rw [ez] at et
    rw [and4z d1]
    exact ⟨fun c9 => M_w333 hL hL3 D5 (by omega) ⟨kB.2.2, kD.2.2, kC.2.2, kA.2.2⟩ (by omega) et _ (by rw [if_neg c9]), fun c9 => M_w333 hL hL3 D5 (by omega) ⟨kB.2.2, kD.2.2, kC.2.2, kA.2.2⟩ (by omega) et _ (by rw [if_pos (Decidable.not_not.mp c9)])⟩
  · obtain ⟨-, A5, F5⟩ := hp
    have ez : sizP src e p b s1.out.length = .inl (9, q) := by
      have e1 : tgtP src e p1 s1.out.length = .inl (9, q) := by
        simp only [tgtP, hT]
        rw [if_neg h10, if_neg g, if_pos c8]
      simp only [sizP, hB, e1]
    rw [ez] at et
    exact D.bad (F5.mono (by decide) (by decide) (by decide)) A5 (by decide) (by rw [F5.2.2.2 14 (by decide)]; exact i14) he1 et
theorem M_w202 {w : Wd} {h : Hp} {t tc e : Nat} {own : Bool} {src base : List Nat} {T : Tb} {tot s1 : Ost} {L149 : Nat → Int32 → Int64 → Int32 → Hp → Prop} {L362 : Nat → Int32 → Int64 → Int32 → Int64 → Int64 → Int64 → Int64 → Int32 → Int32 → Int64 → Int32 → Hp → Prop} {L547 : Nat → Int64 → Int32 → Hp → Prop} (hL : ∀ m x7 x19 h2, m ≤ 8000 → I5 h t tc e own src base T tot m 97 x7 x19 h2 → L547 97 x7 x19 h2) (hL3 : ∀ m x2 x3 x5 x7 x9 x11 x13 x15 x16 x17 x19 h2, m ≤ 50004 → I3 h t tc e own src base T tot m 97 x2 x3 x5 x7 x9 x11 x13 x15 x16 x17 x19 h2 → L362 97 x2 x3 x5 x7 x9 x11 x13 x15 x16 x17 x19 h2) {h1 : Hp} {b n p : Nat} {seg : List Nat} (D : WD h t tc e own src base T b n seg s1 p h1) (et : tot = totP own T src b n seg s1 (sizP src e p b s1.out.length)) : V_X12_window_202 w SH 97 (nI b) h1 L149 L362 L547 (WPost h t tc e own src base T tot) := by
  obtain ⟨d1, d2, d3, X, B, i25, F⟩ := id D
  have hls := X.r.2.2.2.1
  have i14 : h1.1 97 14 = nI p := X.i14
  obtain ⟨P, c1, k1⟩ := D.head (w := w)
  refine ⟨rfl, fun y2 e2 => ⟨P, c1, fun v8 h7 hp y9 e9 y11 e11 y13 e13 => ?_⟩⟩
  replace hp := k1 _ _ hp
  rw [i14] at e2
  subst e2; subst e9
  cases hB : hbP src e p with
  | inl x =>
    obtain ⟨f, p'⟩ := x
    rw [hB] at hp
    obtain ⟨rfl, A2, hf, r⟩ := hp
    have r := r tot (by rw [et]; simp only [sizP, hB, totP])
    refine ⟨_, M_headBigF A2 hf, fun v19 h18 hp y20 e20 => ?_⟩
    obtain ⟨-, e1⟩ := hp
    obtain rfl := e1.symm
    exact ⟨fun _ => M_w261F A2 hf r _ _ _ _ _, fun c => absurd (A2.eq.mp c) hf⟩
  | inr x =>
  obtain ⟨fo, p1⟩ := x
  rw [hB] at hp
  obtain ⟨rfl, D1⟩ := hp
  have j14 : h7.1 97 14 = nI p1 := D1.2.2.2.1.i14
  rw [j14] at e11 e13
  subst e11; subst e13
  obtain ⟨P, c1, k1⟩ := D1.head (w := w)
  refine ⟨P, c1, fun v19 h18 hp y20 e20 => ?_⟩
  replace hp := k1 _ _ hp
  subst e20
  cases hT : hbP src e p1 with
  | inl x =>
    obtain ⟨f, p'⟩ := x
    rw [hT] at hp
    obtain ⟨rfl, A2, hf, r⟩ := hp
    have r := r tot (by rw [et]; simp only [sizP, hB, tgtP, hT, totP])
    exact ⟨fun _ => M_w261F A2 hf r _ _ _ _ _, fun c => absurd (A2.eq.mp c) hf⟩
  | inr x =>
  obtain ⟨tz, q⟩ := x
  rw [hT] at hp
  obtain ⟨rfl, D2⟩ := hp
  have kT := hbP_ok hT
  have X2 := D2.2.2.2.1
  have A2 := D2.fa
  have hol := X2.ol.1
  have hol : s1.out.length ≤ 8000 := hol
  have i23 : h18.1 97 23 = nI s1.out.length := X2.i23
  rw [i23, nI_l (by omega), lN_add, show (8000 : Int64) = lN 8000 from rfl, lgLE (by omega) (by omega)]
  refine ⟨fun c => absurd (A2.eq.mpr rfl) c, fun _ => ⟨fun c8 => M_w261 hL hL3 D2 hB hT (by omega) et, fun c8 => ⟨_, M_fails A2 10 p1 (by decide), fun v28 h27 hp => ?_⟩⟩⟩
  obtain ⟨-, A5, F5⟩ := hp
  have ez : sizP src e p b s1.out.length = .inl (10, p1) := by
    have e1 : tgtP src e p1 s1.out.length = .inl (10, p1) := by
      simp only [tgtP, hT]
      rw [if_pos (by omega)]
    simp only [sizP, hB, e1]
  rw [ez] at et
  exact M_w261F A5 (by decide) (D2.bad (F5.mono (by decide) (by decide) (by decide)) A5 (by decide) (by rw [F5.2.2.2 14 (by decide)]; exact X2.i14) X2.e.1 et) _ _ _ _ _
