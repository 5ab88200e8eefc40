/-! the reference: a window's sizes (my own) -/
def WD (h : Hp) (t tc e : Nat) (own : Bool) (src base : List Nat) (T : Tb) (b n : Nat) (seg : List Nat) (s1 : Ost) (q : Nat) (h1 : Hp) : Prop := b < 8 ∧ (seg.length = n ∧ n ≤ 8000 ∧ ∀ x ∈ seg, x < 256) ∧ s1.ft = 0 ∧ MH h1 t tc e own src base T (s1.sfa q) ∧ ByV h1 107 seg ∧ h1.1 97 25 = nI n ∧ Fm WK WSm AL h h1
theorem MH.hb {h h1 : Hp} {t tc e : Nat} {own : Bool} {src base : List Nat} {T : Tb} {s : Ost} (X : MH h t tc e own src base T s) (F : Fm [6, 7, 14, 36, 37] [] [] h h1) {f q p : Nat} (A : Fa h1 f q) (V : h1.1 97 14 = nI p) (hp : p ≤ e) : MH h1 t tc e own src base T ((s.sfa p).bad f q) := MH.of ⟨X.r.fm F (by decide), ⟨X.t.1, X.t.2.fm F (by decide) (by decide) (by decide)⟩, V, by rw [F.2.2.2 15 (by decide)]; exact X.i15, by rw [F.2.2.2 17 (by decide)]; exact X.i17, by rw [F.2.2.2 18 (by decide)]; exact X.i18, by rw [F.2.2.2 19 (by decide)]; exact X.i19, by rw [F.2.2.2 23 (by decide)]; exact X.i23, by rw [F.2.2.2 29 (by decide)]; exact X.i29, by rw [F.1]; exact X.c16.imp (fun q => ⟨q.1, q.2.1, F.by_ q.2.2 (by decide) (by decide)⟩) (fun q => ⟨q.1, q.2.1, F.by_ q.2.2 (by decide) (by decide)⟩), by rw [F.1]; exact X.c22, F.by_ X.o (by have := X.c22.1; omega) (by simp), X.ol, by rw [F.2.1 108 (by decide)]; exact X.nr, by rw [F.2.1 109 (by decide)]; exact X.sm, by rw [F.2.2.1 110 (by decide) (by decide)]; exact X.tl, X.ac.fm F (by decide) (by decide) (by decide) (by decide) (by decide), ⟨hp, X.e.2⟩, X.hn, X.hs, X.nx, X.g, A, X.bb⟩
theorem WD.hb {h h1 h2 : Hp} {t tc e : Nat} {own : Bool} {src base : List Nat} {T : Tb} {b n : Nat} {seg : List Nat} {s1 : Ost} {q : Nat} (D : WD h t tc e own src base T b n seg s1 q h1) (F : Fm [6, 7, 14, 36, 37] [] [] h1 h2) (A : Fa h2 0 0) {q' : Nat} (V : h2.1 97 14 = nI q') (hq : q' ≤ e) : WD h t tc e own src base T b n seg s1 q' h2 := by
  obtain ⟨d1, d2, d3, X, B, i, G⟩ := D
  refine ⟨d1, d2, d3, ?_, F.by_ B (by decide) (by decide), by rw [F.2.2.2 25 (by decide)]; exact i, G.tr (F.mono (by decide) (by decide) (by decide))⟩
  have Y := X.hb F (f := 0) (q := s1.pl) ⟨A.1, by decide, fun q => absurd rfl q⟩ V hq
  have e3 : ((s1.sfa q).sfa q').bad 0 s1.pl = s1.sfa q' := by
    show (q', s1.out, s1.nr, s1.sm, s1.nx, s1.tl, s1.ac, 0, s1.pl) = (q', s1.out, s1.nr, s1.sm, s1.nx, s1.tl, s1.ac, s1.ft, s1.pl)
    rw [d3]
  rw [e3] at Y
  exact Y
theorem WD.bad {h h1 h2 : Hp} {t tc e : Nat} {own : Bool} {src base : List Nat} {T : Tb} {b n : Nat} {seg : List Nat} {s1 : Ost} {q : Nat} (D : WD h t tc e own src base T b n seg s1 q h1) (F : Fm [6, 7, 14, 36, 37] [] [] h1 h2) {f p q' : Nat} (A : Fa h2 f p) (hf : f ≠ 0) (V : h2.1 97 14 = nI q') (hq : q' ≤ e) {tot : Ost} (et : tot = s1.bad f p) : WPost h t tc e own src base T tot h2 := by
  obtain ⟨d1, d2, d3, X, B, i, G⟩ := D
  refine ⟨⟨q', s1.out, ?_, fun q => ?_⟩, G.tr (F.mono (by decide) (by decide) (by decide))⟩
  · rw [et]
    exact X.hb F A V hq
  · rw [et] at q
    exact absurd q hf
theorem M_w406 {w : Wd} {h : Hp} {t tc e : Nat} {own : Bool} {src base : List Nat} {T : Tb} {tot s1 : Ost} {L149 : Nat → Int32 → Int64 → Int32 → Hp → Prop} {L362 : Nat → Int32 → Int64 → Int32 → Int64 → Int64 → Int64 → Int64 → Int32 → Int32 → Int64 → Int32 → Hp → Prop} {L547 : Nat → Int64 → Int32 → Hp → Prop} (hL : ∀ m x7 x19 h2, m ≤ 8000 → I5 h t tc e own src base T tot m 97 x7 x19 h2 → L547 97 x7 x19 h2) {h1 : Hp} {b n tz d c a p5 p fo p1 : Nat} {seg : List Nat} (D : WD h t tc e own src base T b n seg s1 (p5 + sumN b) h1) (htz : tz ≤ 8000 - s1.out.length) (hd : fo ≤ 4294967295 ∧ d ≤ 4294967295 ∧ c ≤ 4294967295 ∧ a ≤ 4294967295) (hp1 : p1 ≤ p5 + sumN b) (et : tot = totP own T src b n seg s1 (if fo ≠ p5 + sumN b - p1 + (d + c + a) then .inl (8, p) else if e < p5 + sumN b + (d + c + a) then .inl (1, e) else .inr (tz, d, c, a, p5))) (x15 : Int32) (e15 : x15 = (if 4 ≤ b then 1 else 0)) (x17 : Int64) (e17 : 4 ≤ b → x17 = lN (sumGo src p5 4)) : V_X12_window_406 w SH 97 (nI p) (lN fo) (nI p1) (lN tz) (lN d) (lN c) (lN a) x15 (nI p5) x17 h1 L149 L362 L547 (WPost h t tc e own src base T tot) := by
  obtain ⟨d1, d2, d3, X, B, i25, F⟩ := id D
  have hls := X.r.2.2.2.1
  have he := X.e
  have he1 : p5 + sumN b ≤ e := he.1
  have A := X.fa
  have A : Fa h1 s1.ft s1.pl := A
  rw [d3] at A
  have i14 : h1.1 97 14 = nI (p5 + sumN b) := X.i14
  refine ⟨rfl, fun c7 => absurd (A.eq.mpr rfl) c7, fun _ => ?_⟩
  rw [i14, pk_sub hp1, nI_l (by omega), lN_add, lN_add, lN_add, lgEQ (by omega) (by omega)]
  refine ⟨fun c8 => ?_, fun c8 => ⟨_, M_fails A 8 p (by decide), fun v8 h7 hp => ?_⟩⟩
  · rw [if_neg (by omega)] at et
    exact M_w443 hL d1 d2 X d3 htz (by omega) B i25 F et x15 e15 x17 e17
  · obtain ⟨-, A7, F7⟩ := hp
    rw [if_pos (by omega)] at et
    exact M_w443F A7 (by decide) (D.bad (F7.mono (by decide) (by decide) (by decide)) A7 (by decide) (by rw [F7.2.2.2 14 (by decide)]; exact i14) he1 et) _ _ _ _ _ _ _
def sz5 (e p b fo p1 tz d c a p5 : Nat) : Sum (Nat × Nat) Sz := if e < p5 + sumN b then .inl (1, e) else if fo ≠ p5 + sumN b - p1 + (d + c + a) then .inl (8, p) else if e < p5 + sumN b + (d + c + a) then .inl (1, e) else .inr (tz, d, c, a, p5)
def I3 (h : Hp) (t tc e : Nat) (own : Bool) (src base : List Nat) (T : Tb) (tot : Ost) (m x0 : Nat) (x2 : Int32) (x3 : Int64) (x5 : Int32) (x7 x9 x11 x13 : Int64) (x15 x16 : Int32) (x17 : Int64) (x19 : Int32) (h2 : Hp) : Prop := x0 = 97 ∧ ∃ (b n p fo p1 tz d c a p5 k : Nat) (seg : List Nat) (s1 : Ost), x2 = nI p ∧ x3 = lN fo ∧ x5 = nI p1 ∧ x7 = lN tz ∧ x9 = lN d ∧ x11 = lN c ∧ x13 = lN a ∧ x15 = 1 ∧ x16 = nI p5 ∧ x17 = lN (sumGo src p5 k) ∧ x19 = nI k ∧ k ≤ 4 ∧ m = 50004 - k ∧ 4 ≤ b ∧ WD h t tc e own src base T b n seg s1 (p5 + k) h2 ∧ p5 + 4 ≤ e ∧ tz ≤ 8000 - s1.out.length ∧ (fo ≤ 4294967295 ∧ d ≤ 4294967295 ∧ c ≤ 4294967295 ∧ a ≤ 4294967295) ∧ p1 ≤ p5 ∧ tot = totP own T src b n seg s1 (sz5 e p b fo p1 tz d c a p5)
theorem sumN4 {b : Nat} (h : 4 ≤ b) : sumN b = 4 := if_pos h
theorem sumN0 {b : Nat} (h : ¬ 4 ≤ b) : sumN b = 0 := if_neg h
theorem M_w362 {w : Wd} {h : Hp} {t tc e : Nat} {own : Bool} {src base : List Nat} {T : Tb} {tot : Ost} {L149 : Nat → Int32 → Int64 → Int32 → Hp → Prop} {L547 : Nat → Int64 → Int32 → Hp → Prop} (hL : ∀ m x7 x19 h2, m ≤ 8000 → I5 h t tc e own src base T tot m 97 x7 x19 h2 → L547 97 x7 x19 h2) {m x0 : Nat} {x2 : Int32} {x3 : Int64} {x5 : Int32} {x7 x9 x11 x13 : Int64} {x15 x16 : Int32} {x17 : Int64} {x19 : Int32} {h2 : Hp} (I : I3 h t tc e own src base T tot m x0 x2 x3 x5 x7 x9 x11 x13 x15 x16 x17 x19 h2) : V_X12_window_362 w SH x0 x2 x3 x5 x7 x9 x11 x13 x15 x16 x17 x19 h2 L149 (fun x0 x2 x3 x5 x7 x9 x11 x13 x15 x16 x17 x19 h3 => ∃ a, a < m ∧ I3 h t tc e own src base T tot a x0 x2 x3 x5 x7 x9 x11 x13 x15 x16 x17 x19 h3) L547 (WPost h t tc e own src base T tot) := by
  obtain ⟨rfl, b, n, p, fo, p1, tz, d, c, a, p5, k, seg, s1, rfl, rfl, rfl, rfl, rfl, rfl, rfl, rfl, rfl, rfl, rfl, hk, rfl, h4, D, h5, htz, hd, hp1, et⟩ := I
  obtain ⟨d1, d2, d3, X, B, i25, F⟩ := id D
  have hls := X.r.2.2.2.1
  have he := X.e.2
  have i14 : h2.1 97 14 = nI (p5 + k) := X.i14
  rw [V_X12_window_362, show (4 : Int32) = nI 4 from rfl, nI_leI (by omega) (by omega)]
  refine ⟨fun c7 => ?_, fun c7 => ⟨rfl, ?_⟩⟩
  · have : k = 4 := by omega
    subst this
    unfold sz5 at et
    rw [if_neg (by rw [sumN4 h4]; omega)] at et
    refine M_w406 hL (by rw [sumN4 h4]; exact D) htz hd (by omega) et 1 (by rw [if_pos h4]) _ (fun _ => rfl)
  · rw [X.r.2.1, i14, nI_clamp (by omega), X.r.at (by omega), nI_1]
    refine ⟨8000, rfl, vp_in_nI (by omega) (by decide), fun y6 e6 h8 e8 y10 e10 => ?_⟩
    have hb := getD_lt X.r.2.2.2.2 (p5 + k)
    have hs := sumGo_lt X.r.2.2.2.2 p5 k
    have hs4 : sumGo src p5 k < 2 ^ 32 := Nat.lt_of_lt_of_le hs (by
      have : 256 ^ k ≤ 256 ^ 4 := Nat.pow_le_pow_right (by decide) hk
      omega)
    rw [nI_l (by omega), show (8 : Int32) = nI 8 from rfl, wb_shl _ (by decide), g_or (k := 8) (p := 2 ^ 8) rfl (by omega) (by omega)] at e6
    have F8 : Fm [6, 7, 14, 36, 37] [] [] h2 h8 := by rw [e8]; exact Fm.rf.put (by decide)
    have A := X.fa
    have A : Fa h2 s1.ft s1.pl := A
    have A8 : Fa h8 0 0 := ⟨by rw [e8, wI_idx (by decide), A.1, d3], by decide, fun q => absurd rfl q⟩
    refine ⟨50004 - (k + 1), by omega, rfl, b, n, p, fo, p1, tz, d, c, a, p5, k + 1, seg, s1, rfl, rfl, rfl, rfl, rfl, rfl, rfl, rfl, rfl, e6, by rw [e10, nI_1], by omega, rfl, h4, D.hb F8 A8 (by rw [e8, wI_same]; rfl) (by omega), h5, htz, hd, hp1, et⟩
theorem M_w333 {w : Wd} {h : Hp} {t tc e : Nat} {own : Bool} {src base : List Nat} {T : Tb} {tot s1 : Ost} {L149 : Nat → Int32 → Int64 → Int32 → Hp → Prop} {L362 : Nat → Int32 → Int64 → Int32 → Int64 → Int64 → Int64 → Int64 → Int32 → Int32 → Int64 → Int32 → Hp → Prop} {L547 : Nat → Int64 → Int32 → Hp → Prop} (hL : ∀ m x7 x19 h2, m ≤ 8000 → I5 h t tc e own src base T tot m 97 x7 x19 h2 → L547 97 x7 x19 h2) (hL3 : ∀ m x2 x3 x5 x7 x9 x11 x13 x15 x16 x17 x19 h2, m ≤ 50004 → I3 h t tc e own src base T tot m 97 x2 x3 x5 x7 x9 x11 x13 x15 x16 x17 x19 h2 → L362 97 x2 x3 x5 x7 x9 x11 x13 x15 x16 x17 x19 h2) {h1 : Hp} {b n tz d c a p5 p fo p1 : Nat} {seg : List Nat} (D : WD h t tc e own src base T b n seg s1 p5 h1) (htz : tz ≤ 8000 - s1.out.length) (hd : fo ≤ 4294967295 ∧ d ≤ 4294967295 ∧ c ≤ 4294967295 ∧ a ≤ 4294967295) (hp1 : p1 ≤ p5) (et : tot = totP own T src b n seg s1 (sz5 e p b fo p1 tz d c a p5)) (s0 : Int32) (e0 : s0 = (if 4 ≤ b then 1 else 0)) : V_X12_window_333 w SH 97 (nI p) (lN fo) (nI p1) (lN tz) (lN d) (lN c) (lN a) s0 h1 L149 L362 L547 (WPost h t tc e own src base T tot) := by
  obtain ⟨d1, d2, d3, X, B, i25, F⟩ := id D
  have hls := X.r.2.2.2.1
  have he := X.e
  have he1 : p5 ≤ e := he.1
  have A := X.fa
  have A : Fa h1 s1.ft s1.pl := A
  rw [d3] at A
  have i14 : h1.1 97 14 = nI p5 := X.i14
  intro y1 e1
  subst e1
  refine ⟨rfl, fun y4 e4 y6 e6 => ⟨fun c7 => ?_, fun c7 => ⟨_, M_wants A (fun _ => ⟨i14, X.i15, he1, by omega⟩) 4 (by decide), fun v13 h12 hp => ?_⟩⟩⟩
  · rw [i14] at e4
    subst e4
    have h4 : ¬ 4 ≤ b := fun q => by rw [e0, if_pos q] at c7; exact absurd c7 (by decide)
    unfold sz5 at et
    rw [if_neg (by rw [sumN0 h4]; omega)] at et
    exact M_w406 hL (by rw [sumN0 h4]; exact D) htz hd (by omega) et _ e0 _ (fun q => absurd q h4)
  · rw [i14] at e4
    subst e4
    have h4 : 4 ≤ b := by
      by_cases q : 4 ≤ b
      · exact q
      · rw [e0, if_neg q] at c7; exact absurd rfl c7
    obtain ⟨-, w1, F12⟩ := hp
    have w1 := w1 rfl
    by_cases g : e < p5 + 4
    · rw [if_pos g] at w1
      obtain ⟨rfl, A12⟩ := w1
      unfold sz5 at et
      rw [if_pos (by rw [sumN4 h4]; exact g)] at et
      exact ⟨fun _ => M_w406F A12 (by decide) (D.bad (F12.mono (by decide) (by decide) (by decide)) A12 (by decide) (by rw [F12.2.2.2 14 (by decide)]; exact i14) he1 et) _ _ _ _ _ _ _ _ _ _, fun c8 => absurd rfl c8⟩
    · rw [if_neg g] at w1
      obtain ⟨rfl, e5⟩ := w1
      obtain rfl := e5.symm
      refine ⟨fun c8 => absurd c8 (by decide), fun _ y15 e15 => hL3 50004 _ _ _ _ _ _ _ _ _ _ _ _ (by omega) ⟨rfl, b, n, p, fo, p1, tz, d, c, a, p5, 0, seg, s1, rfl, rfl, rfl, rfl, rfl, rfl, rfl, by rw [e0, if_pos h4], rfl, e6, e15, by omega, rfl, h4, D, by omega, htz, hd, hp1, et⟩⟩
