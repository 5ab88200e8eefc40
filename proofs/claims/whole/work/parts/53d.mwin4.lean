/-! the reference: a window (my own) -/
def lsP (b : Nat) (base out : List Nat) : List Nat := if b % 2 = 1 then base else out
def I1 (h : Hp) (t tc e : Nat) (own : Bool) (src base : List Nat) (T : Tb) (tot : Ost) (m x0 : Nat) (x1 : Int32) (x5 : Int64) (x7 : Int32) (h2 : Hp) : Prop := x0 = 97 ∧ ∃ (b n q k p1 : Nat) (s1 : Ost), x1 = nI b ∧ x5 = lN q ∧ x7 = nI k ∧ k ≤ n ∧ m = 100000 + (n - k) ∧ b < 8 ∧ b % 4 ≠ 0 ∧ q + n ≤ (lsP b base s1.out).length ∧ s1.ft = 0 ∧ MH h2 t tc e own src base T (s1.sfa p1) ∧ ByV h2 107 (((lsP b base s1.out).drop q).take k) ∧ h2.1 97 25 = nI n ∧ Fm WK WSm AL h h2 ∧ tot = totP own T src b n (segL b n q base s1.out) s1 (sizP src e p1 b s1.out.length)
theorem lsP_seg {b n q : Nat} {base out : List Nat} (h : b % 4 ≠ 0) : segL b n q base out = ((lsP b base out).drop q).take n := by
  unfold segL lsP
  rw [if_neg h]
  split <;> rfl
theorem and1z {b : Nat} (hb : b < 8) : (nI b &&& (1 : Int32) ≤ 0) ↔ ¬ b % 2 = 1 := by
  rw [and1 b hb, show (0 : Int32) = nI 0 from rfl, nI_leI (by omega) (by decide)]
  omega
theorem and3z {b : Nat} (hb : b < 8) : (nI b &&& (3 : Int32) ≤ 0) ↔ b % 4 = 0 := by
  rw [and3 b hb, show (0 : Int32) = nI 0 from rfl, nI_leI (by omega) (by decide)]
  omega
theorem M_w149 {w : Wd} {h : Hp} {t tc e : Nat} {own : Bool} {src base : List Nat} {T : Tb} {tot : Ost} {L362 : Nat → Int32 → Int64 → Int32 → Int64 → Int64 → Int64 → Int64 → Int32 → Int32 → Int64 → Int32 → Hp → Prop} {L547 : Nat → Int64 → Int32 → Hp → Prop} (hL : ∀ m x7 x19 h2, m ≤ 8000 → I5 h t tc e own src base T tot m 97 x7 x19 h2 → L547 97 x7 x19 h2) (hL3 : ∀ m x2 x3 x5 x7 x9 x11 x13 x15 x16 x17 x19 h2, m ≤ 50004 → I3 h t tc e own src base T tot m 97 x2 x3 x5 x7 x9 x11 x13 x15 x16 x17 x19 h2 → L362 97 x2 x3 x5 x7 x9 x11 x13 x15 x16 x17 x19 h2) {m x0 : Nat} {x1 : Int32} {x5 : Int64} {x7 : Int32} {h2 : Hp} (I : I1 h t tc e own src base T tot m x0 x1 x5 x7 h2) : V_X12_window_149 w SH x0 x1 x5 x7 h2 (fun x0 x1 x5 x7 h3 => ∃ a, a < m ∧ I1 h t tc e own src base T tot a x0 x1 x5 x7 h3) L362 L547 (WPost h t tc e own src base T tot) := by
  obtain ⟨rfl, b, n, q, k, p1, s1, rfl, rfl, rfl, hk, rfl, hb8, hb4, hq, h0, X, B, i25, F, et⟩ := I
  have f := X.r.1
  have hol := X.ol.1
  have hol : s1.out.length ≤ 8000 := hol
  have hbl : base.length ≤ 4000 := by rcases X.c16 with q | q <;> omega
  have hll : (lsP b base s1.out).length ≤ 8000 := by unfold lsP; split <;> omega
  have k24 := fx f 97 24 107 (by decide +kernel)
  rw [V_X12_window_149, i25, nI_leI (by omega) (by omega), k24]
  refine ⟨rfl, fun c7 => ?_, fun c7 => ?_⟩
  · have : k = n := by omega
    subst this
    refine M_w202 hL hL3 (n := k) (seg := segL b k q base s1.out) ⟨hb8, ⟨?_, by omega, ?_⟩, h0, X, ?_, i25, F⟩ et
    · rw [lsP_seg hb4]; simp; omega
    · rw [lsP_seg hb4]
      intro x hx
      have hx := List.mem_of_mem_drop (List.mem_of_mem_take hx)
      unfold lsP at hx
      split at hx
      · exact X.bb x hx
      · exact X.ol.2 x hx
    · rw [lsP_seg hb4]; exact B
  · have et1 : ((lsP b base s1.out).drop q).take (k + 1) = ((lsP b base s1.out).drop q).take k ++ [(lsP b base s1.out).getD (q + k) 0] := take_snoc _ q k (by omega)
    have hlen : (((lsP b base s1.out).drop q).take k).length = k := by simp; omega
    have go : ∀ x : Int32, un x = (lsP b base s1.out).getD (q + k) 0 → V_X12_window_195 w SH 97 (nI b) (lN q) (nI k) x (nI k) 107 h2 (fun x0 x1 x5 x7 h3 => ∃ a, a < 100000 + (n - k) ∧ I1 h t tc e own src base T tot a x0 x1 x5 x7 h3) L362 L547 (WPost h t tc e own src base T tot) := by
      intro x ex
      rw [V_X12_window_195, nI_clamp (by omega)]
      refine ⟨16000, rfl, vp_in_nI (by omega) (by decide), fun h4 e4 y6 e6 => ?_⟩
      have F4 : Fm [25, 26] [107] [] h2 h4 := by rw [e4]; exact Fm.rf.putC (by decide) (by decide)
      have B4 : ByV h4 107 (((lsP b base s1.out).drop q).take (k + 1)) := by
        have p := B.push x
        rw [hlen, ex] at p
        rw [et1, e4]; exact p
      refine ⟨100000 + (n - (k + 1)), by omega, rfl, b, n, q, k + 1, p1, s1, rfl, rfl, by rw [e6, nI_1], by omega, rfl, hb8, hb4, hq, h0, X.seg F4, B4, by rw [e4, wI_cell (by decide)]; exact i25, F.tr (F4.mono (by decide) (by decide) (by decide)), et⟩
    rw [and1z hb8, lN_i, nI_add, nI_clamp (by omega)]
    refine ⟨fun c8 => ?_, fun c8 => ?_⟩
    · have el : lsP b base s1.out = s1.out := if_neg c8
      rw [X.c22.2]
      refine ⟨8000, by rcases X.c22.1 with q | q <;> rw [q] <;> rfl, vp_in_nI (by omega) (by decide), go _ ?_⟩
      rw [el]
      have o := X.o
      exact b8_by (bs := s1.out) o (by rw [el] at hq; omega)
    · have el : lsP b base s1.out = base := if_pos (Decidable.not_not.mp c8)
      rw [el] at hq
      rcases X.c16 with ⟨r, l, o⟩ | ⟨r, l, o⟩
      · rw [r]
        refine ⟨4000, rfl, vp_in_nI (by omega) (by decide), go _ ?_⟩
        rw [el]; exact b8_by o (by omega)
      · rw [r]
        refine ⟨1536, rfl, vp_in_nI (by omega) (by decide), go _ ?_⟩
        rw [el]; exact b8_by o (by omega)
theorem M_window {w : Wd} {h : Hp} {t tc e : Nat} {own : Bool} {src base : List Nat} {T : Tb} {s : Ost} (X : MH h t tc e own src base T s) (h0 : s.ft = 0) (hlt : s.fa < e) : C_X12_window w SH 97 h (WPost h t tc e own src base T (windowP own T base src e s)) := by
  have f := X.r.1
  have hls := X.r.2.2.2.1
  have he := X.e
  have hol := X.ol.1
  have hbl : base.length ≤ 4000 := by rcases X.c16 with q | q <;> omega
  have k30 := fx f 97 30 110 (by decide +kernel)
  have A : Fa h 0 0 := by
    have A := X.fa
    rw [h0] at A
    exact ⟨A.1, by decide, fun q => absurd rfl q⟩
  generalize hw : windowP own T base src e s = tot
  unfold windowP at hw
  simp only [] at hw
  refine K_X12_window nlt_wf (I1 h t tc e own src base T tot) (I3 h t tc e own src base T tot) (I5 h t tc e own src base T tot) ?_ ?_ ?_ ?_
  · have hb := getD_lt X.r.2.2.2.2 s.fa
    rw [V_X12_window_0, X.r.2.1, X.i14, nI_clamp (by omega), X.r.at (by omega)]
    refine ⟨rfl, 8000, rfl, vp_in_nI (by omega) (by decide), fun y5 e5 => ?_⟩
    subst e5
    generalize src.getD s.fa 0 = b at hb hw
    have fail6 : (7 < b ∨ b % 4 = 3) → ∀ L149 L362 L547, V_X12_window_27 w SH 97 h L149 L362 L547 (WPost h t tc e own src base T tot) := by
      intro hbad L149 L362 L547
      rw [if_pos hbad] at hw
      refine ⟨rfl, _, by rw [X.i14]; exact M_fails A 6 s.fa (by decide), fun v6 h5 hp => ?_⟩
      obtain ⟨-, A5, F5⟩ := hp
      refine ⟨⟨s.fa, s.out, ?_, fun q => ?_⟩, F5.mono (by decide) (by decide) (by decide)⟩
      · rw [← hw]; exact X.bad F5 A5
      · rw [← hw] at q; exact absurd q (by show (6 : Nat) ≠ 0; decide)
    rw [show (7 : Int32) = nI 7 from rfl, nI_ltI (by omega) (by omega)]
    refine ⟨fun c7 => fail6 (Or.inl c7) _ _ _, fun c7 => ?_⟩
    have hb8 : b < 8 := by omega
    rw [and3 b hb8, show (3 : Int32) = nI 3 from rfl, nI_eq (by omega) (by omega)]
    refine ⟨fun c8 h9 e9 => ?_, fun c8 => fail6 (Or.inr c8) _ _ _⟩
    rw [if_neg (by omega)] at hw
    rw [nI_1] at e9
    rw [k30]
    have F9 : Fm [14, 36, 37] [] [] h h9 := by rw [e9]; exact Fm.rf.put (by decide)
    have X9 : MH h9 t tc e own src base T (s.sfa (s.fa + 1)) := X.at F9 (by rw [e9, wI_same]) (by omega)
    generalize hs1 : (s.stl (cntP own s.tl 0 1) : Ost) = s1 at hw
    have hs1f : s1.ft = 0 := by rw [← hs1]; exact h0
    have hs1o : s1.out = s.out := by rw [← hs1]
    have main : ∀ inc : Nat, (∀ j, cntP own s.tl 0 1 j = if j = 0 then s.tl 0 + inc else s.tl j) → V_X12_window_68 w SH 97 (nI b) (nI inc) (h9.1 110 (0 : Int32).toNatClampNeg) (0 : Int32) 110 h9 (fun x0 x1 x5 x7 hh => ∃ a, I1 h t tc e own src base T tot a x0 x1 x5 x7 hh) (fun x0 x2 x3 x5 x7 x9 x11 x13 x15 x16 x17 x19 hh => ∃ a, I3 h t tc e own src base T tot a x0 x2 x3 x5 x7 x9 x11 x13 x15 x16 x17 x19 hh) (fun x0 x7 x19 hh => ∃ a, I5 h t tc e own src base T tot a x0 x7 x19 hh) (WPost h t tc e own src base T tot) := by
      intro inc htl
      have cl0 : (0 : Int32).toNatClampNeg = 0 := by decide
      refine ⟨8, rfl, vp_in_nI (n := 0) (by decide) (by decide), fun h4 e4 => ⟨rfl, fun h7 e7 => ?_⟩⟩
      rw [cl0, X9.tl 0 (by decide), nI_add] at e4
      have F4 : Fm [] [110] [] h9 h4 := by rw [e4]; exact Fm.rf.putC (by decide) (by decide)
      have X4 : MH h4 t tc e own src base T (s1.sfa (s.fa + 1)) := by
        rw [← hs1]
        refine X9.tell F4 fun j hj => ?_
        rw [e4, wI_if, htl j]
        by_cases q : j = 0
        · rw [if_pos q, if_pos q]
        · rw [if_neg q, if_neg q]; exact X9.tl j hj
      have F7 : Fm [25, 26] [107] [] h4 h7 := by rw [e7]; exact Fm.rf.put (by decide)
      have X7 := X4.seg F7
      have G7 : Fm WK WSm AL h h7 := ((F9.mono (by decide) (by decide) (by decide)).tr (F4.mono (by decide) (by decide) (by decide))).tr (F7.mono (by decide) (by decide) (by decide))
      have D7 : WD h t tc e own src base T b 0 [] s1 (s.fa + 1) h7 := ⟨hb8, ⟨rfl, by omega, fun x hx => absurd hx (by simp)⟩, hs1f, X7, fun j hj => absurd hj (by simp), by rw [e7, wI_same]; rfl, G7⟩
      rw [and3z hb8]
      refine ⟨fun c9 => ?_, fun c9 => ?_⟩
      · have hS : segP src e (s.fa + 1) b base.length s.out.length = .inr (0, 0, s.fa + 1) := by simp [segP, c9]
        rw [hS] at hw
        refine M_w202 (fun m x7 x19 h2 _ q => ⟨m, q⟩) (fun m x2 x3 x5 x7 x9 x11 x13 x15 x16 x17 x19 h2 _ q => ⟨m, q⟩) D7 ?_
        rw [← hw, hs1o]
        have hz : segL b 0 0 base s.out = [] := by simp [segL, c9]
        simp only []
        rw [hz]
        unfold totP
        cases sizP src e (s.fa + 1) b s.out.length with
        | inl x => obtain ⟨f, q⟩ := x; rfl
        | inr z => rfl
      · have j14 : h7.1 97 14 = nI (s.fa + 1) := X7.i14
        intro y10 e10
        rw [j14] at e10
        subst e10
        obtain ⟨P, c1, k1⟩ := D7.head (w := w)
        refine ⟨P, c1, fun v16 h15 hp y17 e17 => ?_⟩
        replace hp := k1 _ _ hp
        subst e17
        cases hB : hbP src e (s.fa + 1) with
        | inl x =>
          obtain ⟨f', p'⟩ := x
          rw [hB] at hp
          obtain ⟨rfl, A2, hf, r⟩ := hp
          have r := r tot (by rw [← hw]; simp [segP, c9, hB])
          refine ⟨_, M_headBigF A2 hf, fun v23 h22 hp y24 e24 => ?_⟩
          obtain ⟨-, e1⟩ := hp
          obtain rfl := e1.symm
          exact ⟨fun c => absurd (A2.le.mp c) hf, fun _ => r⟩
        | inr x =>
        obtain ⟨n, p1⟩ := x
        rw [hB] at hp
        obtain ⟨rfl, D1⟩ := hp
        have kB := hbP_ok hB
        obtain ⟨P, c1, k1⟩ := D1.head (w := w)
        refine ⟨P, c1, fun v23 h22 hp y24 e24 => ?_⟩
        replace hp := k1 _ _ hp
        subst e24
        cases hC : hbP src e p1 with
        | inl x =>
          obtain ⟨f', p'⟩ := x
          rw [hC] at hp
          obtain ⟨rfl, A2, hf, r⟩ := hp
          have r := r tot (by rw [← hw]; simp [segP, c9, hB, hC])
          exact ⟨fun c => absurd (A2.le.mp c) hf, fun _ => r⟩
        | inr x =>
        obtain ⟨q, p2⟩ := x
        rw [hC] at hp
        obtain ⟨rfl, D2⟩ := hp
        have kC := hbP_ok hC
        have X2 := D2.2.2.2.1
        have A2 := D2.fa
        have i23 : h22.1 97 23 = nI s.out.length := by rw [← hs1o]; exact X2.i23
        have i17 : h22.1 97 17 = nI base.length := X2.i17
        have fin : ∀ len : Nat, len = (lsP b base s.out).length → V_X12_window_126 w SH 97 (nI b) (nI (s.fa + 1)) (lN n) (lN q) (nI len) (lN n + lN q) h22 (fun x0 x1 x5 x7 hh => ∃ a, I1 h t tc e own src base T tot a x0 x1 x5 x7 hh) (fun x0 x2 x3 x5 x7 x9 x11 x13 x15 x16 x17 x19 hh => ∃ a, I3 h t tc e own src base T tot a x0 x2 x3 x5 x7 x9 x11 x13 x15 x16 x17 x19 hh) (fun x0 x7 x19 hh => ∃ a, I5 h t tc e own src base T tot a x0 x7 x19 hh) (WPost h t tc e own src base T tot) := by
          intro len el
          have hl8 : len ≤ 8000 := by rw [el]; unfold lsP; split <;> omega
          have el2 : (if b % 2 = 1 then base.length else s.out.length) = len := by rw [el]; unfold lsP; split <;> rfl
          rw [V_X12_window_126, lN_add, nI_l (by omega), lgLE (by omega) (by omega)]
          refine ⟨fun c10 => ⟨rfl, fun h3 e3 y5 e5 => ?_⟩, fun c10 => ⟨rfl, _, M_fails A2 7 (s.fa + 1) (by decide), fun v12 h11 hp => ?_⟩⟩
          · have hS : segP src e (s.fa + 1) b base.length s.out.length = .inr (n, q, p2) := by
              simp only [segP, if_neg c9, hB, hC]
              rw [el2, if_neg (by omega)]
            rw [hS] at hw
            rw [lN_i] at e3
            have F3 : Fm [25, 26] [107] [] h22 h3 := by rw [e3]; exact Fm.rf.put (by decide)
            refine ⟨100000 + (n - 0), rfl, b, n, q, 0, p2, s1, rfl, rfl, e5, by omega, rfl, hb8, c9, by rw [hs1o, ← el]; omega, hs1f, X2.seg F3, by rw [List.take_zero]; exact fun j hj => absurd hj (by simp), by rw [e3, wI_same], D2.2.2.2.2.2.2.tr (F3.mono (by decide) (by decide) (by decide)), ?_⟩
            rw [← hw, hs1o]
            simp only []
            unfold totP
            cases sizP src e p2 b s.out.length with
            | inl x => obtain ⟨f, q⟩ := x; rfl
            | inr z => rfl
          · obtain ⟨-, A5, F5⟩ := hp
            have hS : segP src e (s.fa + 1) b base.length s.out.length = .inl (7, s.fa + 1) := by
              simp only [segP, if_neg c9, hB, hC]
              rw [el2, if_pos (by omega)]
            rw [hS] at hw
            exact D2.bad (F5.mono (by decide) (by decide) (by decide)) A5 (by decide) (by rw [F5.2.2.2 14 (by decide)]; exact X2.i14) X2.e.1 hw.symm
        rw [i23, i17, and1z hb8]
        refine ⟨fun _ => ⟨fun c10 => fin _ (by unfold lsP; rw [if_neg c10]), fun c10 => fin _ (by unfold lsP; rw [if_pos (Decidable.not_not.mp c10)])⟩, fun c => absurd (A2.le.mpr rfl) c⟩
    have i19 : h9.1 97 19 = (if own = true then 1 else 0) := X9.i19
    rw [i19]
    refine ⟨8, rfl, vp_in_nI (n := 0) (by decide) (by decide), fun c9 => main 0 fun j => ?_, fun c9 => main 1 fun j => ?_⟩
    · have ho : own = false := by
        cases own with
        | false => rfl
        | true => rw [if_pos rfl] at c9; exact absurd c9 (by decide)
      rw [ho]
      unfold cntP
      rw [if_neg (by simp)]
      split
      · rename_i q; rw [q]; rfl
      · rfl
    · have ho : own = true := by
        cases own with
        | true => rfl
        | false => rw [if_neg (by simp)] at c9; exact absurd rfl c9
      rw [ho]
      unfold cntP
      rw [if_pos rfl]
      rfl
  · intro m x0 x1 x5 x7 h2 I
    obtain ⟨hx0, b, n, q, k, p1, s1, r⟩ := id I
    have hm : 100000 ≤ m := by have := r.2.2.2.2.1; omega
    exact M_w149 (fun m2 x7 x19 h2 hm2 q => ⟨m2, by omega, q⟩) (fun m2 x2 x3 x5 x7 x9 x11 x13 x15 x16 x17 x19 h2 hm2 q => ⟨m2, by omega, q⟩) I
  · intro m x0 x2 x3 x5 x7 x9 x11 x13 x15 x16 x17 x19 h2 I
    have hm : 50000 ≤ m := by
      obtain ⟨hx0, b, n, p, fo, p1, tz, d, c, a, p5, k, seg, s1, r⟩ := id I
      have := r.2.2.2.2.2.2.2.2.2.2.2.2.1
      have := r.2.2.2.2.2.2.2.2.2.2.2.1
      omega
    exact M_w362 (fun m2 x7 x19 h2 hm2 q => ⟨m2, by omega, q⟩) I
  · intro m x0 x7 x19 h2 I
    exact M_w547 I
