/-! the reference: a window's end (my own) -/
theorem M_adler {w : Wd} {h : Hp} {a N : Nat} {l : List Nat} (hs : shAt SH a = some (.inl (0, N))) (hN : l.length ≤ N ∧ N < 2 ^ 30) (B : ByV h a l) (p n : Nat) (hp : p + n ≤ l.length) : C_X12_adler w SH a (nI p) (nI n) h (fun v h1 => h1 = h ∧ v = lN (adl ((l.drop p).take n))) := by
  refine K_X12_adler nlt_wf (fun m x0 x1 x2 x3 x5 x7 h' => x0 = a ∧ h' = h ∧ x1 = nI p ∧ x2 = nI n ∧ ∃ (q : Nat × Nat) (k : Nat), m = n - k ∧ k ≤ n ∧ x7 = nI k ∧ x3 = lN q.1 ∧ x5 = lN q.2 ∧ q.1 < 65521 ∧ q.2 < 65521 ∧ ((l.drop (p + k)).take (n - k)).foldl adlS q = ((l.drop p).take n).foldl adlS (1, 0)) ?_ ?_
  · intro y1 e1 y3 e3 y5 e5
    exact ⟨n, rfl, rfl, rfl, rfl, (1, 0), 0, rfl, by omega, e5, e1, e3, by decide, by decide, rfl⟩
  · rintro m x0 x1 x2 x3 x5 x7 h' ⟨rfl, rfl, rfl, rfl, q, k, rfl, hk, rfl, rfl, rfl, q1, q2, ef⟩
    rw [V_X12_adler_8, nI_leI (by omega) (by omega)]
    refine ⟨fun c7 => ⟨rfl, ?_⟩, fun c7 => ⟨N, hs, ?_, fun y5 e5 y7 e7 y9 e9 => ?_⟩⟩
    · have : k = n := by omega
      subst this
      rw [Nat.sub_self, List.take_zero] at ef
      have ef : q = ((l.drop p).take k).foldl adlS (1, 0) := ef
      unfold adl
      rw [← ef, show (65536 : Int64) = lN 65536 from rfl, lN_mul, lN_add]
    · rw [nI_add]; exact vp_in_nI (by omega) (by omega)
    · rw [nI_add, nI_clamp (by omega), b8_un, B (p + k) (by omega)] at e5
      have hb : l[p + k] < 256 := by rw [← B (p + k) (by omega)]; exact un_lt _
      rw [nI_l (by omega), lN_add, show (65521 : Int64) = lN 65521 from rfl, pk_lRem (by omega) (by decide) (by decide)] at e5
      subst e5
      rw [lN_add, show (65521 : Int64) = lN 65521 from rfl, pk_lRem (by omega) (by decide) (by decide)] at e7
      subst e7
      have hk2 : p + k < l.length := by omega
      refine ⟨n - (k + 1), by omega, rfl, rfl, rfl, rfl, adlS q l[p + k], k + 1, rfl, by omega, by rw [e9, nI_1], rfl, rfl, Nat.mod_lt _ (by decide), Nat.mod_lt _ (by decide), ?_⟩
      rw [← ef, show n - k = (n - (k + 1)) + 1 by omega, List.drop_eq_getElem_cons hk2, List.take_succ_cons]
      rfl
theorem M_wantsF {w : Wd} {h : Hp} {f q : Nat} (A : Fa h f q) (hf : f ≠ 0) (x : Int64) : C_X12_wants w SH 97 x h (fun v h1 => v = 0 ∧ h1 = h) :=
  K_X12_wants ⟨rfl, fun _ => ⟨rfl, rfl⟩, fun c => absurd (A.eq.mp c) hf⟩
theorem MH.ran {h h1 h5 : Hp} {t tc e : Nat} {own : Bool} {src base : List Nat} {T : Tb} {s : Ost} (X : MH h t tc e own src base T s) (F : Fm TK AS AL h h1) {c : Wc} {r : Nat × Nat × Wst} {x y z n P : Nat} (R : MR h5 t c (((r.2.2.sca x).sda y).saa z)) (A : Fa h5 r.1 r.2.1) (e1 : h1 = wI h5 97 14 (nI P)) (hP : P ≤ e) (hT : c.T = T) : MH h1 t tc e own src base T ((s.ran n P r).sout s.out) := by
  subst hT
  have F5 : Fm [14, 36, 37] [] [] h5 h1 := by rw [e1]; exact Fm.rf.put (by decide)
  have k : ∀ k, k ≠ 14 → h1.1 97 k = h5.1 97 k := fun k hk => by rw [e1, wI_idx hk]
  have c2 := X.c22.1
  refine MH.of ⟨X.r.fm F (by decide), ⟨X.t.1, X.t.2.fm F (by decide) (by decide) (by decide)⟩, by rw [e1, wI_same]; rfl, by rw [F.2.2.2 15 (by decide)]; exact X.i15, by rw [F.2.2.2 17 (by decide)]; exact X.i17, by rw [F.2.2.2 18 (by decide)]; exact X.i18, by rw [F.2.2.2 19 (by decide)]; exact X.i19, by rw [F.2.2.2 23 (by decide)]; exact X.i23, by rw [k 29 (by decide)]; exact R.i29, ?_, by rw [F.1]; exact X.c22, F.by_ X.o (by omega) (by rcases c2 with q | q <;> rw [q] <;> decide), X.ol, ?_, ?_, ?_, R.ac.fm F5 (by decide) (by decide) (by decide) (by decide) (by decide), ⟨hP, X.e.2⟩, R.W.nr, R.W.sm, R.W.nx, X.g, A.fm F5 (by decide) (by decide), X.bb⟩
  · rw [F.1]; exact X.c16.imp (fun q => ⟨q.1, q.2.1, F.by_ q.2.2 (by decide) (by decide)⟩) (fun q => ⟨q.1, q.2.1, F.by_ q.2.2 (by decide) (by decide)⟩)
  · rw [F5.2.1 108 (by decide)]; exact R.nr
  · rw [F5.2.1 109 (by decide)]; exact R.sm
  · rw [F5.2.2.1 110 (by decide) (by decide)]; exact R.tl
theorem tgM_full (c : Wc) (s : Wst) : (tgM c s).1 = 0 → c.ss + c.tz ≤ (tgM c s).2.2.sp.length := by
  unfold tgM
  simp only []
  generalize codesP c (c.cE - s.ca) s = r
  split
  · rename_i q; exact fun e => absurd e q
  split
  · exact fun e => absurd e (by show (15 : Nat) ≠ 0; decide)
  · rename_i q; intro _; omega
def WK : List Nat := [6, 7, 14, 23, 25, 26, 29, 31, 36, 37, 38, 39, 40, 41]
def WSm : List Nat := [105, 106, 107, 110, 111, 112, 113, 114]
def WPost (h : Hp) (t tc e : Nat) (own : Bool) (src base : List Nat) (T : Tb) (tot : Ost) (h1 : Hp) : Prop := (∃ p o', MH h1 t tc e own src base T ((tot.sfa p).sout o') ∧ (tot.ft = 0 → p = tot.fa ∧ o' = tot.out)) ∧ Fm WK WSm AL h h1
def I5 (h : Hp) (t tc e : Nat) (own : Bool) (src base : List Nat) (T : Tb) (tot : Ost) (m x0 : Nat) (x7 : Int64) (x19 : Int32) (h2 : Hp) : Prop := x0 = 97 ∧ ∃ (tz ss k : Nat) (l : List Nat) (st : Ost), x7 = lN tz ∧ tz ≤ 8000 ∧ x19 = nI k ∧ k ≤ tz ∧ m = tz - k ∧ ss ≤ 8000 ∧ st.sout tot.out = tot ∧ (st.ft = 0 → tot.out = st.out ++ l.drop ss ∧ l.length = ss + tz ∧ st.out.length + tz ≤ 8000) ∧ (st.ft ≠ 0 → k = 0) ∧ MH h2 t tc e own src base T (st.sout (st.out ++ (l.drop ss).take k)) ∧ ByV h2 107 l ∧ h2.1 97 25 = nI ss ∧ Fm WK WSm AL h h2
theorem M_w547 {w : Wd} {h : Hp} {t tc e : Nat} {own : Bool} {src base : List Nat} {T : Tb} {tot : Ost} {L149 : Nat → Int32 → Int64 → Int32 → Hp → Prop} {L362 : Nat → Int32 → Int64 → Int32 → Int64 → Int64 → Int64 → Int64 → Int32 → Int32 → Int64 → Int32 → Hp → Prop} {m x0 : Nat} {x7 : Int64} {x19 : Int32} {h2 : Hp} (I : I5 h t tc e own src base T tot m x0 x7 x19 h2) : V_X12_window_547 w SH x0 x7 x19 h2 L149 L362 (fun x0 x7 x19 h3 => ∃ a, a < m ∧ I5 h t tc e own src base T tot a x0 x7 x19 h3) (WPost h t tc e own src base T tot) := by
  obtain ⟨rfl, tz, ss, k, l, st, rfl, htz, rfl, hk, rfl, hss, es, e0, ef, X, B, i25, F⟩ := I
  have hfa : tot.fa = st.fa := by rw [← es]
  have hft : tot.ft = st.ft := by rw [← es]
  have stop : st.ft ≠ 0 → WPost h t tc e own src base T tot h2 := by
    intro q
    refine ⟨⟨st.fa, st.out ++ (l.drop ss).take k, ?_, fun q2 => absurd (hft.symm.trans q2) q⟩, F⟩
    rw [← es]; exact X
  rw [V_X12_window_547, nI_l (by omega), lgGE (by omega) (by omega)]
  have A := X.fa
  have A : Fa h2 st.ft st.pl := A
  refine ⟨fun c7 => ?_, fun c7 => ⟨rfl, fun c8 => stop fun q => c8 (A.eq.mpr q), fun c8 => ?_⟩⟩
  · by_cases q : st.ft = 0
    · obtain ⟨eo, el, -⟩ := e0 q
      have : k = tz := by omega
      subst this
      rw [List.take_of_length_le (by simp; omega), ← eo] at X
      refine ⟨⟨tot.fa, tot.out, ?_, fun _ => ⟨rfl, rfl⟩⟩, F⟩
      have e2 : (tot.sfa tot.fa).sout tot.out = st.sout tot.out := es.symm
      rw [e2]; exact X
    · exact stop q
  · have q := A.eq.mp c8
    obtain ⟨eo, el, e8⟩ := e0 q
    have f := X.r.1
    have k24 := fx f 97 24 107 (by decide +kernel)
    have k22 : h2.2.1 97 22 = tc := X.c22.2
    have htc : shAt SH tc = some (.inl (0, 8000)) := by rcases X.c22.1 with q | q <;> rw [q] <;> rfl
    have hkl : (st.out ++ (l.drop ss).take k).length = st.out.length + k := by simp; omega
    have i23 : h2.1 97 23 = nI (st.out.length + k) := by rw [← hkl]; exact X.i23
    rw [k24, k22, i23, i25, nI_add, nI_clamp (by omega), nI_clamp (by omega)]
    refine ⟨16000, rfl, vp_in_nI (by omega) (by decide), 8000, htc, vp_in_nI (by omega) (by decide), fun h10 e10 h12 e12 y14 e14 => ?_⟩
    have htc97 : tc ≠ 97 := by rcases X.c22.1 with q | q <;> omega
    have htcS : tc ∈ [105, 106] := by rcases X.c22.1 with q | q <;> simp [q]
    have j23 : h10.1 97 23 = nI (st.out.length + k) := by rw [e10, wI_cell (Ne.symm htc97)]; exact i23
    rw [j23, nI_1] at e12
    have F12 : Fm [23] [105, 106] [] h2 h12 := by
      rw [e12, e10]; exact (Fm.rf.putC htc97 htcS).put (by decide)
    have hkd : k < (l.drop ss).length := by simp; omega
    have et : (l.drop ss).take (k + 1) = (l.drop ss).take k ++ [l.getD (ss + k) 0] := take_snoc l ss k (by omega)
    have B12 : ByV h12 tc (st.out ++ (l.drop ss).take (k + 1)) := by
      have o := X.o
      have p := ByV.push (h := h2) (a := tc) o (b8 (h2.1 107 (ss + k)))
      rw [hkl, b8_by B (by omega)] at p
      have p2 := p.of (h1 := h12) (by rw [e12, e10]; exact wI_cell htc97)
      rw [et, ← List.append_assoc]
      exact p2
    have X12 := X.out (l := st.out ++ (l.drop ss).take (k + 1)) F12 (by rw [e12, wI_same]; congr 1; simp; omega) B12 ⟨by simp; omega, ?_⟩
    · refine ⟨tz - (k + 1), by omega, rfl, tz, ss, k + 1, l, st, rfl, htz, by rw [e14, nI_1], by omega, rfl, hss, es, e0, fun q2 => absurd q q2, X12, F12.by_ B (by decide) (by decide), by rw [F12.2.2.2 25 (by decide)]; exact i25, F.tr (F12.mono (by decide) (by decide) (by decide))⟩
    · intro b hb
      rw [et, ← List.append_assoc] at hb
      rcases List.mem_append.mp hb with q | q
      · exact X.ol.2 b q
      · rw [List.mem_singleton.mp q, ← b8_by B (by omega)]; exact un_lt _
theorem M_w544 {w : Wd} {h : Hp} {t tc e : Nat} {own : Bool} {src base : List Nat} {T : Tb} {tot : Ost} {L149 : Nat → Int32 → Int64 → Int32 → Hp → Prop} {L362 : Nat → Int32 → Int64 → Int32 → Int64 → Int64 → Int64 → Int64 → Int32 → Int32 → Int64 → Int32 → Hp → Prop} {L547 : Nat → Int64 → Int32 → Hp → Prop} (hL : ∀ m x7 x19 h2, m ≤ 8000 → I5 h t tc e own src base T tot m 97 x7 x19 h2 → L547 97 x7 x19 h2) {h1 : Hp} {tz ss : Nat} {l : List Nat} {st : Ost} (htz : tz ≤ 8000) (hss : ss ≤ 8000) (es : st.sout tot.out = tot) (e0 : st.ft = 0 → tot.out = st.out ++ l.drop ss ∧ l.length = ss + tz ∧ st.out.length + tz ≤ 8000) (X : MH h1 t tc e own src base T st) (B : ByV h1 107 l) (i25 : h1.1 97 25 = nI ss) (F : Fm WK WSm AL h h1) : V_X12_window_544 w SH 97 (lN tz) h1 L149 L362 L547 (WPost h t tc e own src base T tot) := by
  intro y1 e1
  refine hL tz _ _ _ htz ⟨rfl, tz, ss, 0, l, st, rfl, htz, e1, by omega, rfl, hss, es, e0, fun _ => rfl, ?_, B, i25, F⟩
  rw [List.take_zero, List.append_nil]; exact X
theorem M_w443F {w : Wd} {h : Hp} {R : Hp → Prop} {L149 : Nat → Int32 → Int64 → Int32 → Hp → Prop} {L362 : Nat → Int32 → Int64 → Int32 → Int64 → Int64 → Int64 → Int64 → Int32 → Int32 → Int64 → Int32 → Hp → Prop} {L547 : Nat → Int64 → Int32 → Hp → Prop} {f q : Nat} (A : Fa h f q) (hf : f ≠ 0) (r : R h) (x7 x9 x11 x13 : Int64) (x15 x16 : Int32) (x17 : Int64) : V_X12_window_443 w SH 97 x7 x9 x11 x13 x15 x16 x17 h L149 L362 L547 R := by
  refine ⟨rfl, _, M_wantsF A hf _, fun v6 h5 hp => ?_⟩
  obtain ⟨rfl, e1⟩ := hp
  obtain rfl := e1.symm
  exact ⟨fun c => absurd rfl c, fun _ => r⟩
theorem M_w406F {w : Wd} {h : Hp} {R : Hp → Prop} {L149 : Nat → Int32 → Int64 → Int32 → Hp → Prop} {L362 : Nat → Int32 → Int64 → Int32 → Int64 → Int64 → Int64 → Int64 → Int32 → Int32 → Int64 → Int32 → Hp → Prop} {L547 : Nat → Int64 → Int32 → Hp → Prop} {f q : Nat} (A : Fa h f q) (hf : f ≠ 0) (r : R h) (x2 : Int32) (x3 : Int64) (x5 : Int32) (x7 x9 x11 x13 : Int64) (x15 x16 : Int32) (x17 : Int64) : V_X12_window_406 w SH 97 x2 x3 x5 x7 x9 x11 x13 x15 x16 x17 h L149 L362 L547 R :=
  ⟨rfl, fun _ => M_w443F A hf r _ _ _ _ _ _ _, fun c => absurd (A.eq.mp c) hf⟩
theorem M_w333F {w : Wd} {h : Hp} {R : Hp → Prop} {L149 : Nat → Int32 → Int64 → Int32 → Hp → Prop} {L362 : Nat → Int32 → Int64 → Int32 → Int64 → Int64 → Int64 → Int64 → Int32 → Int32 → Int64 → Int32 → Hp → Prop} {L547 : Nat → Int64 → Int32 → Hp → Prop} {f q : Nat} (A : Fa h f q) (hf : f ≠ 0) (r : R h) (x2 : Int32) (x3 : Int64) (x5 : Int32) (x7 x9 x11 x13 : Int64) (s0 : Int32) : V_X12_window_333 w SH 97 x2 x3 x5 x7 x9 x11 x13 s0 h L149 L362 L547 R := by
  intro y1 e1
  refine ⟨rfl, fun y4 e4 y6 e6 => ⟨fun _ => M_w406F A hf r _ _ _ _ _ _ _ _ _ _, fun _ => ⟨_, M_wantsF A hf _, fun v13 h12 hp => ?_⟩⟩⟩
  obtain ⟨rfl, e1⟩ := hp
  obtain rfl := e1.symm
  exact ⟨fun _ => M_w406F A hf r _ _ _ _ _ _ _ _ _ _, fun c => absurd rfl c⟩
/-- the window's data before its sizes are known: what is owed -/
def totP (own : Bool) (T : Tb) (src : List Nat) (b n : Nat) (seg : List Nat) (s1 : Ost) (r : Sum (Nat × Nat) Sz) : Ost := match r with
  | .inl (f, q) => s1.bad f q
  | .inr z => s1.ran n (z.sm + sumN b + z.d + z.c + z.a) (runP (wcP own T src b n z) (decide (4 ≤ b)) z.sm (w0P b z seg s1.tl s1.ac))
theorem M_w443 {w : Wd} {h : Hp} {t tc e : Nat} {own : Bool} {src base : List Nat} {T : Tb} {tot s1 : Ost} {L149 : Nat → Int32 → Int64 → Int32 → Hp → Prop} {L362 : Nat → Int32 → Int64 → Int32 → Int64 → Int64 → Int64 → Int64 → Int32 → Int32 → Int64 → Int32 → Hp → Prop} {L547 : Nat → Int64 → Int32 → Hp → Prop} (hL : ∀ m x7 x19 h2, m ≤ 8000 → I5 h t tc e own src base T tot m 97 x7 x19 h2 → L547 97 x7 x19 h2) {h1 : Hp} {b n tz d c a p5 : Nat} {seg : List Nat} (hb : b < 8) (hseg : seg.length = n ∧ n ≤ 8000 ∧ ∀ x ∈ seg, x < 256) (X : MH h1 t tc e own src base T (s1.sfa (p5 + sumN b))) (h0 : s1.ft = 0) (htz : tz ≤ 8000 - s1.out.length) (hd : d + c + a < 2 ^ 40) (B : ByV h1 107 seg) (i25 : h1.1 97 25 = nI n) (F : Fm WK WSm AL h h1) (et : tot = totP own T src b n seg s1 (if e < p5 + sumN b + (d + c + a) then .inl (1, e) else .inr (tz, d, c, a, p5))) (x15 : Int32) (e15 : x15 = (if 4 ≤ b then 1 else 0)) (x17 : Int64) (e17 : 4 ≤ b → x17 = lN (sumGo src p5 4)) : V_X12_window_443 w SH 97 (lN tz) (lN d) (lN c) (lN a) x15 (nI p5) x17 h1 L149 L362 L547 (WPost h t tc e own src base T tot) := by
  have hls := X.r.2.2.2.1
  have he := X.e
  have he1 : p5 + sumN b ≤ e := he.1
  have hol := X.ol.1
  have hol : s1.out.length ≤ 8000 := hol
  have A := X.fa
  have A : Fa h1 s1.ft s1.pl := A
  rw [h0] at A
  have i14 : h1.1 97 14 = nI (p5 + sumN b) := X.i14
  refine ⟨rfl, _, by rw [lN_add, lN_add]; exact M_wants A (fun _ => ⟨i14, X.i15, he.1, by omega⟩) (d + c + a) (by omega), fun v6 h5 hp => ?_⟩
  obtain ⟨-, w1, F5⟩ := hp
  have w1 := w1 rfl
  by_cases g : e < p5 + sumN b + (d + c + a)
  · rw [if_pos g] at w1 et
    obtain ⟨rfl, A5⟩ := w1
    refine ⟨fun c7 => absurd rfl c7, fun _ => ⟨⟨p5 + sumN b, s1.out, ?_, fun q => ?_⟩, F.tr (F5.mono (by decide) (by decide) (by decide))⟩⟩
    · have := X.bad F5 A5
      rw [et]; exact this
    · rw [et] at q
      exact absurd q (by show (1 : Nat) ≠ 0; decide)
  rw [if_neg g] at w1 et
  obtain ⟨rfl, e5⟩ := w1
  obtain rfl := e5.symm
  refine ⟨fun _ => ?_, fun c7 => absurd c7 (by decide)⟩
  have tgt := M_target (w := w) (h := h1) (t := t) (c := wcP own T src b n (tz, d, c, a, p5)) (s := w0P b (tz, d, c, a, p5) seg s1.tl s1.ac) X.r ⟨X.t.1, X.t.2⟩ X.i18 X.i19 i25 B hseg.1 X.tl X.ac (WcOk.of ⟨by show p5 + sumN b + d ≤ src.length; omega, by show p5 + sumN b + d + c ≤ src.length; omega, by show p5 + sumN b + d + c + a ≤ src.length; omega, hseg.2.1, by show tz ≤ 8000; omega, hls, X.t.2.2.2.2.1, X.t.2.2.2.2.2.1, X.r.2.2.2.2, X.g, X.t.2.2.2.2.2.2.1, X.t.2.2.2.2.2.2.2⟩) (WOk.of ⟨by show p5 + sumN b + d ≤ p5 + sumN b + d + c; omega, by show p5 + sumN b ≤ p5 + sumN b + d; omega, by show p5 + sumN b + d + c ≤ p5 + sumN b + d + c + a; omega, by show n ≤ seg.length; omega, by show seg.length ≤ n + tz; omega, fun _ => (by show (0 : Nat) < 16000; decide), fun _ => (by show (0 : Nat) < 16000; decide), by show 0 < T.2.1 ∨ (T.2.1 = 0 ∧ 0 = 0); omega, X.ac.2.1, hseg.2.2⟩) rfl rfl rfl ⟨A.1, by decide, fun q => absurd rfl q⟩ rfl rfl
  generalize hr : runP (wcP own T src b n (tz, d, c, a, p5)) (decide (4 ≤ b)) p5 (w0P b (tz, d, c, a, p5) seg s1.tl s1.ac) = r
  have et : tot = s1.ran n (p5 + sumN b + d + c + a) r := by rw [et, ← hr]; rfl
  rw [runP_tg] at hr
  have hfull := tgM_full (wcP own T src b n (tz, d, c, a, p5)) (w0P b (tz, d, c, a, p5) seg s1.tl s1.ac)
  generalize tgM (wcP own T src b n (tz, d, c, a, p5)) (w0P b (tz, d, c, a, p5) seg s1.tl s1.ac) = tg at tgt hr hfull
  have hfull : tg.1 = 0 → n + tz ≤ tg.2.2.sp.length := hfull
  rw [i14, lN_i, lN_i, lN_add, lN_i, lN_add, lN_i, nI_add, nI_add, nI_add]
  refine ⟨_, by
    have q1 : p5 + sumN b + (d + c) = p5 + sumN b + d + c := by omega
    have q2 : p5 + sumN b + (d + c + a) = p5 + sumN b + d + c + a := by omega
    rw [q1, q2]
    exact tgt, fun h11 hp => ?_⟩
  obtain ⟨⟨h9, x, y, z, R, A9, e11⟩, F11⟩ := hp
  have X11 := X.ran (n := n) F11 R A9 e11 (by show p5 + sumN b + d + c + a ≤ e; omega) rfl
  have A11 := X11.fa
  have A11 : Fa h11 tg.1 tg.2.1 := A11
  have sp11 : ByV h11 107 tg.2.2.sp := by rw [e11]; exact R.sp.of (wI_cell (by decide))
  have j25 : h11.1 97 25 = nI n := by rw [F11.2.2.2 25 (by decide)]; exact i25
  have G11 : Fm WK WSm AL h h11 := F.tr (F11.mono (by decide) (by decide) (by decide))
  have ws := R.W.s2
  have ws : tg.2.2.sp.length ≤ n + tz := ws
  have k24 := fx X11.r.1 97 24 107 (by decide +kernel)
  have done : tg.1 ≠ 0 → r = tg → V_X12_window_544 w SH 97 (lN tz) h11 L149 L362 L547 (WPost h t tc e own src base T tot) := by
    intro q er
    refine M_w544 hL (l := []) (st := ((s1.sfa (p5 + sumN b)).ran n (p5 + sumN b + d + c + a) tg).sout s1.out) (by omega) hseg.2.1 ?_ (fun q2 => absurd q2 q) X11 (fun j hj => absurd hj (by simp)) j25 G11
    rw [et, er]; rfl
  refine ⟨fun c7 => ?_, fun c7 => ?_⟩
  · have q : tg.1 ≠ 0 := fun q => c7 (A11.eq.mpr q)
    rw [if_pos q] at hr
    exact done q hr.symm
  · have q := A11.eq.mp c7
    rw [if_neg (not_not_intro q)] at hr
    have full : tg.2.2.sp.length = n + tz := by
      have := hfull q
      omega
    have fin : ∀ h17 : Hp, h17 = h11 → r = tg → V_X12_window_544 w SH 97 (lN tz) h17 L149 L362 L547 (WPost h t tc e own src base T tot) := by
      intro h17 e17 er
      subst e17
      refine M_w544 hL (l := tg.2.2.sp) (st := ((s1.sfa (p5 + sumN b)).ran n (p5 + sumN b + d + c + a) tg).sout s1.out) (by omega) hseg.2.1 ?_ (fun _ => ⟨?_, full, by show s1.out.length + tz ≤ 8000; omega⟩) X11 sp11 j25 G11
      · rw [et, er]; rfl
      · rw [et, er]; rfl
    rw [k24, j25]
    have ad := M_adler (w := w) (h := h11) (a := 107) (N := 16000) (l := tg.2.2.sp) rfl ⟨by omega, by decide⟩ sp11 n tz (by omega)
    rw [List.take_of_length_le (by simp; omega)] at ad
    refine ⟨fun c8 => fin h11 rfl ?_, fun c8 => ⟨_, ad, fun v18 h17 hp => ?_⟩⟩
    · rw [e15] at c8
      have h4 : ¬ 4 ≤ b := fun q4 => by rw [if_pos q4] at c8; exact absurd c8 (by decide)
      rw [← hr, if_neg (by simp [h4])]
    · obtain ⟨e1, e2⟩ := hp
      obtain rfl := e1.symm
      subst e2
      have h4 : 4 ≤ b := by
        rw [e15] at c8
        by_cases q4 : 4 ≤ b
        · exact q4
        · rw [if_neg q4] at c8; exact absurd rfl c8
      have hb1 := sumGo_lt X.r.2.2.2.2 p5 4
      have hb2 := adl_lt (tg.2.2.sp.drop n)
      rw [e17 h4, lgEQ (by omega) (by omega)]
      have hr : (if decide (4 ≤ b) = true ∧ sumGo src p5 4 ≠ adl (tg.2.2.sp.drop n) then (16, p5, tg.2.2) else tg) = r := hr
      refine ⟨fun c9 => fin h11 rfl ?_, fun c9 => ⟨_, M_fails (q := tg.2.1) (by rw [← q]; exact A11) 16 p5 (by decide), fun v24 h23 hp => ?_⟩⟩
      · rw [← hr, if_neg (fun q => q.2 c9)]
      · obtain ⟨-, A23, F23⟩ := hp
        have X23 := X11.bad F23 A23
        rw [if_pos ⟨by simpa using h4, c9⟩] at hr
        refine M_w544 hL (l := []) (st := (((s1.sfa (p5 + sumN b)).ran n (p5 + sumN b + d + c + a) tg).sout s1.out).bad 16 p5) (by omega) hseg.2.1 ?_ (fun q2 => absurd q2 (by show (16 : Nat) ≠ 0; decide)) X23 (fun j hj => absurd hj (by simp)) (by rw [F23.2.2.2 25 (by decide)]; exact j25) (G11.tr (F23.mono (by decide) (by decide) (by decide)))
        rw [et, ← hr]; rfl
