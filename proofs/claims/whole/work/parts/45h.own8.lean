/-! an opener at the cell 49: its windows (printed twice by wip/whole/genopen.py) -/
def WS49 (rs : Nat) : List Nat := [49, 50, 53, 56, 59, 62, 65, 24, 25, 26, 21, 22, 23, rs, rs + 1]
def WR49 : List (Nat × Nat) := [(53, 0), (56, 0), (59, 0), (62, 0), (65, 0), (65, 3)]
theorem rv49 {h : Hp} {ra rs e : Nat} {src base : List Nat} {T : Tb} {s : Ost} (X : HV49 h ra rs e src base T s) (h0 : s.ft = 0) (b n q : Nat) (z : Sz) (gb : b % 4 = 0 ∧ n = 0 ∧ q = 0 ∨ b % 4 ≠ 0 ∧ q + n ≤ (if b % 2 = 1 then base.length else s.out.length)) (hz : z.sm + sumN b + z.d + z.c + z.a ≤ e) (htz : z.tz ≤ 8000 - s.out.length) (P : SpV49 h (if b % 4 = 0 ∨ b % 2 = 1 then 8 else rs) q n rs s.out.length) (D : CurV h 53 ra (z.sm + sumN b) (z.sm + sumN b + z.d)) (C : CurV h 56 ra (z.sm + sumN b + z.d) (z.sm + sumN b + z.d + z.c)) (A : CurV h 59 ra (z.sm + sumN b + z.d + z.c) (z.sm + sumN b + z.d + z.c + z.a)) (t17 : h.1 49 17 = nI z.tz) : ∃ cp, RV49 h ra rs (wcP true T src b n z) ((((w0P b z (segL b n q base s.out) s.tl s.ac).snr s.nr).ssm s.sm).snx s.nx) base s.out (if b % 4 = 0 ∨ b % 2 = 1 then 8 else rs) q 0 (-1) cp := by
  obtain ⟨cp, hcp⟩ := nI_sur (h.1 49 18)
  have lb := X.rb.2.2.2.2.1
  have lo := X.ro.2.2.2.2.1
  have ls := X.rr.2.2.2.2.1
  have he := X.e
  have sl := segL_len gb
  have hn : n ≤ 8000 := by
    rcases gb with g | g
    · omega
    · have := g.2; split at this <;> omega
  have hd : (segL b n q base s.out).drop n = [] := List.drop_eq_nil_of_le (by omega)
  refine ⟨cp, RV49.of ⟨X.f, X.b, X.rr, ?_, X.rb, ?_, P, X.t, C, D, A, X.k, X.l, ?_, rfl, X.kN, ?_, ?_, ?_⟩⟩
  · show RowV SH h rs (rs + 1) 8000 (s.out ++ (segL b n q base s.out).drop n) false
    rw [hd, List.append_nil]; exact X.ro
  · show ((if b % 4 = 0 ∨ b % 2 = 1 then 8 else rs) = 8 ∧ (segL b n q base s.out).take n = (base.drop q).take n ∧ q + n ≤ base.length) ∨ ((if b % 4 = 0 ∨ b % 2 = 1 then 8 else rs) = rs ∧ (segL b n q base s.out).take n = (s.out.drop q).take n ∧ q + n ≤ s.out.length)
    rcases gb with ⟨g0, g1, g2⟩ | ⟨g0, g1⟩
    · subst g1; subst g2
      exact Or.inl ⟨by rw [if_pos (Or.inl g0)], by simp, by omega⟩
    · unfold segL
      rw [if_neg g0]
      by_cases g2 : b % 2 = 1
      · rw [if_pos g2] at g1
        exact Or.inl ⟨by rw [if_pos (Or.inr g2)], by rw [if_pos g2, List.take_take, Nat.min_self], g1⟩
      · rw [if_neg g2] at g1
        exact Or.inr ⟨by rw [if_neg (by omega)], by rw [if_neg g2, List.take_take, Nat.min_self], g1⟩
  · have o := X.o
    rw [h0, if_pos rfl] at o
    exact ⟨o.2.1, o.2.2.1, o.2.2.2.1, t17, hcp.symm, o.2.2.2.2⟩
  · refine WcOk.of ⟨?_, ?_, ?_, hn, ?_, ls, X.t.2.2.2.2.2.2.1, X.t.2.2.2.2.2.2.2, X.rr.bys, X.g, X.t.2.2.2.1, X.t.2.2.1.bys⟩
    · show z.sm + sumN b + z.d ≤ src.length
      omega
    · show z.sm + sumN b + z.d + z.c ≤ src.length
      omega
    · show z.sm + sumN b + z.d + z.c + z.a ≤ src.length
      omega
    · show z.tz ≤ 8000
      omega
  · refine WOk.of ⟨?_, ?_, ?_, ?_, ?_, X.nr, X.sm, X.nx, X.ac, ?_⟩
    · show z.sm + sumN b + z.d ≤ z.sm + sumN b + z.d + z.c
      omega
    · show z.sm + sumN b ≤ z.sm + sumN b + z.d
      omega
    · show z.sm + sumN b + z.d + z.c ≤ z.sm + sumN b + z.d + z.c + z.a
      omega
    · show n ≤ (segL b n q base s.out).length
      omega
    · show (segL b n q base s.out).length ≤ n + z.tz
      omega
    · show ∀ x ∈ segL b n q base s.out, x < 256
      intro x hx
      unfold segL at hx
      split at hx
      · cases hx
      split at hx
      · exact X.rb.bys x (List.mem_of_mem_drop (List.mem_of_mem_take hx))
      · exact X.ro.bys x (List.mem_of_mem_drop (List.mem_of_mem_take hx))
  · show s.out.length + z.tz ≤ 8000
    omega
theorem hvRan49 {h h1 : Hp} {ra rs e : Nat} {src base : List Nat} {T : Tb} {s : Ost} (X : HV49 h ra rs e src base T s) (F : Fr (62 :: RS49 rs) h h1) {c : Wc} {r : Nat × Nat × Wst} {x y z n gr q cp : Nat} (R : RV49 h1 ra rs c (((r.2.2.sca x).sda y).saa z) base s.out gr q r.1 (if r.1 = 0 then -1 else nI r.2.1) cp) (hc : c.T = T) (hn : c.ss = n) (hft : r.1 < 17) : HV49 h1 ra rs e src base T (s.ran n s.fa r) := by
  have b := X.b
  subst hc; subst hn
  refine HV49.of ⟨R.f, b, X.rr.fr F (by simp [RS49]; omega) (by simp [RS49]; omega), R.ro, R.rb, R.t, X.cf.fr F (by simp [RS49]; omega), R.k, R.l, ?_, X.kN, X.e, R.W.nr, R.W.sm, R.W.nx, R.W.ac, X.g, hft⟩
  have o := R.o
  exact ⟨by rw [F.1]; exact X.o.1, o.1, o.2.1, o.2.2.1, o.2.2.2.2.2⟩
theorem readWindows49 {w : Wd} {h : Hp} {ra rs e : Nat} {src base : List Nat} {T : Tb} {s : Ost} (X : HV49 h ra rs e src base T s) : C_X7_readWindows w SH 49 h (fun h1 => (∃ p, HV49 h1 ra rs e src base T ((winsP true T base src e (e - s.fa) s).sfa p)) ∧ Rg (WS49 rs) WR49 h h1) := by
  have bb := X.b
  have ls := X.rr.2.2.2.2.1
  have he := X.e
  generalize ht : winsP true T base src e (e - s.fa) s = tot
  refine K_X7_readWindows nlt_wf (fun m x0 x1 h' => x0 = 49 ∧ ∃ k s' p n, x1 = nI k ∧ k ≤ 8000 ∧ m = 8000 - k ∧ HV49 h' ra rs e src base T (s'.sfa p) ∧ (s'.ft = 0 → p = s'.fa ∧ k ≤ s'.fa ∧ e - s'.fa ≤ n) ∧ winsP true T base src e n s' = tot ∧ Rg (WS49 rs) WR49 h h') ?_ ?_
  · intro y1 e1
    exact ⟨8000, rfl, 0, s, s.fa, e - s.fa, e1, by omega, rfl, X, fun _ => ⟨rfl, by omega, by omega⟩, ht, Rg.rf⟩
  · rintro m x0 x1 h' ⟨rfl, k, s', p, n, rfl, hk, rfl, Y, hq, et, F⟩
    have stop : s'.ft ≠ 0 ∨ e ≤ s'.fa → (∃ p, HV49 h' ra rs e src base T (tot.sfa p)) ∧ Rg (WS49 rs) WR49 h h' := by
      intro hs
      rw [winsP_stop hs] at et
      subst et
      exact ⟨⟨p, Y⟩, F⟩
    refine ⟨fun c7 => stop ?_, fun c7 => ⟨rfl, fun c8 => stop (Or.inl fun q => c8 (by rw [Y.o.2.2.1, show (s'.sfa p).ft = s'.ft from rfl, q]; rfl)), fun c8 => ?_⟩⟩
    · rw [show (8000 : Int32) = nI 8000 from rfl, nI_leI (by omega) (by omega)] at c7
      by_cases q : s'.ft = 0
      · have := hq q; omega
      · exact Or.inl q
    rw [show (8000 : Int32) = nI 8000 from rfl, nI_leI (by omega) (by omega)] at c7
    have hft := Y.ft
    rw [Y.o.2.2.1, nIz (by omega)] at c8
    have h0 : s'.ft = 0 := c8
    obtain ⟨rfl, hkf, hn⟩ := hq h0
    have Y : HV49 h' ra rs e src base T s' := Y
    have hfe := Y.e
    refine ⟨by rw [k49_4 Y.f]; rfl, _, by rw [k49_4 Y.f]; exact S_left Y.cf Y.e.1, fun v9 h8 hp => ?_⟩
    obtain ⟨rfl, rfl⟩ := hp
    rw [show (0 : Int32) = nI 0 from rfl, nI_leI (by omega) (by omega)]
    refine ⟨fun c9 => stop (Or.inr (by omega)), fun c9 => ⟨by rw [k49_4 Y.f]; rfl, fun y12 e12 => ⟨_, by rw [k49_4 Y.f]; exact S_next Y.cf Y.rr Y.e.2 Y.e.1, fun v18 h17 hp y19 e19 => ?_⟩⟩⟩
    rw [k49_4 Y.f, Y.cf.2.2.1] at e12
    subst e12; subst e19
    obtain ⟨q1, q2, F1⟩ := hp
    obtain ⟨rfl, V1⟩ := q1 (by omega)
    have Y1 := Y.mvF (F1.rg _) V1 (by omega)
    have F1 : Rg (WS49 rs) WR49 h h17 := F.tr (F1.up (by simp [WS49]))
    have hx : src.getD s'.fa 0 < 256 := getD_lt Y.rr.bys _
    have hn1 : n = (n - 1) + 1 := by omega
    have et : winsP true T base src e (n - 1) (windowP true T base src e s') = tot := by
      rw [hn1, winsP, if_neg (by omega)] at et
      exact et
    have hfa := windowP_fa (own := true) (T := T) (base := base) (src := src) (e := e) (s := s') (by omega)
    generalize hwp : windowP true T base src e s' = s'' at et hfa
    unfold windowP at hwp
    simp only [] at hwp
    generalize hbb : src.getD s'.fa 0 = b at hx hwp
    have fail6 : (7 < b ∨ b % 4 = 3) → ∀ L2 : Nat → Int32 → Hp → Prop, V_X7_readWindows_55 w SH 49 (nI s'.fa) h17 L2 (fun h1 => (∃ p, HV49 h1 ra rs e src base T (tot.sfa p)) ∧ Rg (WS49 rs) WR49 h h1) := by
      intro hbad L2
      rw [if_pos hbad] at hwp
      subst hwp
      refine ⟨rfl, _, S_fail rfl 6 _, fun v6 h5 hp => ?_⟩
      obtain ⟨rfl, rfl⟩ := hp
      obtain ⟨B1, B2, B3⟩ := Y1.bad 6 s'.fa (by decide) (by decide)
      rw [winsP_stop (Or.inl (by show (6 : Nat) ≠ 0; decide))] at et
      subst et
      exact ⟨⟨s'.fa + 1, B1⟩, F1.tr (B2.up (by simp [WS49]))⟩
    rw [show (7 : Int32) = nI 7 from rfl, nI_ltI (by omega) (by omega)]
    refine ⟨fun c10 => fail6 (Or.inl c10) _, fun c10 => ?_⟩
    have hb8 : b < 8 := by omega
    rw [and3 b hb8, show (3 : Int32) = nI 3 from rfl, nI_eq (by omega) (by omega)]
    refine ⟨fun c11 => ⟨by rw [k49_2 Y1.f]; rfl, _, by rw [k49_2 Y1.f]; exact S_count (lc49 Y1.f) Y1.l 0 1 (by decide), fun h27 hp => ?_⟩, fun c11 => fail6 (Or.inr c11) _⟩
    rw [if_neg (by omega)] at hwp
    obtain ⟨V2, F2⟩ := hp
    have Y2 : HV49 h27 ra rs e src base T (((s'.stl (cntP true s'.tl 0 1))).sfa (s'.fa + 1)) := Y1.lg ((F2.mono (by decide)).rg _) V2 Y1.ac
    have F2 := F1.tr (F2.up (by simp [WS49]))
    generalize hs1 : (s'.stl (cntP true s'.tl 0 1) : Ost) = s1 at hwp Y2
    have hs1f : s1.ft = 0 := by rw [← hs1]; exact h0
    have hs1o : s1.out = s'.out := by rw [← hs1]
    have again : ∀ (h9 : Hp) (p9 : Nat), HV49 h9 ra rs e src base T (s''.sfa p9) → (s''.ft = 0 → p9 = s''.fa) → Rg (WS49 rs) WR49 h h9 → V_X7_readWindows_93 w SH 49 (nI k) h9 (fun x0 x1 h_1 => ∃ a, a < 8000 - k ∧ x0 = 49 ∧ ∃ k s' p n, x1 = nI k ∧ k ≤ 8000 ∧ a = 8000 - k ∧ HV49 h_1 ra rs e src base T (s'.sfa p) ∧ (s'.ft = 0 → p = s'.fa ∧ k ≤ s'.fa ∧ e - s'.fa ≤ n) ∧ winsP true T base src e n s' = tot ∧ Rg (WS49 rs) WR49 h h_1) (fun h1 => (∃ p, HV49 h1 ra rs e src base T (tot.sfa p)) ∧ Rg (WS49 rs) WR49 h h1) := by
      intro h9 p9 Y9 hp9 F9 y1 e1
      refine ⟨8000 - (k + 1), by omega, rfl, k + 1, s'', p9, n - 1, by rw [e1, nI_1], by omega, rfl, Y9, fun q => ⟨hp9 q, ?_, ?_⟩, et, F9⟩
      · have := hfa q; omega
      · have := hfa q; omega
    refine ⟨_, readSegment49 Y2 b hb8, fun v32 h31 hp => ?_⟩
    obtain ⟨S3, O3, F3⟩ := hp
    have F3 := F2.tr (F3.mono (by simp [WS49]) (by simp [WR49]))
    rw [show (s1.sfa (s'.fa + 1)).fa = s'.fa + 1 from rfl, show (s1.sfa (s'.fa + 1)).out = s1.out from rfl, hs1o] at S3
    cases hS : segP src e (s'.fa + 1) b base.length s'.out.length with
    | inl x =>
      obtain ⟨f, q⟩ := x
      rw [hS] at S3 hwp
      simp only [] at hwp
      obtain ⟨rfl, hf, p, Z⟩ := S3
      subst hwp
      exact ⟨fun _ => again _ p Z (fun q => absurd q hf) F3, fun c12 => absurd rfl c12⟩
    | inr x =>
    obtain ⟨sn, sq, p1⟩ := x
    rw [hS] at S3 hwp
    simp only [] at hwp
    obtain ⟨rfl, Z, SP⟩ := S3
    have gS := segP_ok hS (by omega)
    have Z : HV49 h31 ra rs e src base T (s1.sfa p1) := Z
    refine ⟨fun c12 => absurd c12 (by decide), fun _ => ⟨_, readSizes49 Z b hb8, fun v38 h37 hp => ?_⟩⟩
    obtain ⟨S4, O4, F4⟩ := hp
    have SP4 : SpV49 h37 (if b % 4 = 0 ∨ b % 2 = 1 then 8 else rs) sq sn rs s1.out.length := by
      unfold SpV49 at SP ⊢
      rw [F4.2.1 65 0 (by decide), F4.2.1 65 3 (by decide), F4.1 65 (by decide), hs1o]
      exact SP
    have F4 := F3.tr (F4.mono (by simp [WS49]) (by simp [WR49]))
    rw [show (s1.sfa p1).fa = p1 from rfl, show (s1.sfa p1).out = s1.out from rfl, hs1o] at S4
    cases hZ : sizP src e p1 b s'.out.length with
    | inl x =>
      obtain ⟨f, q⟩ := x
      rw [hZ] at S4 hwp
      simp only [] at hwp
      obtain ⟨rfl, hf, p, Z4⟩ := S4
      subst hwp
      exact ⟨fun _ => again _ p Z4 (fun q => absurd q hf) F4, fun c12 => absurd rfl c12⟩
    | inr z =>
    rw [hZ] at S4 hwp
    simp only [] at hwp
    obtain ⟨rfl, Z4, D4, C4, A4, S4', t4⟩ := S4
    have gZ := sizP_ok hZ
    generalize hP : z.sm + sumN b + z.d + z.c + z.a = P at Z4
    obtain ⟨cp, R⟩ := rv49 Z4 hs1f b sn sq z (by show _ ∨ _ ∧ _ ≤ (if b % 2 = 1 then base.length else s1.out.length); rw [hs1o]; exact gS.2.2) gZ.2.1 (by show z.tz ≤ 8000 - s1.out.length; rw [hs1o]; exact gZ.2.2) SP4 D4 C4 A4 t4
    have hsum : CurV h37 62 ra z.sm (z.sm + if decide (4 ≤ b) = true then 4 else 0) := by
      have : sumN b = (if decide (4 ≤ b) = true then 4 else 0) := by unfold sumN; simp
      rw [← this]; exact S4'
    have hsl : z.sm + (if decide (4 ≤ b) = true then 4 else 0) ≤ src.length := by
      have : sumN b = (if decide (4 ≤ b) = true then 4 else 0) := by unfold sumN; simp
      rw [← this]; omega
    refine ⟨fun c12 => absurd c12 (by decide), fun _ => ⟨_, runWindow49 R (decide (4 ≤ b)) z.sm hsum hsl, fun h43 hp => ?_⟩⟩
    obtain ⟨⟨x', y', z', cp', R5⟩, F5⟩ := hp
    have hw0 : wiped ((((w0P b z (segL b sn sq base (s1.sfa P).out) (s1.sfa P).tl (s1.sfa P).ac).snr (s1.sfa P).nr).ssm (s1.sfa P).sm).snx (s1.sfa P).nx) = w0P b z (segL b sn sq base s1.out) s1.tl s1.ac := rfl
    rw [hw0] at R5
    have hft5 : (runP (wcP true T src b sn z) (decide (4 ≤ b)) z.sm (w0P b z (segL b sn sq base s1.out) s1.tl s1.ac)).1 < 17 := by
      refine runP_ft R.C ?_ _ _
      rw [← hw0]
      have W := R.W
      have nx0 : (0 < (wcP true T src b sn z).T.2.1) ∨ (wcP true T src b sn z).T.2.1 = 0 := by omega
      exact WOk.of ⟨W.ca, W.da, W.aa, W.s1, W.s2, fun _ => (by show (0 : Nat) < 16000; decide), fun _ => (by show (0 : Nat) < 16000; decide), nx0.elim Or.inl (fun q => Or.inr ⟨q, rfl⟩), W.ac, W.by_⟩
    have Z5 := hvRan49 Z4 F5 R5 rfl rfl hft5
    rw [hs1o] at Z5
    subst hwp
    refine again _ P Z5 (fun _ => hP.symm) (F4.tr (F5.up ?_))
    intro c hc
    simp [RS49] at hc
    simp [WS49]
    omega
