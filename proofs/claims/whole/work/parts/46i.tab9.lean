/-! an opener at the cell 70: its head, appendix and beginning (printed twice by wip/whole/genopen.py) -/
theorem readTable70 {w : Wd} {h : Hp} {ra rs e : Nat} {src base : List Nat} {T : Tb} {s : Ost} (X : HV70 h ra rs e src base T s) : C_X7_readTableHead w SH 70 h (fun h1 => (match tabHP src e s.fa with
    | .inl (f, q) => f ≠ 0 ∧ ∃ p, HV70 h1 ra rs e src base T ((s.sfa p).bad f q)
    | .inr (n, q) => HV70 h1 ra rs e src base T (s.sfa (q + 2)) ∧ h1.1 70 15 = nI q ∧ h1.1 70 16 = nI n) ∧ Ok 70 [12, 13, 15, 16] h h1 ∧ Fr [70, 77] h h1) := by
  have hls := X.rr.2.2.2.2.1
  refine K_X7_readTableHead ⟨rfl, _, readBig70 X, fun v6 h5 hp y7 e7 => ?_⟩
  subst e7
  obtain ⟨S1, O1, F1⟩ := hp
  have O1 : Ok 70 [12, 13, 15, 16] h h5 := O1.mono (by decide)
  cases hB : hbP src e s.fa with
  | inl x =>
    obtain ⟨f, q⟩ := x
    rw [hB] at S1
    obtain ⟨hv, hf, p, Z⟩ := S1
    refine ⟨by rw [k70_4 Z.f]; rfl, fun h10 e10 => ⟨fun _ => ?_, fun c8 => absurd (lneg_cmp hv) c8⟩⟩
    subst e10
    refine ⟨?_, O1.put (by decide), F1.put (by simp)⟩
    rw [show tabHP src e s.fa = .inl (f, q) by simp [tabHP, hB]]
    exact ⟨hf, p, Z.put 15 _ (by decide) (by decide) (by decide)⟩
  | inr x =>
  obtain ⟨n, q⟩ := x
  rw [hB] at S1
  obtain ⟨rfl, Z⟩ := S1
  have hk := hbP_ok hB
  have Z : HV70 h5 ra rs e src base T (s.sfa q) := Z
  have hz : tabHP src e s.fa = (if e < q + n then .inl (1, e) else if n < 2 ∨ 32 < src.getD q 0 ∨ 16 < src.getD (q + 1) 0 then .inl (5, q) else .inr (n, q)) := by simp only [tabHP, hB]
  rw [hz]
  refine ⟨by rw [k70_4 Z.f]; rfl, fun h10 e10 => ⟨fun c8 => absurd c8 (lpos_cmp n (by omega)), fun _ => ?_⟩⟩
  rw [k70_4 Z.f, Z.cf.2.2.1] at e10
  have e10 : h10 = wI h5 70 15 (nI q) := e10
  subst e10
  have Z1 := Z.put 15 (nI q) (by decide) (by decide) (by decide)
  have O2 : Ok 70 [12, 13, 15, 16] h (wI h5 70 15 (nI q)) := O1.put (by decide)
  have F2 : Fr [70, 77] h (wI h5 70 15 (nI q)) := F1.put (by simp)
  have t2 : (wI h5 70 15 (nI q)).1 70 15 = nI q := wI_same
  generalize wI h5 70 15 (nI q) = h10 at Z1 O2 F2 t2 ⊢
  refine ⟨_, lacks70 Z1 n (by omega), fun v17 h16 hp => ?_⟩
  obtain ⟨S3, O3, F3⟩ := hp
  rw [show (s.sfa q).fa = q from rfl] at S3
  by_cases g1 : e < q + n
  · rw [if_pos g1] at S3
    obtain ⟨rfl, Z3⟩ := S3
    refine ⟨fun c8 => absurd c8 (by decide), fun _ => ⟨?_, O2.tr (O3.mono (by decide)), F2.tr1 (F3.mono (by decide))⟩⟩
    rw [if_pos g1]
    exact ⟨by decide, q, Z3⟩
  rw [if_neg g1] at S3
  obtain ⟨rfl, rfl⟩ := S3
  refine ⟨fun _ h19 e19 => ?_, fun c8 => absurd rfl c8⟩
  rw [lN_i] at e19
  subst e19
  have Z4 := Z1.put 16 (nI n) (by decide) (by decide) (by decide)
  have O4 : Ok 70 [12, 13, 15, 16] h (wI h16 70 16 (nI n)) := O2.put (by decide)
  have F4 : Fr [70, 77] h (wI h16 70 16 (nI n)) := F2.put (by simp)
  have t4 : (wI h16 70 16 (nI n)).1 70 15 = nI q := by rw [wI_idx (by decide)]; exact t2
  have n4 : (wI h16 70 16 (nI n)).1 70 16 = nI n := wI_same
  have r4 : h16.2.1 70 4 = 77 := k70_4 Z1.f
  generalize wI h16 70 16 (nI n) = h19 at Z4 O4 F4 t4 n4 ⊢
  have bad : (n < 2 ∨ 32 < src.getD q 0 ∨ 16 < src.getD (q + 1) 0) → ∀ (h9 : Hp) (p : Nat), HV70 h9 ra rs e src base T (s.sfa p) → Ok 70 [12, 13, 15, 16] h h9 → Fr [70, 77] h h9 → h9.1 70 15 = nI q → V_X7_readTableHead_69 w SH 70 h9 (fun h1 => (match (if e < q + n then .inl (1, e) else if n < 2 ∨ 32 < src.getD q 0 ∨ 16 < src.getD (q + 1) 0 then .inl (5, q) else .inr (n, q) : Sum (Nat × Nat) (Nat × Nat)) with
    | .inl (f, q) => f ≠ 0 ∧ ∃ p, HV70 h1 ra rs e src base T ((s.sfa p).bad f q)
    | .inr (n, q) => HV70 h1 ra rs e src base T (s.sfa (q + 2)) ∧ h1.1 70 15 = nI q ∧ h1.1 70 16 = nI n) ∧ Ok 70 [12, 13, 15, 16] h h1 ∧ Fr [70, 77] h h1) := by
    intro hbad h9 p Z9 O9 F9 t9
    refine ⟨rfl, _, S_fail rfl 5 _, fun v6 h5 hp => ?_⟩
    obtain ⟨rfl, rfl⟩ := hp
    rw [t9]
    obtain ⟨B1, B2, B3⟩ := Z9.bad 5 q (by decide) (by decide)
    refine ⟨?_, O9.tr (B3.mono (by decide)), F9.tr1 (B2.mono (by decide))⟩
    rw [if_neg g1, if_pos hbad]
    exact ⟨by decide, p, B1⟩
  rw [show (2 : Int64) = lN 2 from rfl, lgLT (by omega) (by omega)]
  refine ⟨fun c8 => bad (Or.inl c8) _ q Z4 O4 F4 t4, fun c8 => ⟨by rw [r4]; rfl, _, by rw [r4]; exact S_next Z4.cf Z4.rr Z4.e.2 Z4.e.1, fun v27 h26 hp => ?_⟩⟩
  obtain ⟨q1, q2, F5⟩ := hp
  obtain ⟨rfl, V5⟩ := q1 (by show q < e; omega)
  have V5 : CurV h26 77 ra (q + 1) e := V5
  have Z5 : HV70 h26 ra rs e src base T (s.sfa (q + 1)) := Z4.mvF (F5.rg _) V5 (by omega)
  have O5 : Ok 70 [12, 13, 15, 16] h h26 := O4.tr (F5.ok (by decide))
  have t5 : h26.1 70 15 = nI q := by rw [F5.2.2 70 (by decide)]; exact t4
  have n5 : h26.1 70 16 = nI n := by rw [F5.2.2 70 (by decide)]; exact n4
  have F5 := F4.tr1 (F5.mono (by decide))
  have b1 := getD_lt X.rr.bys q
  have b2 := getD_lt X.rr.bys (q + 1)
  rw [show (s.sfa q).fa = q from rfl, show (32 : Int32) = nI 32 from rfl, nI_ltI (by omega) (by omega)]
  refine ⟨fun c9 => bad (Or.inr (Or.inl c9)) _ (q + 1) Z5 O5 F5 t5, fun c9 => ⟨by rw [k70_4 Z5.f]; rfl, _, by rw [k70_4 Z5.f]; exact S_next Z5.cf Z5.rr Z5.e.2 Z5.e.1, fun v34 h33 hp => ?_⟩⟩
  obtain ⟨q3, q4, F6⟩ := hp
  obtain ⟨rfl, V6⟩ := q3 (by show q + 1 < e; omega)
  have V6 : CurV h33 77 ra (q + 2) e := V6
  have Z6 : HV70 h33 ra rs e src base T (s.sfa (q + 2)) := Z5.mvF (F6.rg _) V6 (by omega)
  have O6 : Ok 70 [12, 13, 15, 16] h h33 := O5.tr (F6.ok (by decide))
  have t6 : h33.1 70 15 = nI q := by rw [F6.2.2 70 (by decide)]; exact t5
  have n6 : h33.1 70 16 = nI n := by rw [F6.2.2 70 (by decide)]; exact n5
  have F6 := F5.tr1 (F6.mono (by decide))
  rw [show (s.sfa (q + 1)).fa = q + 1 from rfl, show (16 : Int32) = nI 16 from rfl, nI_leI (by omega) (by omega)]
  refine ⟨fun c10 => ⟨?_, O6, F6⟩, fun c10 => bad (Or.inr (Or.inr (by omega))) _ (q + 2) Z6 O6 F6 t6⟩
  rw [if_neg g1, if_neg (by omega)]
  exact ⟨Z6, t6, n6⟩
def HP70 (h1 : Hp) (ra rs e : Nat) (src base : List Nat) (T : Tb) (s : Ost) : Prop := match headP false src e s.fa with
  | .inl (f, q) => f ≠ 0 ∧ ∃ p, HV70 h1 ra rs e src base T ((s.sfa p).bad f q)
  | .inr (b, p) => h1.1 70 14 = nI b ∧ (if b = 2 ∨ b = 6 then (match tabHP src e p with
    | .inl (f, q) => f ≠ 0 ∧ ∃ p, HV70 h1 ra rs e src base T ((s.sfa p).bad f q)
    | .inr (n, q) => HV70 h1 ra rs e src base T (s.sfa (q + 2)) ∧ h1.1 70 15 = nI q ∧ h1.1 70 16 = nI n) else HV70 h1 ra rs e src base T (s.sfa p))
theorem mk70 : ∀ b : Nat, b < 256 → (nI b &&& ((4 : Int32) ^^^ (-1 : Int32)) = 0 ↔ (b = 0 ∨ b = 4 ∨ false = true ∧ (b = 2 ∨ b = 6))) := by decide +kernel
theorem readHead70 {w : Wd} {h : Hp} {ra rs e : Nat} {src base : List Nat} {T : Tb} {s : Ost} (X : HV70 h ra rs e src base T s) : C_X7_readHead w SH 70 h (fun h1 => HP70 h1 ra rs e src base T s ∧ Fr [70, 77] h h1) := by
  have hls := X.rr.2.2.2.2.1
  have he := X.e
  refine K_X7_readHead nlt_wf (fun m x0 x1 x2 x4 h' => x0 = 70 ∧ x1 = nI s.fa ∧ s.fa + 4 ≤ e ∧ ∃ k, m = 4 - k ∧ k ≤ 4 ∧ x4 = nI k ∧ x2 = lN (sumGo src s.fa k) ∧ HV70 h' ra rs e src base T (s.sfa (s.fa + k)) ∧ Fr [70, 77] h h') ?_ ?_
  · refine ⟨rfl, by rw [k70_4 X.f]; rfl, fun y3 e3 => ⟨_, lacks70 X 4 (by decide), fun v9 h8 hp => ?_⟩⟩
    rw [k70_4 X.f, X.cf.2.2.1] at e3
    obtain ⟨S1, O1, F1⟩ := hp
    by_cases g1 : e < s.fa + 4
    · rw [if_pos g1] at S1
      obtain ⟨rfl, Z⟩ := S1
      refine ⟨fun c8 => absurd c8 (by decide), fun _ => ⟨?_, F1.mono (by decide)⟩⟩
      unfold HP70
      rw [show headP false src e s.fa = .inl (1, e) by simp only [headP, if_pos g1]]
      exact ⟨by decide, s.fa, Z⟩
    · rw [if_neg g1] at S1
      obtain ⟨rfl, rfl⟩ := S1
      exact ⟨fun _ y11 e11 y13 e13 => ⟨4, rfl, e3, by omega, 0, rfl, by omega, e13, e11, X, Fr.rf⟩, fun c8 => absurd rfl c8⟩
  · rintro m x0 x1 x2 x4 h' ⟨rfl, rfl, h4, k, rfl, hk, rfl, rfl, Y, F⟩
    refine ⟨fun c7 => ?_, fun c7 => ⟨rfl, by rw [k70_4 Y.f]; rfl, _, by rw [k70_4 Y.f]; exact S_next Y.cf Y.rr Y.e.2 Y.e.1, fun v43 h42 hp y44 e44 y46 e46 => ?_⟩⟩
    · rw [show (4 : Int32) = nI 4 from rfl, nI_leI (by omega) (by omega)] at c7
      have : k = 4 := by omega
      subst this
      have hb4 := sumGo_lt X.rr.bys s.fa 4
      rw [show (3603153920 : Int64) = lN 3603153920 from rfl, lgEQ (by omega) (by omega), sum4 X.rr.bys]
      refine ⟨fun c8 => ⟨rfl, _, lacks70 Y 1 (by decide), fun v8 h7 hp => ?_⟩, fun c8 => ⟨rfl, _, S_fail rfl 2 _, fun v36 h35 hp => ?_⟩⟩
      · obtain ⟨S1, O1, F1⟩ := hp
        rw [show (s.sfa (s.fa + 4)).fa = s.fa + 4 from rfl] at S1
        by_cases g1 : e < s.fa + 4 + 1
        · rw [if_pos g1] at S1
          obtain ⟨rfl, Z⟩ := S1
          refine ⟨fun c9 => absurd c9 (by decide), fun _ => ⟨?_, F.tr1 (F1.mono (by decide))⟩⟩
          unfold HP70
          rw [show headP false src e s.fa = .inl (1, e) by
            unfold headP
            rw [if_neg (by omega), if_neg (not_not_intro c8), if_pos (by omega)]]
          exact ⟨by decide, _, Z⟩
        rw [if_neg g1] at S1
        obtain ⟨rfl, rfl⟩ := S1
        refine ⟨fun _ => ⟨by rw [k70_4 Y.f]; rfl, _, by rw [k70_4 Y.f]; exact S_next Y.cf Y.rr Y.e.2 Y.e.1, fun v15 h14 hp y16 e16 => ?_⟩, fun c9 => absurd rfl c9⟩
        subst e16
        obtain ⟨q1, q2, F2⟩ := hp
        obtain ⟨rfl, V2⟩ := q1 (by show s.fa + 4 < e; omega)
        have V2 : CurV h14 77 ra (s.fa + 5) e := V2
        have Z2 : HV70 h14 ra rs e src base T (s.sfa (s.fa + 5)) := Y.mvF (F2.rg _) V2 (by omega)
        have F2 := F.tr1 (F2.mono (by decide))
        rw [show (s.sfa (s.fa + 4)).fa = s.fa + 4 from rfl]
        have hb := getD_lt X.rr.bys (s.fa + 4)
        have hd : headP false src e s.fa = (if ¬ (src.getD (s.fa + 4) 0 = 0 ∨ src.getD (s.fa + 4) 0 = 4 ∨ false = true ∧ (src.getD (s.fa + 4) 0 = 2 ∨ src.getD (s.fa + 4) 0 = 6)) then .inl (4, s.fa + 4) else .inr (src.getD (s.fa + 4) 0, s.fa + 5)) := by
          unfold headP
          rw [if_neg (by omega), if_neg (not_not_intro c8), if_neg (by omega)]
        generalize src.getD (s.fa + 4) 0 = b at hb hd
        rw [Z2.o.2.2.2.2, mk70 b hb]
        refine ⟨fun c9 h19 e19 => ?_, fun c9 => ⟨_, S_fail rfl 4 _, fun v30 h29 hp => ?_⟩⟩
        · subst e19
          have b8 : b < 8 := by omega
          rw [if_neg (not_not_intro c9)] at hd
          have Z3 := Z2.put 14 (nI b) (by decide) (by decide) (by decide)
          have F3 : Fr [70, 77] h (wI h14 70 14 (nI b)) := F2.put (by simp)
          have m3 : (wI h14 70 14 (nI b)).1 70 14 = nI b := wI_same
          rw [and2 b b8]
          refine ⟨fun c10 => ⟨?_, F3⟩, fun c10 => ⟨_, readTable70 Z3, fun h25 hp => ?_⟩⟩
          · unfold HP70
            rw [hd]
            refine ⟨m3, ?_⟩
            rw [if_neg (by omega)]
            exact Z3
          · obtain ⟨S4, O4, F4⟩ := hp
            refine ⟨?_, F3.tr1 F4⟩
            unfold HP70
            rw [hd]
            refine ⟨by rw [O4 14 (by decide)]; exact m3, ?_⟩
            rw [if_pos (by omega)]
            exact S4
        · obtain ⟨rfl, rfl⟩ := hp
          rw [show (4 : Int32) = nI 4 from rfl, nI_add]
          obtain ⟨B1, B2, B3⟩ := Z2.bad 4 (s.fa + 4) (by decide) (by decide)
          refine ⟨?_, F2.tr1 (B2.mono (by decide))⟩
          unfold HP70
          rw [hd, if_pos c9]
          exact ⟨by decide, _, B1⟩
      · obtain ⟨rfl, rfl⟩ := hp
        obtain ⟨B1, B2, B3⟩ := Y.bad 2 s.fa (by decide) (by decide)
        refine ⟨?_, F.tr1 (B2.mono (by decide))⟩
        unfold HP70
        rw [show headP false src e s.fa = .inl (2, s.fa) by
          unfold headP
          rw [if_neg (by omega), if_pos c8]]
        exact ⟨by decide, _, B1⟩
    · rw [show (4 : Int32) = nI 4 from rfl, nI_leI (by omega) (by omega)] at c7
      obtain ⟨q1, q2, F2⟩ := hp
      obtain ⟨rfl, V2⟩ := q1 (by show s.fa + k < e; omega)
      have V2 : CurV h42 77 ra (s.fa + (k + 1)) e := V2
      have hx := getD_lt X.rr.bys (s.fa + k)
      rw [show (s.sfa (s.fa + k)).fa = s.fa + k from rfl, nI_l (by omega), show (256 : Int64) = lN 256 from rfl, lN_mul, lN_add] at e44
      exact ⟨4 - (k + 1), by omega, rfl, rfl, h4, k + 1, rfl, by omega, by rw [e46, nI_1], e44, Y.mvF (F2.rg _) V2 (by omega), F.tr1 (F2.mono (by decide))⟩
theorem readAppendix70 {w : Wd} {h : Hp} {ra rs e : Nat} {src base : List Nat} {T : Tb} {s : Ost} (X : HV70 h ra rs e src base T s) (h0 : s.ft = 0) (b : Nat) (hb : b = 0 ∨ b = 2 ∨ b = 4 ∨ b = 6) (h14 : h.1 70 14 = nI b) : C_X7_readAppendix w SH 70 h (fun h1 => (∃ s2 p, HV70 h1 ra rs e src base T s2 ∧ winsP false T base src e (e - s2.fa) s2 = (bodyP false T base src e b s).sfa p) ∧ Fr [70, 77, 75] h h1) := by
  have hls := X.rr.2.2.2.2.1
  refine K_X7_readAppendix ⟨rfl, fun c7 => absurd (by rw [X.o.2.2.1, h0]; rfl) c7, fun _ => ⟨fun c8 => ⟨_, readBig70 X, fun v8 h7 hp y9 e9 => ?_⟩, fun c8 => ⟨⟨s, (winsP false T base src e (e - s.fa) s).fa, X, ?_⟩, Fr.rf⟩⟩⟩
  · rw [h14, and4 b (by omega), nIz (by unfold sumN; split <;> omega)] at c8
    have hb4 : b = 4 ∨ b = 6 := by unfold sumN at c8; split at c8 <;> omega
    subst e9
    obtain ⟨S1, O1, F1⟩ := hp
    cases hB : hbP src e s.fa with
    | inl x =>
      obtain ⟨f, q⟩ := x
      rw [hB] at S1
      obtain ⟨hv, hf, p, Z⟩ := S1
      refine ⟨fun _ => ⟨⟨_, p, Z, ?_⟩, F1.mono (by decide)⟩, fun c9 => absurd (lneg_cmp hv) c9⟩
      rw [winsP_stop (Or.inl hf)]
      have : bodyP false T base src e b s = s.bad f q := by
        unfold bodyP
        rw [if_pos hb4]
        simp only [apxP, hB]
      rw [this]; rfl
    | inr x =>
    obtain ⟨n, q⟩ := x
    rw [hB] at S1
    obtain ⟨rfl, Z⟩ := S1
    have hk := hbP_ok hB
    have Z : HV70 h7 ra rs e src base T (s.sfa q) := Z
    refine ⟨fun c9 => absurd c9 (lpos_cmp n (by omega)), fun _ => ⟨_, lacks70 Z n (by omega), fun v16 h15 hp => ?_⟩⟩
    obtain ⟨S3, O3, F3⟩ := hp
    rw [show (s.sfa q).fa = q from rfl] at S3
    have F3n := (F1.mono (T := [70, 77, 75]) (by decide)).tr1 (F3.mono (by decide))
    by_cases g1 : e < q + n
    · rw [if_pos g1] at S3
      obtain ⟨rfl, Z3⟩ := S3
      refine ⟨fun c9 => absurd c9 (by decide), fun _ => ⟨⟨_, q, Z3, ?_⟩, F3n⟩⟩
      rw [winsP_stop (Or.inl (by show (1 : Nat) ≠ 0; decide))]
      have : bodyP false T base src e b s = s.bad 1 e := by
        unfold bodyP
        rw [if_pos hb4]
        simp only [apxP, hB, if_pos g1]
      rw [this]; rfl
    rw [if_neg g1] at S3
    obtain ⟨rfl, rfl⟩ := S3
    refine ⟨fun _ => ⟨by rw [k70_2 Z.f]; rfl, _, by rw [k70_2 Z.f, lN_i]; exact S_count (lc70 Z.f) Z.l 6 n (by decide), fun h22 hp => ?_⟩, fun c9 => absurd rfl c9⟩
    obtain ⟨V4, F4⟩ := hp
    have Z4 := Z.lg ((F4.mono (by decide)).rg _) V4 Z.ac
    have F4 := F3n.tr1 (F4.mono (by decide))
    refine ⟨by rw [k70_4 Z4.f]; rfl, _, by rw [k70_4 Z4.f, lN_i]; exact S_pass Z4.cf n, fun h27 hp => ?_⟩
    obtain ⟨V5, F5⟩ := hp
    have V5 : CurV h27 77 ra (q + n) e := V5
    have Z5 := Z4.mvF (F5.rg _) V5 (by omega)
    refine ⟨⟨(s.sfa (q + n)).stl (cntP false s.tl 6 n), (winsP false T base src e (e - (q + n)) ((s.sfa (q + n)).stl (cntP false s.tl 6 n))).fa, Z5, ?_⟩, F4.tr1 (F5.mono (by decide))⟩
    have : bodyP false T base src e b s = winsP false T base src e (e - (q + n)) ((s.sfa (q + n)).stl (cntP false s.tl 6 n)) := by
      unfold bodyP
      rw [if_pos hb4]
      simp only [apxP, hB, if_neg g1]
    rw [this]
  · rw [h14, and4 b (by omega), nIz (by unfold sumN; split <;> omega)] at c8
    have hb4 : ¬ (b = 4 ∨ b = 6) := by unfold sumN at c8; split at c8 <;> omega
    have : bodyP false T base src e b s = winsP false T base src e (e - s.fa) s := by
      unfold bodyP
      rw [if_neg hb4]
    rw [this]
theorem readAppendixF70 {w : Wd} {h : Hp} {ra rs e : Nat} {src base : List Nat} {T : Tb} {s : Ost} (X : HV70 h ra rs e src base T s) (h0 : s.ft ≠ 0) : C_X7_readAppendix w SH 70 h (fun h1 => h1 = h) := by
  have := X.ft
  refine K_X7_readAppendix ⟨rfl, fun _ => rfl, fun c7 => ?_⟩
  rw [X.o.2.2.1, nIz (by omega)] at c7
  exact absurd c7 h0
theorem begin70 {w : Wd} {h : Hp} {ra rs e : Nat} {src base junk : List Nat} {lo : Bool} {T : Tb} (f : Fin h) (b : 2 ≤ ra ∧ ra ≤ 6 ∧ 2 ≤ rs ∧ rs ≤ 6 ∧ ra ≠ rs ∧ ra + 1 ≠ rs ∧ rs + 1 ≠ ra) (rr : RowV SH h ra (ra + 1) 8000 src false) (ro : RowV SH h rs (rs + 1) 8000 junk lo) (rb : RowV SH h 13 14 1536 base false) (t : TabV h 12 13 14 T) (h3 : h.1 70 3 = 4) (kN : T.2.1 ≤ 4 ∧ 256 * T.2.2 ≤ 768) (g : GoodT T) (p : Nat) (he : p ≤ e ∧ e ≤ src.length) : C_X7_begin w SH 70 ra (nI p) (nI e) 13 rs h (fun h1 => HV70 h1 ra rs e src base T (ost0 p fun _ => 0) ∧ Rg [70, 77, 71, 72, 73, 74, 75, rs] [(77, 0), (70, 10), (70, 11)] h h1) := by
  have hR : ∀ q ∈ FINS, (q.1, q.2.1) ∉ [(77, 0), (70, 10), (70, 11)] := by decide +kernel
  refine K_X7_begin ⟨rfl, by rw [k70_4 f]; rfl, _, by rw [k70_4 f]; exact S_layC rfl ra p e, fun h6 hp h7 e7 h9 e9 => ?_⟩
  obtain ⟨V, F0⟩ := hp
  have F9 : Rg [70, 77, 71, 72, 73, 74, 75, rs] [(77, 0), (70, 10), (70, 11)] h h9 := by
    rw [e9, e7]
    exact ((F0.mono (by simp) (by simp)).putR (by simp)).putR (by simp)
  have f9 : Fin h9 := F9.fin f hR
  have o11 : h9.2.1 70 11 = rs := by rw [e9, wR_samex]
  have o10 : h9.2.1 70 10 = 13 := by rw [e9, wR_cellx (by decide), e7, wR_samex]
  have V9 : CurV h9 77 ra p e := by
    rw [e9, e7]
    exact ⟨V.1, by rw [wR_cellx (by decide), wR_cellx (by decide)]; exact V.2.1, V.2.2.1, V.2.2.2⟩
  have ro9 : RowV SH h9 rs (rs + 1) 8000 junk lo := by
    have F9' : Rg [77] [(77, 0), (70, 10), (70, 11)] h h9 := by
      rw [e9, e7]
      exact ((F0.mono (by simp) (by simp)).putR (by simp)).putR (by simp)
    exact ro.rg F9' (by simp; omega) (by simp; omega) (by simp; omega)
  refine ⟨by rw [o11]; exact ro9.1, _, by rw [o11]; exact S_clear ro9, fun h15 hp => ?_⟩
  obtain ⟨R15, G15⟩ := hp
  have f15 := f9.fr G15
  have F15 := F9.tr (G15.up (by simp))
  have t15 : TabV h15 12 13 14 T := t.rg F15 (by simp; omega) (by simp; omega) (by simp; omega) (by decide) (by decide)
  have C := cc70 f15
  refine ⟨by rw [k70_0 f15]; rfl, by rw [k70_1 f15]; rfl, _, by rw [k70_1 f15, k70_0 f15, t15.2.2.2.2.1, t15.2.2.2.2.2.1]; exact S_fit C.1 C.2.1 C.2.2.1 C.2.2.2.1 C.2.2.2.2.1 (by decide) (by decide) (by decide) T.2.1 T.2.2 kN.1 kN.2, fun h21 hp => ?_⟩
  obtain ⟨z1, z2, z3, z4, z5, G21⟩ := hp
  have f21 := f15.fr G21
  refine ⟨by rw [k70_2 f21]; rfl, _, by rw [k70_2 f21]; exact S_clearLog (lc70 f21) (by decide), fun h26 hp h27 e27 h29 e29 h31 e31 h33 e33 h35 e35 => ?_⟩
  obtain ⟨L26, G26⟩ := hp
  have f26 := f21.fr G26
  have G35 : Fr [70] h26 h35 := by
    rw [e35, e33, e31, e29, e27]
    exact ((((Fr.rf.put (by simp)).put (by simp)).put (by simp)).put (by simp)).put (by simp)
  have f35 := f26.fr G35
  have G15' : Fr [70, 71, 72, 73, 74, 75] h15 h35 := ((G21.mono (by simp)).tr1 (G26.mono (by simp))).tr1 (G35.mono (by simp))
  have FF := F15.tr (G15'.up (R := [(77, 0), (70, 10), (70, 11)]) (S' := [70, 77, 71, 72, 73, 74, 75, rs]) (by simp))
  refine ⟨HV70.of ⟨f35, b, rr.rg FF (by simp; omega) (by simp; omega) (by simp; omega), R15.fr G15' (by simp; omega) (by simp; omega), rb.rg FF (by simp; omega) (by simp; omega) (by simp), t.rg FF (by simp; omega) (by simp; omega) (by simp; omega) (by decide) (by decide), (V9.fr G15 (by simp; omega)).fr G15' (by decide), ?_, ?_, ?_, kN, he, fun _ => (by show (0 : Nat) < 16000; decide), fun _ => (by show (0 : Nat) < 16000; decide), ?_, (by show (0 : Nat) ≤ 2000; decide), g, (by show (0 : Nat) < 17; decide)⟩, FF⟩
  · have W : CacW h21 71 72 73 T.2.1 T.2.2 (fun _ => 0) (fun _ => 0) 0 := ⟨z4, z5, z3, fun i hi => z1 i (by omega), fun i hi => z2 i (by omega)⟩
    exact (W.fr G26 (by decide) (by decide) (by decide)).fr G35 (by decide) (by decide) (by decide)
  · exact L26.fr G35 (by decide) (by decide) (by decide)
  · refine ⟨?_, ?_, ?_, ?_, ?_⟩
    · rw [G15'.1, G15.1]; exact o10
    · rw [G15'.1, G15.1]; exact o11
    · rw [e35, wI_idx (by decide), e33, wI_idx (by decide), e31, wI_idx (by decide), e29, wI_idx (by decide), e27, wI_same]; rfl
    · rw [e35, wI_idx (by decide), e33, wI_idx (by decide), e31, wI_idx (by decide), e29, wI_same]; rfl
    · rw [e35, wI_idx (by decide), e33, wI_idx (by decide), e31, wI_idx (by decide), e29, wI_idx (by decide), e27, wI_idx (by decide), G26.2.2 70 (by decide), G21.2.2 70 (by decide), G15.2.2 70 (by simp; omega)]
      rw [e9, e7]
      show h6.1 70 3 = _
      rw [F0.1 70 (by decide)]; exact h3
  · show 0 < T.2.1 ∨ (T.2.1 = 0 ∧ 0 = 0)
    omega
