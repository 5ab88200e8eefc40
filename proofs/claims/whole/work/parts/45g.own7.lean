/-! an opener at the cell 49: a window's segment and sizes (printed twice by wip/whole/genopen.py) -/
def SpV49 (h : Hp) (gr sp ss rs n : Nat) : Prop := h.2.1 65 0 = gr ∧ h.1 65 1 = nI sp ∧ h.1 65 2 = nI ss ∧ h.2.1 65 3 = rs ∧ h.1 65 4 = nI n
theorem readSegment49 {w : Wd} {h : Hp} {ra rs e : Nat} {src base : List Nat} {T : Tb} {s : Ost} (X : HV49 h ra rs e src base T s) (b : Nat) (hb : b < 8) : C_X7_readSegment w SH 49 (nI b) h (fun v h1 => St49 h h1 ra rs e src base T s (segP src e s.fa b base.length s.out.length) (v = 0) (fun x => v = 1 ∧ HV49 h1 ra rs e src base T (s.sfa x.2.2) ∧ SpV49 h1 (if b % 4 = 0 ∨ b % 2 = 1 then 8 else rs) x.2.1 x.1 rs s.out.length) ∧ Ok 49 [12, 13] h h1 ∧ Rg [49, 50, 65] [(65, 0), (65, 3)] h h1) := by
  have bb := X.b
  have hlo := X.ro.2.2.2.2.1
  have hlb := X.rb.2.2.2.2.1
  refine K_X7_readSegment ⟨rfl, by rw [k49_9 X.f]; rfl, _, by rw [k49_9 X.f, X.o.1, X.o.2.1]; exact S_layS rfl X.ro 8 0 0 ⟨by omega, by omega⟩, fun h6 hp => ?_⟩
  obtain ⟨L, F0⟩ := hp
  have F : Rg [49, 50, 65] [(65, 0), (65, 3)] h h6 := F0.mono (by decide) (by decide)
  have O0 : Ok 49 [12, 13] h h6 := F0.ok (by decide)
  have Y := X.oth (F0.mono (by decide) (by decide))
  refine ⟨fun c7 => ⟨by rw [k49_4 Y.f]; rfl, fun y9 e9 => ⟨_, readBig49 Y, fun v15 h14 hp y16 e16 => ?_⟩⟩, fun c7 => ?_⟩
  · rw [and3 b hb, nIz (by omega)] at c7
    rw [k49_4 Y.f, Y.cf.2.2.1] at e9
    subst e9; subst e16
    obtain ⟨S1, O1, F1⟩ := hp
    have F1 := F.tr (F1.up (by decide))
    have O1 := O0.tr O1
    cases hB : hbP src e s.fa with
    | inl x =>
      obtain ⟨f, q⟩ := x
      rw [hB] at S1
      obtain ⟨hv, hf, p, Z⟩ := S1
      refine ⟨fun c8 => absurd c8 (lneg_ge hv), fun _ => ⟨?_, O1, F1⟩⟩
      rw [show segP src e s.fa b base.length s.out.length = .inl (f, q) by simp [segP, c7, hB]]
      exact ⟨rfl, hf, p, Z⟩
    | inr x =>
      obtain ⟨n, p1⟩ := x
      rw [hB] at S1
      obtain ⟨rfl, Z⟩ := S1
      have hk := hbP_ok hB
      refine ⟨fun _ => ⟨_, readBig49 Z, fun v23 h22 hp y24 e24 => ?_⟩, fun c8 => absurd (lpos_ge n (by omega)) c8⟩
      subst e24
      obtain ⟨S2, O2, F2⟩ := hp
      have F2 := F1.tr (F2.up (by decide))
      have O2 := O1.tr O2
      cases hB2 : hbP src e p1 with
      | inl x =>
        obtain ⟨f, q⟩ := x
        rw [show (s.sfa p1).fa = p1 from rfl, hB2] at S2
        obtain ⟨hv, hf, p, Z2⟩ := S2
        refine ⟨fun c8 => absurd c8 (lneg_ge hv), fun _ => ⟨?_, O2, F2⟩⟩
        rw [show segP src e s.fa b base.length s.out.length = .inl (f, q) by simp [segP, c7, hB, hB2]]
        exact ⟨rfl, hf, p, Z2⟩
      | inr x =>
        obtain ⟨q, p2⟩ := x
        rw [show (s.sfa p1).fa = p1 from rfl, hB2] at S2
        obtain ⟨rfl, Z2⟩ := S2
        have hk2 := hbP_ok hB2
        have fin : ∀ (gr aa N : Nat) (bs : List Nat), RowV SH h22 gr aa N bs false → N ≤ 8000 → gr = (if b % 4 = 0 ∨ b % 2 = 1 then 8 else rs) → bs.length = (if b % 2 = 1 then base.length else s.out.length) → V_X7_readSegment_78 w SH 49 (nI s.fa) (lN n) (lN q) gr h22 (fun v h1 => St49 h h1 ra rs e src base T s (segP src e s.fa b base.length s.out.length) (v = 0) (fun x => v = 1 ∧ HV49 h1 ra rs e src base T (s.sfa x.2.2) ∧ SpV49 h1 (if b % 4 = 0 ∨ b % 2 = 1 then 8 else rs) x.2.1 x.1 rs s.out.length) ∧ Ok 49 [12, 13] h h1 ∧ Rg [49, 50, 65] [(65, 0), (65, 3)] h h1) := by
          intro gr aa N bs R hN hg hl y1 e1
          rw [e1]
          have hlen := R.2.2.2.2.1
          refine ⟨R.1, _, S_length R, fun v8 h7 hp => ?_⟩
          obtain ⟨rfl, rfl⟩ := hp
          rw [lN_add, nI_l (by omega), lgLE (by omega) (by omega)]
          refine ⟨fun c10 => ⟨rfl, by rw [k49_9 Z2.f]; rfl, _, by rw [k49_9 Z2.f, Z2.o.2.1, lN_i, lN_i]; exact S_layS rfl Z2.ro gr q n ⟨by omega, by omega⟩, fun h15 hp => ?_⟩, fun c10 => ⟨rfl, _, S_fail rfl 7 _, fun v21 h20 hp => ?_⟩⟩
          · obtain ⟨L3, F3⟩ := hp
            have Z3 := Z2.oth (F3.mono (by decide) (by decide))
            refine ⟨?_, O2.tr (F3.ok (by decide)), F2.tr (F3.mono (by decide) (by decide))⟩
            rw [show segP src e s.fa b base.length s.out.length = .inr (n, q, p2) by
              simp only [segP, if_neg c7, hB, hB2]
              rw [if_neg (by omega)]]
            rw [hg] at L3
            exact ⟨rfl, Z3, L3⟩
          · obtain ⟨rfl, rfl⟩ := hp
            obtain ⟨B1, B2, B3⟩ := Z2.bad 7 s.fa (by decide) (by decide)
            refine ⟨Or.inl rfl, ?_, O2.tr B3, F2.tr (B2.up (by decide))⟩
            rw [show segP src e s.fa b base.length s.out.length = .inl (7, s.fa) by
              simp only [segP, if_neg c7, hB, hB2]
              rw [if_pos (by omega)]]
            exact ⟨rfl, by decide, p2, B1⟩
        refine ⟨fun _ => ⟨fun c9 => ?_, fun c9 => ?_⟩, fun c8 => absurd (lpos_ge q (by omega)) c8⟩
        · rw [and1 b hb, nIz (by omega)] at c9
          rw [Z2.o.2.1]
          exact fin rs _ _ _ Z2.ro (by omega) (by rw [if_neg (by omega)]) (by rw [if_neg (by omega)])
        · rw [and1 b hb, nIz (by omega)] at c9
          rw [Z2.o.1]
          exact fin 8 _ _ _ Z2.rb (by omega) (by rw [if_pos (by omega)]) (by rw [if_pos (by omega)])
  · rw [and3 b hb, nIz (by omega)] at c7
    refine ⟨?_, O0, F⟩
    rw [show segP src e s.fa b base.length s.out.length = .inr (0, 0, s.fa) by simp [segP, c7]]
    refine ⟨rfl, Y, ?_⟩
    rw [if_pos (Or.inl c7)]
    exact L
theorem readTarget49 {w : Wd} {h : Hp} {ra rs e : Nat} {src base : List Nat} {T : Tb} {s : Ost} (X : HV49 h ra rs e src base T s) : C_X7_readTargetSize w SH 49 h (fun v h1 => St49 h h1 ra rs e src base T s (tgtP src e s.fa s.out.length) (v = 0) (fun x => v = 1 ∧ HV49 h1 ra rs e src base T (s.sfa x.2) ∧ h1.1 49 17 = nI x.1) ∧ Ok 49 [12, 13, 17] h h1 ∧ Fr [49, 50] h h1) := by
  have bb := X.b
  have hlo := X.ro.2.2.2.2.1
  refine K_X7_readTargetSize ⟨rfl, by rw [k49_4 X.f]; rfl, fun y3 e3 => ⟨_, readBig49 X, fun v9 h8 hp y10 e10 => ?_⟩⟩
  rw [k49_4 X.f, X.cf.2.2.1] at e3
  subst e3; subst e10
  obtain ⟨S1, O1, F1⟩ := hp
  have O1 : Ok 49 [12, 13, 17] h h8 := O1.mono (by decide)
  cases hB : hbP src e s.fa with
  | inl x =>
    obtain ⟨f, q⟩ := x
    rw [hB] at S1
    obtain ⟨hv, hf, p, Z⟩ := S1
    refine ⟨fun c8 => absurd c8 (lneg_ge hv), fun _ => ⟨?_, O1, F1⟩⟩
    rw [show tgtP src e s.fa s.out.length = .inl (f, q) by simp [tgtP, hB]]
    exact ⟨rfl, hf, p, Z⟩
  | inr x =>
    obtain ⟨n, p1⟩ := x
    rw [hB] at S1
    obtain ⟨rfl, Z⟩ := S1
    have hk := hbP_ok hB
    refine ⟨fun _ => ⟨by rw [Z.o.2.1]; exact Z.ro.1, _, by rw [Z.o.2.1]; exact S_length Z.ro, fun v18 h17 hp => ?_⟩, fun c8 => absurd (lpos_ge n (by omega)) c8⟩
    obtain ⟨rfl, rfl⟩ := hp
    rw [show (8000 : Int32) = nI 8000 from rfl, pk_sub (by show s.out.length ≤ 8000; omega), nI_l (by omega), lgLE (by omega) (by omega), lN_i]
    have e5 : (s.sfa p1).out.length = s.out.length := rfl
    rw [e5]
    refine ⟨fun c10 h20 e20 => ?_, fun c10 => ⟨_, S_fail rfl 10 _, fun v47 h46 hp => ?_⟩⟩
    · subst e20
      have Z1 := Z.put 17 (nI n) (by decide) (by decide) (by decide)
      have F2 : Fr [49, 50] h (wI h17 49 17 (nI n)) := F1.put (by simp)
      have O2 : Ok 49 [12, 13, 17] h (wI h17 49 17 (nI n)) := fun k hk => by
        rw [wI_idx (by intro e; subst e; simp at hk)]; exact O1 k hk
      refine ⟨_, lacks49 Z1 1 (by decide), fun v26 h25 hp => ?_⟩
      obtain ⟨S3, O3, F3⟩ := hp
      have e6 : (s.sfa p1).fa = p1 := rfl
      rw [e6] at S3
      have O3' := O2.tr (O3.mono (by decide))
      have F3' := F2.tr1 (F3.mono (by decide))
      by_cases h1 : e < p1 + 1
      · rw [if_pos h1] at S3
        obtain ⟨rfl, Z3⟩ := S3
        refine ⟨fun c11 => absurd c11 (by decide), fun _ => ⟨?_, O3', F3'⟩⟩
        rw [show tgtP src e s.fa s.out.length = .inl (1, e) by
          simp only [tgtP, hB]
          rw [if_neg (by omega), if_pos h1]]
        exact ⟨rfl, by decide, p1, Z3⟩
      · rw [if_neg h1] at S3
        obtain ⟨rfl, rfl⟩ := S3
        refine ⟨fun _ => ⟨by rw [k49_4 Z1.f]; rfl, fun y29 e29 => ⟨_, by rw [k49_4 Z1.f]; exact S_next Z1.cf Z1.rr Z1.e.2 Z1.e.1, fun v35 h34 hp => ?_⟩⟩, fun c11 => absurd rfl c11⟩
        rw [k49_4 Z1.f, Z1.cf.2.2.1] at e29
        subst e29
        rw [e6] at hp
        obtain ⟨q1, q2, F4⟩ := hp
        obtain ⟨rfl, V4⟩ := q1 (by omega)
        have Z4 := Z1.mvF (F4.rg _) V4 (by omega)
        have F4' := F3'.tr1 (F4.mono (by decide))
        have O4' : Ok 49 [12, 13, 17] h h34 := O3'.tr (F4.ok (by decide))
        have hx : src.getD p1 0 < 256 := getD_lt (RowV.bys Z.rr) _
        refine ⟨fun c12 => ⟨?_, O4', F4'⟩, fun c12 => ⟨_, S_fail rfl 9 _, fun v41 h40 hp => ?_⟩⟩
        · rw [nIz (by omega)] at c12
          rw [show tgtP src e s.fa s.out.length = .inr (n, p1 + 1) by
            simp only [tgtP, hB]
            rw [if_neg (by omega), if_neg h1, if_neg (by omega)]]
          exact ⟨rfl, Z4, by rw [F4.2.2 49 (by decide), wI_same]⟩
        · rw [nIz (by omega)] at c12
          obtain ⟨rfl, rfl⟩ := hp
          obtain ⟨B1, B2, B3⟩ := Z4.bad 9 p1 (by decide) (by decide)
          refine ⟨fun _ => ⟨?_, O4'.tr (B3.mono (by decide)), F4'.tr1 (B2.mono (by decide))⟩, fun c13 => absurd rfl c13⟩
          rw [show tgtP src e s.fa s.out.length = .inl (9, p1) by
            simp only [tgtP, hB]
            rw [if_neg (by omega), if_neg h1, if_pos c12]]
          exact ⟨rfl, by decide, p1 + 1, B1⟩
    · obtain ⟨rfl, rfl⟩ := hp
      obtain ⟨B1, B2, B3⟩ := Z.bad 10 s.fa (by decide) (by decide)
      refine ⟨Or.inl rfl, ?_, O1.tr (B3.mono (by decide)), F1.tr1 (B2.mono (by decide))⟩
      rw [show tgtP src e s.fa s.out.length = .inl (10, s.fa) by
        simp only [tgtP, hB]
        rw [if_pos (by omega)]]
      exact ⟨rfl, by decide, p1, B1⟩
theorem layParts49 {w : Wd} {h : Hp} {ra rs e : Nat} {src base : List Nat} {T : Tb} {s : Ost} (X : HV49 h ra rs e src base T s) (d c a : Nat) (hs : s.fa + d + c + a ≤ e) : C_X7_layParts w SH 49 (nI d) (nI c) (nI a) h (fun h1 => (HV49 h1 ra rs e src base T (s.sfa (s.fa + d + c + a)) ∧ CurV h1 53 ra s.fa (s.fa + d) ∧ CurV h1 56 ra (s.fa + d) (s.fa + d + c) ∧ CurV h1 59 ra (s.fa + d + c) (s.fa + d + c + a)) ∧ Rg [50, 53, 56, 59] [(53, 0), (56, 0), (59, 0)] h h1) := by
  have bb := X.b
  refine K_X7_layParts ⟨rfl, by rw [k49_4 X.f]; rfl, fun y3 e3 y5 e5 => ⟨by rw [k49_5 X.f]; rfl, ?_⟩⟩
  rw [k49_4 X.f, X.cf.2.2.1, nI_add] at e3
  subst e3
  rw [nI_add] at e5
  subst e5
  refine ⟨_, by rw [k49_5 X.f, k49_4 X.f, X.cf.2.1, X.cf.2.2.1]; exact S_layC rfl ra s.fa (s.fa + d), fun h11 hp => ?_⟩
  obtain ⟨D1, F1⟩ := hp
  have X1 := X.oth (F1.mono (by decide) (by decide))
  refine ⟨by rw [k49_4 X1.f]; rfl, by rw [k49_6 X1.f]; rfl, _, by rw [k49_6 X1.f, k49_4 X1.f, X1.cf.2.1]; exact S_layC rfl ra (s.fa + d) (s.fa + d + c), fun h17 hp => ?_⟩
  obtain ⟨C2, F2⟩ := hp
  have X2 := X1.oth (F2.mono (by decide) (by decide))
  have D2 := D1.rg F2 (by decide) (by decide)
  refine ⟨by rw [k49_4 X2.f]; rfl, by rw [k49_7 X2.f]; rfl, _, by rw [k49_7 X2.f, k49_4 X2.f, X2.cf.2.1, nI_add]; exact S_layC rfl ra (s.fa + d + c) (s.fa + d + c + a), fun h23 hp => ?_⟩
  obtain ⟨A3, F3⟩ := hp
  have X3 := X2.oth (F3.mono (by decide) (by decide))
  have D3 := D2.rg F3 (by decide) (by decide)
  have C3 := C2.rg F3 (by decide) (by decide)
  refine ⟨by rw [k49_4 X3.f]; rfl, _, by rw [k49_4 X3.f, nI_add, nI_add]; exact S_pass X3.cf (d + c + a), fun h28 hp => ?_⟩
  obtain ⟨V4, F4⟩ := hp
  have e4 : s.fa + (d + c + a) = s.fa + d + c + a := by omega
  rw [e4] at V4
  refine ⟨⟨X3.mvF (F4.rg _) V4 hs, D3.fr F4 (by decide), C3.fr F4 (by decide), A3.fr F4 (by decide)⟩, ?_⟩
  exact (((F1.mono (by decide) (by decide)).tr (F2.mono (by decide) (by decide))).tr (F3.mono (by decide) (by decide))).tr (F4.up (by decide))
theorem readSizes49 {w : Wd} {h : Hp} {ra rs e : Nat} {src base : List Nat} {T : Tb} {s : Ost} (X : HV49 h ra rs e src base T s) (b : Nat) (hb : b < 8) : C_X7_readSizes w SH 49 (nI b) h (fun v h1 => St49 h h1 ra rs e src base T s (sizP src e s.fa b s.out.length) (v = 0) (fun (z : Sz) => v = 1 ∧ HV49 h1 ra rs e src base T (s.sfa (z.sm + sumN b + z.d + z.c + z.a)) ∧ CurV h1 53 ra (z.sm + sumN b) (z.sm + sumN b + z.d) ∧ CurV h1 56 ra (z.sm + sumN b + z.d) (z.sm + sumN b + z.d + z.c) ∧ CurV h1 59 ra (z.sm + sumN b + z.d + z.c) (z.sm + sumN b + z.d + z.c + z.a) ∧ CurV h1 62 ra z.sm (z.sm + sumN b) ∧ h1.1 49 17 = nI z.tz) ∧ Ok 49 [12, 13, 17] h h1 ∧ Rg [49, 50, 53, 56, 59, 62] [(53, 0), (56, 0), (59, 0), (62, 0)] h h1) := by
  have bb := X.b
  have hls := X.rr.2.2.2.2.1
  have hee := X.e
  have hsb : sumN b ≤ 4 := by unfold sumN; split <;> omega
  refine K_X7_readSizes ⟨rfl, by rw [k49_4 X.f]; rfl, fun y3 e3 => ⟨_, readBig49 X, fun v9 h8 hp y10 e10 => ?_⟩⟩
  rw [k49_4 X.f, X.cf.2.2.1] at e3
  subst e3; subst e10
  obtain ⟨S1, O1, F1⟩ := hp
  have O1 : Ok 49 [12, 13, 17] h h8 := O1.mono (by decide)
  have F1 : Rg [49, 50, 53, 56, 59, 62] [(53, 0), (56, 0), (59, 0), (62, 0)] h h8 := F1.up (by decide)
  cases hB : hbP src e s.fa with
  | inl x =>
    obtain ⟨f, q⟩ := x
    rw [hB] at S1
    obtain ⟨hv, hf, p, Z⟩ := S1
    refine ⟨by rw [k49_4 Z.f]; rfl, fun y13 e13 => ⟨fun _ => ⟨?_, O1, F1⟩, fun c8 => absurd (lneg_cmp hv) c8⟩⟩
    rw [show sizP src e s.fa b s.out.length = .inl (f, q) by simp [sizP, hB]]
    exact ⟨rfl, hf, p, Z⟩
  | inr x =>
  obtain ⟨fo, p1⟩ := x
  rw [hB] at S1
  obtain ⟨rfl, Z⟩ := S1
  have hk := hbP_ok hB
  refine ⟨by rw [k49_4 Z.f]; rfl, fun y13 e13 => ⟨fun c8 => absurd c8 (lpos_cmp fo (by omega)), fun _ => ⟨_, readTarget49 Z, fun v20 h19 hp => ?_⟩⟩⟩
  rw [k49_4 Z.f, Z.cf.2.2.1] at e13
  subst e13
  obtain ⟨S2, O2, F2⟩ := hp
  have O2 := O1.tr O2
  have F2 := F1.tr (F2.up (by decide))
  cases hT : tgtP src e p1 s.out.length with
  | inl x =>
    obtain ⟨f, q⟩ := x
    rw [show (s.sfa p1).fa = p1 from rfl, show (s.sfa p1).out = s.out from rfl, hT] at S2
    obtain ⟨rfl, hf, p, Z2⟩ := S2
    refine ⟨fun c8 => absurd rfl c8, fun _ => ⟨?_, O2, F2⟩⟩
    rw [show sizP src e s.fa b s.out.length = .inl (f, q) by simp [sizP, hB, hT]]
    exact ⟨rfl, hf, p, Z2⟩
  | inr x =>
  obtain ⟨tz, p2⟩ := x
  rw [show (s.sfa p1).fa = p1 from rfl, show (s.sfa p1).out = s.out from rfl, hT] at S2
  obtain ⟨rfl, Z2, tzh⟩ := S2
  have hk2 := tgtP_ok hT
  refine ⟨fun _ => ⟨_, readBig49 Z2, fun v26 h25 hp y27 e27 => ?_⟩, fun c8 => absurd c8 (by decide)⟩
  subst e27
  obtain ⟨S3, O3, F3⟩ := hp
  have t3 : h25.1 49 17 = nI tz := by rw [O3 17 (by decide)]; exact tzh
  have O3 := O2.tr (O3.mono (by decide))
  have F3 := F2.tr (F3.up (by decide))
  cases hD : hbP src e p2 with
  | inl x =>
    obtain ⟨f, q⟩ := x
    rw [show ((s.sfa p1).sfa p2).fa = p2 from rfl, hD] at S3
    obtain ⟨hv, hf, p, Z3⟩ := S3
    refine ⟨fun c8 => absurd c8 (lneg_ge hv), fun _ y1 e1 => ?_⟩
    subst e1
    refine ⟨fun c8 => absurd c8 (lneg_ge hv), fun _ y1 e1 => ?_⟩
    subst e1
    refine ⟨fun c8 => absurd c8 (lneg_ge hv), fun _ => ⟨?_, O3, F3⟩⟩
    rw [show sizP src e s.fa b s.out.length = .inl (f, q) by simp [sizP, hB, hT, hD]]
    exact ⟨rfl, hf, p, Z3⟩
  | inr x =>
  obtain ⟨d, p3⟩ := x
  rw [show ((s.sfa p1).sfa p2).fa = p2 from rfl, hD] at S3
  obtain ⟨rfl, Z3⟩ := S3
  have hk3 := hbP_ok hD
  refine ⟨fun _ => ⟨_, readBig49 Z3, fun v34 h33 hp y1 e1 => ?_⟩, fun c8 => absurd (lpos_ge d (by omega)) c8⟩
  subst e1
  obtain ⟨S4, O4, F4⟩ := hp
  have t4 : h33.1 49 17 = nI tz := by rw [O4 17 (by decide)]; exact t3
  have O4 := O3.tr (O4.mono (by decide))
  have F4 := F3.tr (F4.up (by decide))
  cases hC : hbP src e p3 with
  | inl x =>
    obtain ⟨f, q⟩ := x
    rw [show (((s.sfa p1).sfa p2).sfa p3).fa = p3 from rfl, hC] at S4
    obtain ⟨hv, hf, p, Z4⟩ := S4
    refine ⟨fun c8 => absurd c8 (lneg_ge hv), fun _ y1 e1 => ?_⟩
    subst e1
    refine ⟨fun c8 => absurd c8 (lneg_ge hv), fun _ => ⟨?_, O4, F4⟩⟩
    rw [show sizP src e s.fa b s.out.length = .inl (f, q) by simp [sizP, hB, hT, hD, hC]]
    exact ⟨rfl, hf, p, Z4⟩
  | inr x =>
  obtain ⟨c, p4⟩ := x
  rw [show (((s.sfa p1).sfa p2).sfa p3).fa = p3 from rfl, hC] at S4
  obtain ⟨rfl, Z4⟩ := S4
  have hk4 := hbP_ok hC
  refine ⟨fun _ => ⟨rfl, _, readBig49 Z4, fun v9 h8 hp y1 e1 => ?_⟩, fun c8 => absurd (lpos_ge c (by omega)) c8⟩
  subst e1
  obtain ⟨S5, O5, F5⟩ := hp
  have t5 : h8.1 49 17 = nI tz := by rw [O5 17 (by decide)]; exact t4
  have O5 := O4.tr (O5.mono (by decide))
  have F5 := F4.tr (F5.up (by decide))
  cases hA : hbP src e p4 with
  | inl x =>
    obtain ⟨f, q⟩ := x
    rw [show ((((s.sfa p1).sfa p2).sfa p3).sfa p4).fa = p4 from rfl, hA] at S5
    obtain ⟨hv, hf, p, Z5⟩ := S5
    refine ⟨fun c8 => absurd c8 (lneg_ge hv), fun _ => ⟨?_, O5, F5⟩⟩
    rw [show sizP src e s.fa b s.out.length = .inl (f, q) by simp [sizP, hB, hT, hD, hC, hA]]
    exact ⟨rfl, hf, p, Z5⟩
  | inr x =>
  obtain ⟨a, p5⟩ := x
  rw [show ((((s.sfa p1).sfa p2).sfa p3).sfa p4).fa = p4 from rfl, hA] at S5
  obtain ⟨rfl, Z5⟩ := S5
  have hk5 := hbP_ok hA
  have Z5 : HV49 h8 ra rs e src base T (s.sfa p5) := Z5
  have hz : sizP src e s.fa b s.out.length = (if e < p5 + sumN b then .inl (1, e) else if fo ≠ p5 + sumN b - p1 + (d + c + a) then .inl (8, s.fa) else if e < p5 + sumN b + (d + c + a) then .inl (1, e) else .inr (tz, d, c, a, p5)) := by
    simp only [sizP, hB, hT, hD, hC, hA]
  rw [hz]
  have fin : ∀ m : Int32, m = nI (sumN b) → V_X7_readSizes_99 w SH 49 (nI s.fa) (lN fo) (nI p1) (lN d) (lN c) (lN a) m h8 (fun v h1 => St49 h h1 ra rs e src base T s (if e < p5 + sumN b then .inl (1, e) else if fo ≠ p5 + sumN b - p1 + (d + c + a) then .inl (8, s.fa) else if e < p5 + sumN b + (d + c + a) then .inl (1, e) else .inr (tz, d, c, a, p5)) (v = 0) (fun (z : Sz) => v = 1 ∧ HV49 h1 ra rs e src base T (s.sfa (z.sm + sumN b + z.d + z.c + z.a)) ∧ CurV h1 53 ra (z.sm + sumN b) (z.sm + sumN b + z.d) ∧ CurV h1 56 ra (z.sm + sumN b + z.d) (z.sm + sumN b + z.d + z.c) ∧ CurV h1 59 ra (z.sm + sumN b + z.d + z.c) (z.sm + sumN b + z.d + z.c + z.a) ∧ CurV h1 62 ra z.sm (z.sm + sumN b) ∧ h1.1 49 17 = nI z.tz) ∧ Ok 49 [12, 13, 17] h h1 ∧ Rg [49, 50, 53, 56, 59, 62] [(53, 0), (56, 0), (59, 0), (62, 0)] h h1) := by
    intro m em y1 e1
    rw [em] at e1
    subst e1
    refine ⟨rfl, _, by rw [nI_l (by omega)]; exact lacks49 Z5 (sumN b) (by omega), fun v8 h7 hp => ?_⟩
    obtain ⟨S6, O6, F6⟩ := hp
    rw [show (s.sfa p5).fa = p5 from rfl] at S6
    have t6 : h7.1 49 17 = nI tz := by rw [O6 17 (by decide)]; exact t5
    have O6n := O5.tr (O6.mono (by decide))
    have F6n := F5.tr (F6.up (by decide))
    by_cases g1 : e < p5 + sumN b
    · rw [if_pos g1] at S6
      obtain ⟨rfl, Z6⟩ := S6
      refine ⟨fun c8 => absurd c8 (by decide), fun _ => ⟨?_, O6n, F6n⟩⟩
      rw [if_pos g1]
      exact ⟨rfl, by decide, p5, Z6⟩
    rw [if_neg g1] at S6
    obtain ⟨rfl, rfl⟩ := S6
    refine ⟨fun _ => ⟨by rw [k49_4 Z5.f]; rfl, fun y11 e11 => ⟨_, by rw [k49_4 Z5.f]; exact S_pass Z5.cf (sumN b), fun h16 hp y17 e17 => ?_⟩⟩, fun c8 => absurd rfl c8⟩
    rw [k49_4 Z5.f, Z5.cf.2.2.1] at e11
    have e11 : y11 = nI p5 := e11
    subst e11
    rw [lN_add, lN_add] at e17
    subst e17
    obtain ⟨V7, F7⟩ := hp
    have V7 : CurV h16 50 ra (p5 + sumN b) e := V7
    have Z7 := Z5.mvF (F7.rg _) V7 (by omega)
    have t7 : h16.1 49 17 = nI tz := by rw [F7.2.2 49 (by decide)]; exact t6
    have O7 : Ok 49 [12, 13, 17] h h16 := O6n.tr (F7.ok (by decide))
    have F7n := F6n.tr (F7.up (by decide))
    have hlt : (p5 + sumN b) < 2 ^ 30 := by omega
    refine ⟨by rw [k49_4 Z7.f]; rfl, ?_⟩
    rw [k49_4 Z7.f, Z7.cf.2.2.1, show ((s.sfa p5).sfa (p5 + sumN b)).fa = p5 + sumN b from rfl, pk_sub (by omega), nI_l (by omega), lN_add, lgEQ (by omega) (by omega)]
    refine ⟨fun c9 => ⟨_, lacks49 Z7 (d + c + a) (by omega), fun v25 h24 hp => ?_⟩, fun c9 => ⟨_, S_fail rfl 8 _, fun v41 h40 hp => ?_⟩⟩
    · obtain ⟨S8, O8, F8⟩ := hp
      rw [show ((s.sfa p5).sfa (p5 + sumN b)).fa = p5 + sumN b from rfl] at S8
      have t8 : h24.1 49 17 = nI tz := by rw [O8 17 (by decide)]; exact t7
      have O8n := O7.tr (O8.mono (by decide))
      have F8n := F7n.tr (F8.up (by decide))
      rw [if_neg g1, if_neg (by omega)]
      by_cases g2 : e < p5 + sumN b + (d + c + a)
      · rw [if_pos g2] at S8 ⊢
        obtain ⟨rfl, Z8⟩ := S8
        exact ⟨fun c8 => absurd c8 (by decide), fun _ => ⟨⟨rfl, by decide, p5 + sumN b, Z8⟩, O8n, F8n⟩⟩
      rw [if_neg g2] at S8 ⊢
      obtain ⟨rfl, rfl⟩ := S8
      refine ⟨fun _ => ⟨_, by rw [lN_i, lN_i, lN_i]; exact layParts49 Z7 d c a (by show p5 + sumN b + d + c + a ≤ e; omega), fun h30 hp => ?_⟩, fun c8 => absurd rfl c8⟩
      obtain ⟨⟨Z9, D9, C9, A9⟩, F9⟩ := hp
      refine ⟨by rw [k49_4 Z9.f]; rfl, by rw [k49_8 Z9.f]; rfl, _, by rw [k49_8 Z9.f, k49_4 Z9.f, Z9.cf.2.1, nI_add]; exact S_layC rfl ra p5 (p5 + sumN b), fun h36 hp => ?_⟩
      obtain ⟨VS, F10⟩ := hp
      have Z10 := Z9.oth (F10.mono (by decide) (by decide))
      refine ⟨⟨rfl, Z10, D9.rg F10 (by decide) (by decide), C9.rg F10 (by decide) (by decide), A9.rg F10 (by decide) (by decide), VS, ?_⟩, ?_, ?_⟩
      · rw [F10.1 49 (by decide), F9.1 49 (by decide)]; exact t8
      · exact (O8n.tr (F9.ok (by decide))).tr (F10.ok (by decide))
      · exact (F8n.tr (F9.mono (by decide) (by decide))).tr (F10.mono (by decide) (by decide))
    · obtain ⟨rfl, rfl⟩ := hp
      obtain ⟨B1, B2, B3⟩ := Z7.bad 8 s.fa (by decide) (by decide)
      refine ⟨Or.inl rfl, ?_, O7.tr (B3.mono (by decide)), F7n.tr (B2.up (by decide))⟩
      rw [if_neg g1, if_pos c9]
      exact ⟨rfl, by decide, p5 + sumN b, B1⟩
  refine ⟨fun _ => ⟨fun c9 => fin _ ?_, fun c9 => fin _ ?_⟩, fun c8 => absurd (lpos_ge a (by omega)) c8⟩
  · rw [and4 b hb, nIz (by omega)] at c9
    rw [c9]; rfl
  · rw [and4 b hb, nIz (by omega)] at c9
    rw [show sumN b = 4 by unfold sumN at c9 ⊢; split <;> simp_all]; rfl
