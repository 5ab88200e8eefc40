/-! the class: a given table taken (my own) -/
theorem TabS.tv {h : Hp} {t r a : Nat} (S : TabS SH h t r a UBy) (h1 : h.1 t 1 = nI 4) (h2 : h.1 t 2 = nI 3) : TabV h t r a (UBy, 4, 3) := ⟨S.1, S.2.1, S.2.2.1, S.2.2.2.1, h1, h2, by decide, by decide⟩
theorem atG {w : Wd} {h : Hp} {r a N : Nat} {bs : List Nat} {lo : Bool} (R : RowV SH h r a N bs lo) (j : Nat) (hj : j < bs.length) : C_X8_at w SH r (nI j) h (fun v h1 => h1 = h ∧ v = nI (bs.getD j 0)) := by
  have l1 := R.2.2.2.2.1
  have l2 := R.2.2.2.1
  have e : (if q : j < bs.length then nI bs[j] else -1) = nI (bs.getD j 0) := by
    rw [dif_pos hj, List.getD_eq_getElem?_getD, List.getElem?_eq_getElem hj]; rfl
  have q := S_at (w := w) R j (by omega)
  rw [e] at q
  exact q
theorem takeTable {w : Wd} {h : Hp} {ra rs e : Nat} {src base : List Nat} {s : Ost} (X : HV49 h ra rs e src base (UBy, 4, 3) s) (o : Int32) (ho : o = 0 ∨ o = 1) (q n : Nat) (p15 : h.1 49 15 = nI q) (p16 : h.1 49 16 = nI n) (hq : q + n ≤ e) (hn : 2 ≤ n) (hN : src.getD q 0 ≤ 32) (hS : src.getD (q + 1) 0 ≤ 16) (h0 : s.ft = 0) : C_X7_takeTable w SH 49 o h (fun h1 => (if o = 1 ∧ s.out.length = 1536 ∧ goodB (s.out, src.getD q 0, src.getD (q + 1) 0) = true then HV49 h1 ra rs e src base (s.out, src.getD q 0, src.getD (q + 1) 0) (q + n, [], fun _ => 0, fun _ => 0, 0, cntP true s.tl 7 1, s.ac, 0, 0) else HV49 h1 ra rs e src base (UBy, 4, 3) (s.bad 5 q)) ∧ Ok 49 [12, 13] h h1 ∧ Rg [49, 50, 18, 19, 20, 24, 25, 26, 22, rs] [(50, 0)] h h1) := by
  have bb := X.b
  have hls := X.rr.2.2.2.2.1
  have hlo := X.ro.2.2.2.2.1
  have he := X.e
  refine K_X7_takeTable ⟨rfl, by rw [k49_4 X.f]; rfl, by rw [k49_4 X.f, X.cf.2.1]; exact X.rr.1, _, by rw [k49_4 X.f, X.cf.2.1, p15]; exact atG X.rr q (by omega), fun v8 h7 hp y9 e9 => ?_⟩
  obtain ⟨e1, e2⟩ := hp
  obtain rfl := e1.symm
  rw [e2] at e9
  refine ⟨by rw [k49_4 X.f]; rfl, by rw [k49_4 X.f, X.cf.2.1]; exact X.rr.1, _, by rw [k49_4 X.f, X.cf.2.1, p15, nI_1]; exact atG X.rr (q + 1) (by omega), fun v17 h16 hp y18 e18 => ?_⟩
  obtain ⟨e1, e3⟩ := hp
  obtain rfl := e1.symm
  rw [e3] at e18
  subst e9; subst e18
  generalize hNN : src.getD q 0 = N at hN ⊢
  generalize hSS : src.getD (q + 1) 0 = S at hS ⊢
  have bad : ¬ (o = 1 ∧ s.out.length = 1536 ∧ goodB (s.out, N, S) = true) → ∀ h9 : Hp, HV49 h9 ra rs e src base (UBy, 4, 3) s → h9.1 49 15 = nI q → Ok 49 [12, 13] h h9 → Rg [49, 50, 18, 19, 20, 24, 25, 26, 22, rs] [(50, 0)] h h9 → ∃ P2 : Int32 → Hp → Prop, C_X7_fail w SH 49 (5 : Int32) (h9.1 49 15) h9 P2 ∧ (∀ (v6 : Int32) (h5 : Hp), P2 v6 h5 → ((if o = 1 ∧ s.out.length = 1536 ∧ goodB (s.out, N, S) = true then HV49 h5 ra rs e src base (s.out, N, S) (q + n, [], fun _ => 0, fun _ => 0, 0, cntP true s.tl 7 1, s.ac, 0, 0) else HV49 h5 ra rs e src base (UBy, 4, 3) (s.bad 5 q)) ∧ Ok 49 [12, 13] h h5 ∧ Rg [49, 50, 18, 19, 20, 24, 25, 26, 22, rs] [(50, 0)] h h5)) := by
    intro hb h9 X9 t9 O9 F9
    refine ⟨_, S_fail rfl 5 _, fun v6 h5 hp => ?_⟩
    obtain ⟨rfl, rfl⟩ := hp
    rw [t9]
    obtain ⟨B1, B2, B3⟩ := X9.bad 5 q (by decide) (by decide)
    refine ⟨?_, O9.tr B3, F9.tr (B2.up (by simp))⟩
    rw [if_neg hb]
    exact B1
  refine ⟨fun c7 => ⟨rfl, bad (fun q => absurd (c7.symm.trans q.1) (by decide)) h X p15 Ok.rf Rg.rf⟩, fun c7 => ⟨by rw [X.o.2.1]; exact X.ro.1, _, by rw [X.o.2.1]; exact S_length X.ro, fun v26 h25 hp => ?_⟩⟩
  obtain ⟨e1, e2⟩ := hp
  obtain rfl := e1.symm
  subst e2
  have ho1 : o = 1 := ho.resolve_left c7
  rw [show (1536 : Int32) = nI 1536 from rfl, nI_eq (by omega) (by omega)]
  refine ⟨fun c8 => ⟨by rw [k49_0 X.f]; rfl, _, by rw [k49_0 X.f, X.o.2.1]; exact S_become X.t ⟨by decide, by decide⟩ X.ro (by omega) c8 N S hN hS, fun h32 hp => ?_⟩, fun c8 => ⟨rfl, bad (fun q => absurd q.2.1 c8) h X p15 Ok.rf Rg.rf⟩⟩
  obtain ⟨T32, F32⟩ := hp
  have f32 := X.f.fr F32
  have G32 : Rg [49, 50, 18, 19, 20, 24, 25, 26, 22, rs] [(50, 0)] h h32 := F32.up (by simp)
  have O32 : Ok 49 [12, 13] h h32 := F32.ok (by decide)
  refine ⟨by rw [k49_0 f32]; rfl, _, by rw [k49_0 f32]; exact S_isGood T32, fun v38 h37 hp => ?_⟩
  obtain ⟨e1, ev, ig⟩ := hp
  obtain rfl := e1.symm
  have o32 : h32.2.1 49 11 = rs := by rw [F32.1]; exact X.o.2.1
  have ro32 : RowV SH h32 rs (rs + 1) 8000 s.out false := X.ro.fr F32 (by simp; omega) (by simp; omega)
  refine ⟨fun c9 => ⟨by rw [o32]; exact ro32.1, _, by rw [o32]; exact S_clear ro32, fun h44 hp => ?_⟩, fun c9 => ⟨by rw [k49_0 f32]; rfl, _, by rw [k49_0 f32]; exact S_becomeUsual T32.1 T32.2.1 T32.2.2.1 (by decide) (by decide), fun h70 hp => ?_⟩⟩
  · have gd : GoodT (s.out, N, S) := ig.mp (ev.resolve_left c9)
    obtain ⟨R44, F44⟩ := hp
    have f44 := f32.fr F44
    have C := cc49 f44
    refine ⟨by rw [k49_1 f44]; rfl, _, by rw [k49_1 f44]; exact S_fit C.1 C.2.1 C.2.2.1 C.2.2.2.1 C.2.2.2.2.1 (by decide) (by decide) (by decide) N S (by omega) (by omega), fun h49 hp => ?_⟩
    obtain ⟨z1, z2, z3, z4, z5, F49⟩ := hp
    have f49 := f44.fr F49
    have L49 : LogW true h49 21 22 23 s.tl s.ac := ((X.l.fr F32 (by decide) (by decide) (by decide)).fr F44 (by simp; omega) (by simp; omega) (by simp; omega)).fr F49 (by decide) (by decide) (by decide)
    refine ⟨by rw [k49_2 f49]; rfl, _, by rw [k49_2 f49]; exact S_count (lc49 f49) L49 7 1 (by decide), fun h54 hp => ?_⟩
    obtain ⟨L54, F54⟩ := hp
    have f54 := f49.fr F54
    have G54 : Fr [18, 19, 20, 24, 25, 26, 22, rs] h h54 := (((F32.mono (by simp)).tr1 (F44.mono (by simp))).tr1 (F49.mono (by simp))).tr1 (F54.mono (by simp))
    have i54 : h54.1 49 = h.1 49 := G54.2.2 49 (by simp; omega)
    have cf54 : CurV h54 50 ra s.fa e := X.cf.fr G54 (by simp; omega)
    refine ⟨by rw [k49_4 f54]; rfl, _, K_X7_tableEnd (RET := fun v h1 => h1 = h54 ∧ v = nI (q + n)) ⟨rfl, rfl, by rw [i54, p15, p16, nI_add]⟩, fun v60 h59 hp => ?_⟩
    obtain ⟨e1, e2⟩ := hp
    obtain rfl := e1.symm
    subst e2
    refine ⟨by rw [k49_4 f54]; rfl, _, by rw [k49_4 f54, cf54.2.1, cf54.2.2.2]; exact S_layC rfl ra (q + n) e, fun h65 hp => ?_⟩
    obtain ⟨V65, F65⟩ := hp
    have GG : Rg [49, 50, 18, 19, 20, 24, 25, 26, 22, rs] [(50, 0)] h h65 := (G54.up (by simp)).tr (F65.mono (by simp) (by simp))
    refine ⟨?_, ?_, GG⟩
    · rw [if_pos ⟨ho1, c8, (goodB_iff _).mpr gd⟩]
      have R54 : RowV SH h54 rs (rs + 1) 8000 [] false := (R44.fr F49 (by simp; omega) (by simp; omega)).fr F54 (by simp; omega) (by simp; omega)
      have T54 : TabV h54 18 19 20 (s.out, N, S) := by
        have a := T32.ag (h1 := h54) ⟨by rw [F54.2.2 18 (by decide), F49.2.2 18 (by decide), F44.2.2 18 (by simp; omega)], by rw [F54.1, F49.1, F44.1]⟩ ⟨by rw [F54.2.2 19 (by decide), F49.2.2 19 (by decide), F44.2.2 19 (by simp; omega)], by rw [F54.1, F49.1, F44.1]⟩ (by rw [F54.2.2 20 (by decide), F49.2.2 20 (by decide), F44.2.2 20 (by simp; omega)])
        exact a
      refine HV49.of ⟨F65.fin f54 (by decide +kernel), bb, X.rr.rg GG (by simp; omega) (by simp; omega) (by simp; omega), R54.rg F65 (by simp; omega) (by simp; omega) (by simp; omega), X.rb.rg GG (by simp; omega) (by simp; omega) (by decide), T54.rg F65 (by decide) (by decide) (by decide) (by decide) (by decide), V65, ?_, L54.rg F65 (by decide) (by decide) (by decide), ?_, ⟨hN, by show 256 * S ≤ 4096; omega⟩, ⟨hq, he.2⟩, fun _ => (by show (0 : Nat) < 16000; decide), fun _ => (by show (0 : Nat) < 16000; decide), ?_, X.ac, gd, (by show (0 : Nat) < 17; decide)⟩
      · have W : CacW h49 24 25 26 N S (fun _ => 0) (fun _ => 0) 0 := ⟨z4, z5, z3, fun i hi => z1 i (by omega), fun i hi => z2 i (by omega)⟩
        exact (W.fr F54 (by decide) (by decide) (by decide)).rg F65 (by decide) (by decide) (by decide)
      · have ox := X.o
        rw [h0, if_pos rfl] at ox
        rw [F65.2.1 49 10 (by decide), F65.2.1 49 11 (by decide), F65.1 49 (by decide), G54.1, i54]
        exact ox
      · show 0 < N ∨ (N = 0 ∧ 0 = 0)
        omega
    · intro k hk
      rw [F65.1 49 (by decide), i54]
  · have ngd : ¬ GoodT (s.out, N, S) := fun g => by
      have := ig.mpr g
      rw [c9] at this
      exact absurd this (by decide)
    obtain ⟨T70, F70, n70, s70⟩ := hp
    have GF : Fr [18, 19, 20] h h70 := F32.tr1 F70
    refine bad (fun q => ngd ((goodB_iff _).mp q.2.2)) h70 ?_ (by rw [GF.2.2 49 (by decide)]; exact p15) (GF.ok (by decide)) (GF.up (by simp))
    exact HV49.of ⟨X.f.fr GF, bb, X.rr.fr GF (by simp; omega) (by simp; omega), X.ro.fr GF (by simp; omega) (by simp; omega), X.rb.fr GF (by decide) (by decide), T70.tv n70 s70, X.cf.fr GF (by decide), X.k.fr GF (by decide) (by decide) (by decide), X.l.fr GF (by decide) (by decide) (by decide), by rw [GF.1, GF.2.2 49 (by decide)]; exact X.o, X.kN, X.e, X.nr, X.sm, X.nx, X.ac, X.g, X.ft⟩
