/-! cursors, logs and caches (my own) -/
def CurV (h : Hp) (c ra a e : Nat) : Prop := shAt SH c = some (.inr 2) ∧ h.2.1 c 0 = ra ∧ h.1 c 1 = nI a ∧ h.1 c 2 = nI e
theorem CurV.fr {h h1 : Hp} {c ra a e : Nat} {S : List Nat} (V : CurV h c ra a e) (F : Fr S h h1) (hc : c ∉ S) : CurV h1 c ra a e := ⟨V.1, by rw [F.1]; exact V.2.1, by rw [F.2.2 c hc]; exact V.2.2.1, by rw [F.2.2 c hc]; exact V.2.2.2⟩
/-- what is outside the cells S is as it was, so are all refs but R, and all longs -/
def Rg (S : List Nat) (R : List (Nat × Nat)) (h h1 : Hp) : Prop := (∀ c, c ∉ S → h1.1 c = h.1 c) ∧ (∀ c k, (c, k) ∉ R → h1.2.1 c k = h.2.1 c k) ∧ h1.2.2 = h.2.2
theorem Fr.rg {S : List Nat} {h h1 : Hp} (F : Fr S h h1) (R : List (Nat × Nat)) : Rg S R h h1 := ⟨F.2.2, fun c k _ => by rw [F.1], F.2.1⟩
theorem Rg.rf {S : List Nat} {R : List (Nat × Nat)} {h : Hp} : Rg S R h h := ⟨fun _ _ => rfl, fun _ _ _ => rfl, rfl⟩
theorem Rg.mono {S S' : List Nat} {R R' : List (Nat × Nat)} {h h1 : Hp} (a : Rg S R h h1) (hs : ∀ c, c ∈ S → c ∈ S') (hr : ∀ c, c ∈ R → c ∈ R') : Rg S' R' h h1 := ⟨fun c hc => a.1 c fun q => hc (hs c q), fun c k hc => a.2.1 c k fun q => hc (hr _ q), a.2.2⟩
theorem Rg.tr {S : List Nat} {R : List (Nat × Nat)} {h h1 h2 : Hp} (a : Rg S R h h1) (b : Rg S R h1 h2) : Rg S R h h2 := ⟨fun c hc => (b.1 c hc).trans (a.1 c hc), fun c k hc => (b.2.1 c k hc).trans (a.2.1 c k hc), b.2.2.trans a.2.2⟩
theorem Rg.fin {S : List Nat} {R : List (Nat × Nat)} {h h1 : Hp} (a : Rg S R h h1) (f : Fin h) (hr : ∀ q ∈ FINS, (q.1, q.2.1) ∉ R) : Fin h1 := fun q hq => by rw [a.2.1 _ _ (hr q hq)]; exact f q hq
theorem wR_cellx {h : Hp} {c k d j r : Nat} (hd : (d, j) ≠ (c, k)) : (wR h c k r).2.1 d j = h.2.1 d j := by
  have : ¬ (d = c ∧ j = k) := fun q => hd (by rw [q.1, q.2])
  simp [wR, this]
theorem wR_samex {h : Hp} {c k r : Nat} : (wR h c k r).2.1 c k = r := by simp [wR]
theorem Rg.putI {S : List Nat} {R : List (Nat × Nat)} {h h1 : Hp} {c k : Nat} {v : Int32} (a : Rg S R h h1) (hc : c ∈ S) : Rg S R h (wI h1 c k v) := ⟨fun d hd => by
  have : d ≠ c := fun e => hd (e ▸ hc)
  rw [wI_cell this]; exact a.1 d hd, a.2.1, a.2.2⟩
theorem Rg.putR {S : List Nat} {R : List (Nat × Nat)} {h h1 : Hp} {c k r : Nat} (a : Rg S R h h1) (hc : (c, k) ∈ R) : Rg S R h (wR h1 c k r) := ⟨a.1, fun d j hd => by
  have : (d, j) ≠ (c, k) := fun e => hd (e ▸ hc)
  rw [wR_cellx this]; exact a.2.1 d j hd, a.2.2⟩
theorem S_layC {w : Wd} {h : Hp} {c : Nat} (hc : shAt SH c = some (.inr 2)) (r a e : Nat) : C_X2_lay w SH c r (nI a) (nI e) h (fun h1 => CurV h1 c r a e ∧ Rg [c] [(c, 0)] h h1) := by
  refine K_X2_lay ⟨hc, fun h2 e2 h4 e4 h6 e6 => ?_⟩
  subst e2; subst e4; subst e6
  exact ⟨⟨hc, wR_samex, by rw [wI_idx (by decide), wI_same], wI_same⟩, ((Rg.rf.putR (by simp)).putI (by simp)).putI (by simp)⟩
theorem S_left {w : Wd} {h : Hp} {c ra a e : Nat} (V : CurV h c ra a e) (ha : a ≤ e) : C_X2_left w SH c h (fun v h1 => h1 = h ∧ v = nI (e - a)) :=
  K_X2_left ⟨V.1, rfl, by rw [V.2.2.1, V.2.2.2, pk_sub ha]⟩
theorem CurV.mv {h : Hp} {c ra a e : Nat} (V : CurV h c ra a e) (b : Nat) : CurV (wI h c 1 (nI b)) c ra b e := ⟨V.1, V.2.1, wI_same, by rw [wI_idx (by decide)]; exact V.2.2.2⟩
theorem S_pass {w : Wd} {h : Hp} {c ra a e : Nat} (V : CurV h c ra a e) (n : Nat) : C_X2_pass w SH c (nI n) h (fun h1 => CurV h1 c ra (a + n) e ∧ Fr [c] h h1) := by
  refine K_X2_pass ⟨V.1, fun h2 e2 => ?_⟩
  rw [V.2.2.1, nI_add] at e2
  subst e2
  exact ⟨V.mv _, Fr.rf.put (by simp)⟩
theorem S_next {w : Wd} {h : Hp} {c ra a e N : Nat} {src : List Nat} {lo : Bool} {aa : Nat} (V : CurV h c ra a e) (R : RowV SH h ra aa N src lo) (he : e ≤ src.length) (ha : a ≤ e) : C_X2_next w SH c h (fun v h1 => (a < e → v = nI (src.getD a 0) ∧ CurV h1 c ra (a + 1) e) ∧ (¬ a < e → v = -1 ∧ h1 = h) ∧ Fr [c] h h1) := by
  have hN := R.2.2.2.1
  have hl := R.2.2.2.2.1
  refine K_X2_next ⟨V.1, fun c => ⟨by rw [V.2.1]; exact R.1, _, by rw [V.2.1, V.2.2.1]; exact S_at R a (by omega), fun v8 h7 hp y9 e9 h11 e11 => ?_⟩, fun c => ?_⟩
  · obtain ⟨rfl, rfl⟩ := hp
    rw [V.2.2.1, V.2.2.2, nI_ltI (by omega) (by omega)] at c
    rw [V.2.2.1, nI_1] at e11
    subst e11; subst e9
    refine ⟨fun _ => ⟨?_, V.mv _⟩, fun q => absurd c q, Fr.rf.put (by simp)⟩
    have : a < src.length := by omega
    rw [dif_pos this, getD_at this]
  · rw [V.2.2.1, V.2.2.2, nI_ltI (by omega) (by omega)] at c
    exact ⟨fun q => absurd q c, fun _ => ⟨rfl, rfl⟩, Fr.rf⟩
theorem and127 (b : Nat) (hb : b < 256) : nI b &&& (127 : Int32) = nI (b % 128) := by
  rw [pk_and (nI b) (m := 127) 7 (by decide), pk_tn (by omega)]
theorem lgLE {a b : Nat} (ha : a < 2 ^ 63) (hb : b < 2 ^ 63) : (lg_cmp (lN a) (lN b) ≤ 0) ↔ a ≤ b := by rw [lg_cmp_le, pk_lLE ha hb]
theorem lgLT {a b : Nat} (ha : a < 2 ^ 63) (hb : b < 2 ^ 63) : (lg_cmp (lN a) (lN b) < 0) ↔ a < b := by rw [lg_cmp_lt, pk_lLT ha hb]
theorem lgGE {a b : Nat} (ha : a < 2 ^ 63) (hb : b < 2 ^ 63) : (0 ≤ lg_cmp (lN a) (lN b)) ↔ b ≤ a := by rw [lg_cmp_ge, pk_lLE hb ha]
theorem lgEQ {a b : Nat} (ha : a < 2 ^ 63) (hb : b < 2 ^ 63) : (lg_cmp (lN a) (lN b) = 0) ↔ a = b := by rw [lg_cmp_eq, pk_lEQ ha hb]
/-- what nextBig says of a BIG number -/
def bigSays (r : Sum Bool (Nat × Nat)) (q : Nat) (v : Int64) : Prop := match r with
  | .inl true => v = -2
  | .inl false => v = -1
  | .inr (n, p) => v = lN n ∧ q = p
theorem S_nextBig {w : Wd} {h : Hp} {c ra a e N : Nat} {src : List Nat} {lo : Bool} {aa : Nat} (V : CurV h c ra a e) (R : RowV SH h ra aa N src lo) (hca : c ≠ ra ∧ c ≠ aa) (he : e ≤ src.length) (ha : a ≤ e) : C_X2_nextBig w SH c h (fun v h1 => ∃ q, a ≤ q ∧ q ≤ e ∧ CurV h1 c ra q e ∧ Fr [c] h h1 ∧ bigSays (bigP src e a) q v) := by
  have hN := R.2.2.2.1
  have hl := R.2.2.2.2.1
  refine K_X2_nextBig nlt_wf (fun m x0 x1 x3 h' => x0 = c ∧ ∃ k p v, m = k ∧ k ≤ 5 ∧ x3 = nI (5 - k) ∧ x1 = lN v ∧ v < 128 ^ (5 - k) ∧ a ≤ p ∧ p ≤ e ∧ CurV h' c ra p e ∧ Fr [c] h h' ∧ bigGo src e k p v = bigP src e a) ?_ ?_
  · intro y1 e1 y3 e3
    exact ⟨5, rfl, 5, a, 0, rfl, by omega, e3, e1, by decide, Nat.le_refl _, ha, V, Fr.rf, rfl⟩
  · rintro m x0 x1 x3 h' ⟨rfl, k, p, v, rfl, hk, rfl, rfl, hv, hap, hpe, V', F, he'⟩
    have R' := R.fr F (by simp; exact hca.1.symm) (by simp; exact hca.2.symm)
    refine ⟨fun c5 => ?_, fun c5 => ⟨V'.1, fun c6 => ⟨by rw [V'.2.1]; exact R.1, _, by rw [V'.2.1, V'.2.2.1]; exact S_at R' p (by omega), fun v9 h8 hp y10 e10 h12 e12 y14 e14 => ?_⟩, fun c6 => ?_⟩⟩
    · rw [show (5 : Int32) = nI 5 from rfl, nI_leI (by omega) (by omega)] at c5
      have : m = 0 := by omega
      subst this
      rw [bigGo] at he'
      exact ⟨p, hap, hpe, V', F, by rw [← he']; rfl⟩
    · rw [show (5 : Int32) = nI 5 from rfl, nI_leI (by omega) (by omega)] at c5
      obtain ⟨rfl, rfl⟩ := hp
      rw [V'.2.2.1, V'.2.2.2, nI_ltI (by omega) (by omega)] at c6
      rw [V'.2.2.1, nI_1] at e12
      subst e12
      have hps : p < src.length := by omega
      rw [dif_pos hps] at e10
      have hb := R.lt hps
      have hg : src.getD p 0 = src[p] := getD_at hps
      rw [e10, and127 _ hb, nI_l (by omega), show (128 : Int64) = lN 128 from rfl, lN_mul, lN_add] at e14
      subst e10; subst e14
      obtain ⟨k, rfl⟩ : ∃ k, m = k + 1 := ⟨m - 1, by omega⟩
      rw [bigGo, if_neg (by omega), hg] at he'
      have hv' : v * 128 + src[p] % 128 < 128 ^ (5 - k) := by
        have h5 : 5 - k = (5 - (k + 1)) + 1 := by omega
        rw [h5, Nat.pow_succ]
        have := Nat.mod_lt src[p] (show 0 < 128 by decide)
        omega
      have hv2 : v * 128 + src[p] % 128 < 2 ^ 63 := Nat.lt_of_lt_of_le hv' (Nat.le_trans (Nat.pow_le_pow_right (by decide) (show 5 - k ≤ 5 by omega)) (by decide))
      refine ⟨fun c7 y17 e17 => ?_, fun c7 => ?_⟩
      · rw [show (128 : Int32) = nI 128 from rfl, nI_leI (by omega) (by omega)] at c7
        rw [if_neg (by omega)] at he'
        refine ⟨k, by omega, rfl, k, p + 1, _, rfl, by omega, ?_, rfl, hv', by omega, by omega, V'.mv _, F.put (by simp), he'⟩
        rw [e17, nI_1]; congr 1; omega
      · rw [show (128 : Int32) = nI 128 from rfl, nI_leI (by omega) (by omega)] at c7
        rw [if_pos (by omega)] at he'
        rw [show (4294967295 : Int64) = lN 4294967295 from rfl, lgLE hv2 (by decide)]
        refine ⟨fun c8 => ?_, fun c8 => ?_⟩
        · rw [if_neg (by omega)] at he'
          exact ⟨p + 1, by omega, by omega, V'.mv _, F.put (by simp), by rw [← he']; exact ⟨rfl, rfl⟩⟩
        · rw [if_pos (by omega)] at he'
          exact ⟨p + 1, by omega, by omega, V'.mv _, F.put (by simp), by rw [← he']; rfl⟩
    · rw [show (5 : Int32) = nI 5 from rfl, nI_leI (by omega) (by omega)] at c5
      rw [V'.2.2.1, V'.2.2.2, nI_ltI (by omega) (by omega)] at c6
      obtain ⟨k, rfl⟩ : ∃ k, m = k + 1 := ⟨m - 1, by omega⟩
      rw [bigGo, if_pos (by omega)] at he'
      exact ⟨p, hap, hpe, V', F, by rw [← he']; rfl⟩
def LogW (own : Bool) (h : Hp) (l lc ld : Nat) (tl : Nat → Nat) (ac : AcL) : Prop := if own = true then ((∀ j, j < 8 → h.1 lc j = nI (tl j) ∧ True) ∧ h.1 l 2 = nI ac.length ∧ ac.length ≤ 2000 ∧ ∀ i (hi : i < ac.length), h.1 ld (4 * i) = nI ac[i].1 ∧ h.1 ld (4 * i + 1) = nI ac[i].2.1 ∧ h.1 ld (4 * i + 2) = ac[i].2.2.1 ∧ h.1 ld (4 * i + 3) = nI ac[i].2.2.2) else h.1 l 2 = 0
theorem LogW.fr {own : Bool} {h h1 : Hp} {l lc ld : Nat} {tl : Nat → Nat} {ac : AcL} {S : List Nat} (V : LogW own h l lc ld tl ac) (F : Fr S h h1) (a : l ∉ S) (b : lc ∉ S) (c : ld ∉ S) : LogW own h1 l lc ld tl ac := by
  unfold LogW
  rw [F.2.2 l a, F.2.2 lc b, F.2.2 ld c]
  exact V
/-- the cells of a log -/
def LogC (own : Bool) (h : Hp) (l lc ld : Nat) : Prop := shAt SH l = some (.inr 4) ∧ h.2.1 l 0 = lc ∧ h.2.1 l 1 = ld ∧ shAt SH lc = some (.inl (1, 8)) ∧ shAt SH ld = some (.inl (1, if own = true then 8000 else 0)) ∧ lc ≠ ld
theorem S_count {w : Wd} {own : Bool} {h : Hp} {l lc ld : Nat} {tl : Nat → Nat} {ac : AcL} (C : LogC own h l lc ld) (V : LogW own h l lc ld tl ac) (k n : Nat) (hk : k < 8) : C_X4_count w SH l (nI k) (nI n) h (fun h1 => LogW own h1 l lc ld (cntP own tl k n) ac ∧ Fr [lc] h h1) := by
  obtain ⟨c1, c2, c3, c4, c5, c6⟩ := C
  have nl : l ≠ lc := fun e => by rw [e, c4] at c1; cases c1
  refine K_X4_count ⟨fun c => absurd c (nI_pos (by omega)), fun _ => ⟨fun c => ?_, fun _ => ⟨c1, 8, by rw [c2]; exact c4, vp_in_nI hk (by decide), vp_in_nI hk (by decide), fun h8 e8 => ?_⟩⟩⟩
  · rw [show (8 : Int32) = nI 8 from rfl, nI_leI (by omega) (by omega)] at c
    omega
  · rw [c2, nI_clamp (by omega)] at e8
    subst e8
    refine ⟨?_, Fr.rf.put (by simp)⟩
    unfold LogW at V ⊢
    cases own with
    | false =>
      rw [if_neg (by simp)] at V ⊢
      rw [wI_cell nl]; exact V
    | true =>
      rw [if_pos rfl] at V ⊢
      obtain ⟨v1, v2, v3, v4⟩ := V
      refine ⟨fun j hj => ⟨?_, trivial⟩, by rw [wI_cell nl]; exact v2, v3, fun i hi => by rw [wI_cell (Ne.symm c6)]; exact v4 i hi⟩
      by_cases hjk : j = k
      · subst hjk
        rw [wI_same, (v1 j hj).1, nI_add]
        simp [cntP, updN]
      · rw [wI_idx hjk, (v1 j hj).1]
        simp [cntP, updN, hjk]
theorem S_through {w : Wd} {own : Bool} {h : Hp} {l lc ld : Nat} {tl : Nat → Nat} {ac : AcL} (C : LogC own h l lc ld) (V : LogW own h l lc ld tl ac) (kind n m : Nat) (a : Int32) (hk : kind < 8) : C_X4_through w SH l (nI kind) (nI n) a (nI m) h (fun h1 => LogW own h1 l lc ld (thrT own tl kind n) (thrA own ac kind n a m) ∧ Fr [l, lc, ld] h h1) := by
  have C' := C
  obtain ⟨c1, c2, c3, c4, c5, c6⟩ := C
  have nl : l ≠ lc := fun e => by rw [e, c4] at c1; cases c1
  have nd : l ≠ ld := fun e => by rw [e, c5] at c1; cases c1
  refine K_X4_through ⟨c1, _, S_count C' V kind 1 hk, fun h5 hp => ?_⟩
  obtain ⟨V1, F1⟩ := hp
  have C1 : LogC own h5 l lc ld := ⟨c1, by rw [F1.1]; exact c2, by rw [F1.1]; exact c3, c4, c5, c6⟩
  refine ⟨_, S_count C1 V1 5 n (by decide), fun h9 hp y10 e10 => ?_⟩
  obtain ⟨V2, F2⟩ := hp
  have F12 : Fr [l, lc, ld] h h9 := (F1.mono (by simp)).tr1 (F2.mono (by simp))
  refine ⟨(if own = true then 8000 else 0), by rw [F2.1, F1.1, c3]; exact c5, ?_, ?_⟩
  · intro c7
    refine ⟨?_, F12⟩
    unfold thrT
    have : thrA own ac kind n a m = ac := by
      unfold thrA
      cases own with
      | false => simp
      | true =>
        rw [if_neg]
        unfold LogW at V2
        rw [if_pos rfl] at V2
        rw [if_pos rfl, e10, V2.2.1, show (4 : Int32) = nI 4 from rfl, pk_mul, nI_add, ofN, nI_ltI (by decide) (by have := V2.2.2.1; omega)] at c7
        intro q
        omega
    rw [this]
    exact V2
  · intro c7
    cases own with
    | false =>
      unfold LogW at V2
      rw [if_neg (by simp)] at V2
      rw [if_neg (by simp), e10, V2] at c7
      exact absurd (by decide) c7
    | true =>
      have V3 := V2
      unfold LogW at V3
      rw [if_pos rfl] at V3
      obtain ⟨v1, v2, v3, v4⟩ := V3
      rw [if_pos rfl, e10, v2, show (4 : Int32) = nI 4 from rfl, pk_mul, nI_add, ofN, nI_ltI (by decide) (by omega)] at c7
      rw [v2, show (4 : Int32) = nI 4 from rfl, pk_mul] at e10
      have k3 : h9.2.1 l 1 = ld := by rw [F2.1, F1.1]; exact c3
      subst e10
      rw [if_pos rfl, k3, show (1 : Int32) = nI 1 from rfl, show (2 : Int32) = nI 2 from rfl, show (3 : Int32) = nI 3 from rfl, nI_add, nI_add, nI_add, nI_clamp (by omega), nI_clamp (by omega), nI_clamp (by omega), nI_clamp (by omega)]
      refine ⟨vp_in_nI (by omega) (by decide), fun h16 e16 => ⟨vp_in_nI (by omega) (by decide), fun h19 e19 => ⟨vp_in_nI (by omega) (by decide), fun h22 e22 => ⟨vp_in_nI (by omega) (by decide), fun h25 e25 h27 e27 => ?_⟩⟩⟩⟩
      have g : h25.1 l 2 = nI ac.length := by
        rw [e25, e22, e19, e16, wI_cell nd, wI_cell nd, wI_cell nd, wI_cell nd]; exact v2
      rw [g, nI_add] at e27
      have hl : ac.length < 2000 := by omega
      have e : thrA true ac kind n a m = ac ++ [(kind, n, a, m)] := by unfold thrA; rw [if_pos ⟨rfl, hl⟩]
      rw [e]
      subst e27; subst e25; subst e22; subst e19; subst e16
      refine ⟨?_, ((((F12.put (by simp)).put (by simp)).put (by simp)).put (by simp)).put (by simp)⟩
      unfold LogW
      rw [if_pos rfl]
      refine ⟨fun j hj => ?_, ?_, by simp; omega, fun i hi => ?_⟩
      · rw [wI_cell (Ne.symm nl), wI_cell c6, wI_cell c6, wI_cell c6, wI_cell c6]
        exact v1 j hj
      · rw [wI_same]; simp
      · rw [wI_cell (Ne.symm nd)]
        by_cases hil : i = ac.length
        · subst hil
          rw [List.getElem_append_right (Nat.le_refl _)]
          simp only [Nat.sub_self, List.getElem_singleton]
          rw [Nat.mul_comm 4 ac.length]
          refine ⟨?_, ?_, ?_, ?_⟩
          · rw [wI_idx (by omega), wI_idx (by omega), wI_idx (by omega), wI_same]
          · rw [wI_idx (by omega), wI_idx (by omega), wI_same]
          · rw [wI_idx (by omega), wI_same]
          · rw [wI_same]
        · have hi2 : i < ac.length := by simp at hi; omega
          rw [List.getElem_append_left hi2]
          obtain ⟨u1, u2, u3, u4⟩ := v4 i hi2
          refine ⟨?_, ?_, ?_, ?_⟩
          · rw [wI_idx (by omega), wI_idx (by omega), wI_idx (by omega), wI_idx (by omega)]; exact u1
          · rw [wI_idx (by omega), wI_idx (by omega), wI_idx (by omega), wI_idx (by omega)]; exact u2
          · rw [wI_idx (by omega), wI_idx (by omega), wI_idx (by omega), wI_idx (by omega)]; exact u3
          · rw [wI_idx (by omega), wI_idx (by omega), wI_idx (by omega), wI_idx (by omega)]; exact u4
def CacW (h : Hp) (k kn ks N S : Nat) (nr sm : Nat → Nat) (nx : Nat) : Prop := h.1 k 2 = nI N ∧ h.1 k 3 = nI (256 * S) ∧ h.1 k 4 = nI nx ∧ (∀ i, i < N → h.1 kn i = nI (nr i)) ∧ (∀ i, i < 256 * S → h.1 ks i = nI (sm i))
theorem CacW.fr {h h1 : Hp} {k kn ks N S : Nat} {nr sm : Nat → Nat} {nx : Nat} {Q : List Nat} (V : CacW h k kn ks N S nr sm nx) (F : Fr Q h h1) (a : k ∉ Q) (b : kn ∉ Q) (c : ks ∉ Q) : CacW h1 k kn ks N S nr sm nx := by
  unfold CacW
  rw [F.2.2 k a, F.2.2 kn b, F.2.2 ks c]
  exact V
def CacC (h : Hp) (k kn ks Nn Ns : Nat) : Prop := shAt SH k = some (.inr 0) ∧ h.2.1 k 0 = kn ∧ h.2.1 k 1 = ks ∧ shAt SH kn = some (.inl (1, Nn)) ∧ shAt SH ks = some (.inl (1, Ns)) ∧ kn ≠ ks ∧ Nn < 2 ^ 31 ∧ Ns < 2 ^ 31
theorem S_nearAt {w : Wd} {h : Hp} {k kn ks N S Nn Ns : Nat} {nr sm : Nat → Nat} {nx : Nat} (C : CacC h k kn ks Nn Ns) (V : CacW h k kn ks N S nr sm nx) (hN : N ≤ Nn) (i : Nat) (hi : i < N) : C_X0_nearAt w SH k (nI i) h (fun v h1 => h1 = h ∧ v = nI (nr i)) := by
  obtain ⟨c1, c2, c3, c4, c5, c6, c7, c8⟩ := C
  obtain ⟨v1, v2, v3, v4, v5⟩ := V
  refine K_X0_nearAt ⟨fun c => absurd c (nI_pos (by omega)), fun _ => ⟨c1, fun c => ?_, fun _ => ⟨Nn, by rw [c2]; exact c4, vp_in_nI (by omega) c7, rfl, ?_⟩⟩⟩
  · rw [v1, nI_leI (by omega) (by omega)] at c
    omega
  · rw [c2, nI_clamp (by omega)]; exact v4 i hi
theorem S_sameAt {w : Wd} {h : Hp} {k kn ks N S Nn Ns : Nat} {nr sm : Nat → Nat} {nx : Nat} (C : CacC h k kn ks Nn Ns) (V : CacW h k kn ks N S nr sm nx) (hS : 256 * S ≤ Ns) (i : Nat) (hi : i < 256 * S) : C_X0_sameAt w SH k (nI i) h (fun v h1 => h1 = h ∧ v = nI (sm i)) := by
  obtain ⟨c1, c2, c3, c4, c5, c6, c7, c8⟩ := C
  obtain ⟨v1, v2, v3, v4, v5⟩ := V
  refine K_X0_sameAt ⟨fun c => absurd c (nI_pos (by omega)), fun _ => ⟨c1, fun c => ?_, fun _ => ⟨Ns, by rw [c3]; exact c5, vp_in_nI (by omega) c8, rfl, ?_⟩⟩⟩
  · rw [v2, nI_leI (by omega) (by omega)] at c
    omega
  · rw [c3, nI_clamp (by omega)]; exact v5 i hi
theorem S_keep {w : Wd} {h : Hp} {k kn ks N S Nn Ns : Nat} {nr sm : Nat → Nat} {nx : Nat} (C : CacC h k kn ks Nn Ns) (V : CacW h k kn ks N S nr sm nx) (hN : N ≤ Nn) (hS : 256 * S ≤ Ns) (hx : nx < N ∨ (N = 0 ∧ nx = 0)) (a : Nat) (ha : a < 2 ^ 31) : C_X0_keep w SH k (nI a) h (fun h1 => CacW h1 k kn ks N S (keepN N nr nx a) (keepS S sm a) (keepX N nx) ∧ Fr [k, kn, ks] h h1) := by
  obtain ⟨c1, c2, c3, c4, c5, c6, c7, c8⟩ := C
  have nkn : k ≠ kn := fun e => by rw [e, c4] at c1; cases c1
  have nks : k ≠ ks := fun e => by rw [e, c5] at c1; cases c1
  have fin : ∀ h', CacW h' k kn ks N S (keepN N nr nx a) sm (keepX N nx) → Fr [k, kn, ks] h h' → V_X0_keep_36 w SH k (nI a) h' (fun h1 => CacW h1 k kn ks N S (keepN N nr nx a) (keepS S sm a) (keepX N nx) ∧ Fr [k, kn, ks] h h1) := by
    intro h' W F
    obtain ⟨v1, v2, v3, v4, v5⟩ := id W
    refine ⟨c1, fun c => ?_, fun c => ⟨fun c9 => absurd c9 (nI_pos ha), fun _ => ⟨?_, Ns, by rw [F.1, c3]; exact c5, ?_, fun h8 e8 => ?_⟩⟩⟩
    · rw [v2, show (0 : Int32) = nI 0 from rfl, nI_leI (by omega) (by omega)] at c
      have : S = 0 := by omega
      subst this
      refine ⟨⟨v1, v2, v3, v4, fun i hi => absurd hi (by omega)⟩, F⟩
    · rw [v2, show (0 : Int32) = nI 0 from rfl, nI_leI (by omega) (by omega)] at c
      rw [v2, show (0 : Int32) = nI 0 from rfl, nI_eq (by omega) (by omega)]
      omega
    · rw [v2, show (0 : Int32) = nI 0 from rfl, nI_leI (by omega) (by omega)] at c
      rw [v2, pk_rem ha (by omega) (by omega)]
      have := Nat.mod_lt a (show 0 < 256 * S by omega)
      exact vp_in_nI (by omega) c8
    · rw [v2, show (0 : Int32) = nI 0 from rfl, nI_leI (by omega) (by omega)] at c
      have hm := Nat.mod_lt a (show 0 < 256 * S by omega)
      rw [v2, pk_rem ha (by omega) (by omega), F.1, c3, nI_clamp (by omega)] at e8
      subst e8
      refine ⟨⟨by rw [wI_cell nks]; exact v1, by rw [wI_cell nks]; exact v2, by rw [wI_cell nks]; exact v3, fun i hi => by rw [wI_cell c6]; exact v4 i hi, fun i hi => ?_⟩, F.put (by simp)⟩
      unfold keepS
      rw [if_pos (by omega)]
      by_cases hia : i = a % (256 * S)
      · subst hia
        rw [wI_same]; simp [updN]
      · rw [wI_idx hia, v5 i hi]; simp [updN, hia]
  obtain ⟨v1, v2, v3, v4, v5⟩ := id V
  refine K_X0_keep ⟨c1, fun c => ?_, fun c => ⟨Nn, by rw [c2]; exact c4, ?_, fun h6 e6 => ?_⟩⟩
  · rw [v1, v3, nI_leI (by omega) (by omega)] at c
    have h0 : N = 0 := by omega
    refine fin h ?_ Fr.rf
    refine ⟨v1, v2, ?_, fun i hi => absurd hi (by omega), v5⟩
    unfold keepX
    rw [if_neg (by omega)]; exact v3
  · rw [v1, v3, nI_leI (by omega) (by omega)] at c
    rw [v3]; exact vp_in_nI (by omega) c7
  · rw [v1, v3, nI_leI (by omega) (by omega)] at c
    rw [c2, v3, nI_clamp (by omega)] at e6
    subst e6
    refine ⟨?_, fun h9 e9 => ?_⟩
    · rw [wI_cell nkn, v1, show (0 : Int32) = nI 0 from rfl, nI_eq (by omega) (by omega)]; omega
    · rw [wI_cell nkn, v1, v3, nI_1, pk_rem (by omega) (by omega) (by omega)] at e9
      subst e9
      have h0 : 0 < N := by omega
      refine fin _ ⟨?_, ?_, ?_, fun i hi => ?_, fun i hi => ?_⟩ ((Fr.rf.put (by simp)).put (by simp))
      · rw [wI_idx (by decide), wI_cell nkn]; exact v1
      · rw [wI_idx (by decide), wI_cell nkn]; exact v2
      · rw [wI_same]; unfold keepX; rw [if_pos h0]
      · rw [wI_cell (Ne.symm nkn)]
        unfold keepN
        rw [if_pos h0]
        by_cases hix : i = nx
        · subst hix; rw [wI_same]; simp [updN]
        · rw [wI_idx hix, v4 i hi]; simp [updN, hix]
      · rw [wI_cell (Ne.symm nks), wI_cell (Ne.symm c6)]; exact v5 i hi
