/-! the reference: frames, faults, numbers (my own) -/
/-- refs as before; longs changed only in the cells L, ints only in the cells S and in the places K of the cell 97 -/
def Fm (K S L : List Nat) (h h1 : Hp) : Prop := h1.2.1 = h.2.1 ∧ (∀ c, c ∉ L → h1.2.2 c = h.2.2 c) ∧ (∀ c, c ≠ 97 → c ∉ S → h1.1 c = h.1 c) ∧ (∀ k, k ∉ K → h1.1 97 k = h.1 97 k)
theorem Fm.rf {K S L : List Nat} {h : Hp} : Fm K S L h h := ⟨rfl, fun _ _ => rfl, fun _ _ _ => rfl, fun _ _ => rfl⟩
theorem Fm.tr {K S L : List Nat} {h h1 h2 : Hp} (a : Fm K S L h h1) (b : Fm K S L h1 h2) : Fm K S L h h2 := ⟨b.1.trans a.1, fun c hc => (b.2.1 c hc).trans (a.2.1 c hc), fun c h0 hc => (b.2.2.1 c h0 hc).trans (a.2.2.1 c h0 hc), fun k hk => (b.2.2.2 k hk).trans (a.2.2.2 k hk)⟩
theorem Fm.mono {K S L K' S' L' : List Nat} {h h1 : Hp} (a : Fm K S L h h1) (hK : ∀ k, k ∈ K → k ∈ K') (hS : ∀ k, k ∈ S → k ∈ S') (hL : ∀ k, k ∈ L → k ∈ L') : Fm K' S' L' h h1 := ⟨a.1, fun c hc => a.2.1 c fun q => hc (hL c q), fun c h0 hc => a.2.2.1 c h0 fun q => hc (hS c q), fun k hk => a.2.2.2 k fun q => hk (hK k q)⟩
theorem Fm.put {K S L : List Nat} {h h1 : Hp} {k : Nat} {v : Int32} (a : Fm K S L h h1) (hk : k ∈ K) : Fm K S L h (wI h1 97 k v) := ⟨a.1, a.2.1, fun c h0 hc => by rw [wI_cell h0]; exact a.2.2.1 c h0 hc, fun j hj => by
  rw [wI_idx (fun (e : j = k) => hj (e ▸ hk))]; exact a.2.2.2 j hj⟩
theorem Fm.putC {K S L : List Nat} {h h1 : Hp} {c k : Nat} {v : Int32} (a : Fm K S L h h1) (h0 : c ≠ 97) (hc : c ∈ S) : Fm K S L h (wI h1 c k v) := ⟨a.1, a.2.1, fun d hd hs => by
  rw [wI_cell (fun (e : d = c) => hs (e ▸ hc))]; exact a.2.2.1 d hd hs, fun j hj => by rw [wI_cell (Ne.symm h0)]; exact a.2.2.2 j hj⟩
theorem wJ_cell {h : Hp} {c k d : Nat} {v : Int64} (hd : d ≠ c) : (wJ h c k v).2.2 d = h.2.2 d := by funext j; simp [wJ, hd]
theorem wJ_same {h : Hp} {c k : Nat} {v : Int64} : (wJ h c k v).2.2 c k = v := by simp [wJ]
theorem wJ_idx {h : Hp} {c k j : Nat} {v : Int64} (hj : j ≠ k) : (wJ h c k v).2.2 c j = h.2.2 c j := by simp [wJ, hj]
theorem Fm.putJ {K S L : List Nat} {h h1 : Hp} {c k : Nat} {v : Int64} (a : Fm K S L h h1) (hc : c ∈ L) : Fm K S L h (wJ h1 c k v) := ⟨a.1, fun d hd => by
  rw [wJ_cell (fun (e : d = c) => hd (e ▸ hc))]; exact a.2.1 d hd, a.2.2.1, a.2.2.2⟩
theorem Fm.fin {K S L : List Nat} {h h1 : Hp} (a : Fm K S L h h1) (f : Fin h) : Fin h1 := fun q hq => by rw [a.1]; exact f q hq
theorem Fm.by_ {K S L : List Nat} {h h1 : Hp} {c : Nat} {bs : List Nat} (a : Fm K S L h h1) (B : ByV h c bs) (h0 : c ≠ 97) (hc : c ∉ S) : ByV h1 c bs := B.of (a.2.2.1 c h0 hc)
/-- the bytes that are read: the row, of which the first e count -/
def Sr (h : Hp) (src : List Nat) : Prop := Fin h ∧ h.2.1 97 13 = 98 ∧ ByV h 98 src ∧ src.length ≤ 8000 ∧ ∀ b ∈ src, b < 256
theorem Sr.fm {K S L : List Nat} {h h1 : Hp} {src : List Nat} (X : Sr h src) (F : Fm K S L h h1) (hS : 98 ∉ S) : Sr h1 src := ⟨F.fin X.1, by rw [F.1]; exact X.2.1, F.by_ X.2.2.1 (by decide) hS, X.2.2.2⟩
theorem Sr.at {h : Hp} {src : List Nat} (X : Sr h src) {p : Nat} (hp : p < src.length) : b8 (h.1 98 p) &&& 255 = nI (src.getD p 0) := by
  rw [b8_un, X.2.2.1 p hp, getD_at hp]
def bigMs (r : Sum Bool (Nat × Nat)) (q : Nat) (v : Int64) (h1 : Hp) : Prop := match r with
  | .inl true => h1.1 97 37 = 1
  | .inl false => h1.1 97 37 = 0 ∧ h1.1 97 36 = 1
  | .inr x => h1.1 97 37 = 0 ∧ h1.1 97 36 = 0 ∧ v = lN x.1 ∧ x.2 = q
theorem M_big {w : Wd} {h : Hp} {src : List Nat} (X : Sr h src) {p e : Nat} (hp : h.1 97 14 = nI p) (he : p ≤ e ∧ e ≤ src.length) : C_X12_big w SH 97 (nI e) h (fun v h1 => ∃ q, p ≤ q ∧ q ≤ e ∧ h1.1 97 14 = nI q ∧ Fm [14, 36, 37] [] [] h h1 ∧ bigMs (bigP src e p) q v h1) := by
  have hl := X.2.2.2.1
  refine K_X12_big nlt_wf (fun m x0 x1 x2 x4 h' => x0 = 97 ∧ x1 = nI e ∧ ∃ k v q, m = 5 - k ∧ k ≤ 5 ∧ x4 = nI k ∧ x2 = lN v ∧ v < 128 ^ k ∧ p ≤ q ∧ q ≤ e ∧ h'.1 97 14 = nI q ∧ h'.1 97 36 = 0 ∧ h'.1 97 37 = 0 ∧ bigGo src e (5 - k) q v = bigP src e p ∧ Fm [14, 36, 37] [] [] h h') ?_ ?_
  · refine ⟨rfl, fun h2 e2 h4 e4 y6 e6 y8 e8 => ?_⟩
    have F : Fm [14, 36, 37] [] [] h h4 := by
      rw [e4, e2]; exact (Fm.rf.put (by simp)).put (by simp)
    refine ⟨5, rfl, rfl, 0, 0, p, rfl, by omega, e8, e6, by decide, by omega, he.1, ?_, ?_, ?_, rfl, F⟩
    · rw [e4, wI_idx (by decide), e2, wI_idx (by decide)]; exact hp
    · rw [e4, wI_idx (by decide), e2, wI_same]
    · rw [e4, wI_same]
  · rintro m x0 x1 x2 x4 h' ⟨rfl, rfl, k, v, q, rfl, hk, rfl, rfl, hv, q1, q2, a14, a36, a37, eg, F⟩
    have Y := X.fm F (by simp)
    rw [V_X12_big_15, show (5 : Int32) = nI 5 from rfl, nI_leI (by omega) (by omega)]
    refine ⟨fun c7 => ⟨rfl, fun h3 e3 => ?_⟩, fun c7 => ⟨rfl, ?_⟩⟩
    · subst e3
      have : k = 5 := by omega
      subst this
      refine ⟨q, q1, q2, by rw [wI_idx (by decide)]; exact a14, F.put (by simp), ?_⟩
      rw [← eg]
      exact ⟨by rw [wI_idx (by decide)]; exact a37, wI_same⟩
    · rw [a14, nI_ltI (by omega) (by omega)]
      have e5 : 5 - k = (5 - k - 1) + 1 := by omega
      rw [e5, bigGo] at eg
      refine ⟨fun c8 => ⟨8000, by rw [Y.2.1]; rfl, vp_in_nI (by omega) (by decide), fun y10 e10 h12 e12 y14 e14 => ?_⟩, fun c8 h24 e24 => ?_⟩
      · rw [Y.2.1, nI_clamp (by omega), Y.at (by omega)] at e10
        rw [nI_1] at e12
        have hb := getD_lt X.2.2.2.2 q
        rw [if_neg (by omega)] at eg
        generalize src.getD q 0 = b at e10 hb eg
        subst e10
        have hv2 : v < 2 ^ 35 := Nat.lt_of_lt_of_le hv (by
          have : 128 ^ k ≤ 128 ^ 5 := Nat.pow_le_pow_right (by decide) hk
          omega)
        rw [and127 b hb, nI_l (by omega), show (7 : Int32) = nI 7 from rfl, wb_shl v (by decide), g_or (k := 7) (p := 2 ^ 7) rfl (by omega) (by omega)] at e14
        have e14 : y14 = lN (v * 128 + b % 128) := e14
        subst e14
        subst e12
        have F2 : Fm [14, 36, 37] [] [] h (wI h' 97 14 (nI (q + 1))) := F.put (by simp)
        have b14 : (wI h' 97 14 (nI (q + 1))).1 97 14 = nI (q + 1) := wI_same
        have b36 : (wI h' 97 14 (nI (q + 1))).1 97 36 = 0 := by rw [wI_idx (by decide)]; exact a36
        have b37 : (wI h' 97 14 (nI (q + 1))).1 97 37 = 0 := by rw [wI_idx (by decide)]; exact a37
        generalize wI h' 97 14 (nI (q + 1)) = h12 at F2 b14 b36 b37
        rw [show (128 : Int32) = nI 128 from rfl, nI_leI (by omega) (by omega), show (4294967295 : Int64) = lN 4294967295 from rfl, lgLE (by omega) (by omega)]
        refine ⟨fun c9 y17 e17 => ?_, fun c9 => ?_⟩
        · rw [if_neg (by omega)] at eg
          refine ⟨5 - (k + 1), by omega, rfl, rfl, k + 1, v * 128 + b % 128, q + 1, rfl, by omega, by rw [e17, nI_1], rfl, by rw [Nat.pow_succ]; omega, by omega, by omega, b14, b36, b37, eg, F2⟩
        · rw [if_pos (by omega)] at eg
          refine ⟨fun c10 h20 e20 => ?_, fun c10 h22 e22 => ?_⟩
          · subst e20
            rw [if_neg (by omega)] at eg
            refine ⟨q + 1, by omega, by omega, by rw [wI_idx (by decide)]; exact b14, F2.put (by simp), ?_⟩
            rw [← eg]
            exact ⟨by rw [wI_idx (by decide)]; exact b37, wI_same, rfl, rfl⟩
          · subst e22
            rw [if_pos (by omega)] at eg
            refine ⟨q + 1, by omega, by omega, by rw [wI_idx (by decide)]; exact b14, F2.put (by simp), ?_⟩
            rw [← eg]
            exact ⟨by rw [wI_idx (by decide)]; exact b37, wI_same⟩
      · subst e24
        rw [if_pos (by omega)] at eg
        refine ⟨q, q1, q2, by rw [wI_idx (by decide)]; exact a14, F.put (by simp), ?_⟩
        rw [← eg]
        exact wI_same
/-- no fault, or the first one -/
def Fa (h : Hp) (f q : Nat) : Prop := h.1 97 6 = nI f ∧ f < 17 ∧ (f ≠ 0 → h.1 97 7 = nI q)
theorem Fa.fm {K S L : List Nat} {h h1 : Hp} {f q : Nat} (X : Fa h f q) (F : Fm K S L h h1) (h6 : 6 ∉ K) (h7 : 7 ∉ K) : Fa h1 f q := ⟨by rw [F.2.2.2 6 h6]; exact X.1, X.2.1, fun q => by rw [F.2.2.2 7 h7]; exact X.2.2 q⟩
theorem Fa.le {h : Hp} {f q : Nat} (X : Fa h f q) : h.1 97 6 ≤ 0 ↔ f = 0 := by
  have := X.2.1
  rw [X.1, show (0 : Int32) = nI 0 from rfl, nI_leI (by omega) (by omega)]; omega
theorem Fa.eq {h : Hp} {f q : Nat} (X : Fa h f q) : h.1 97 6 = 0 ↔ f = 0 := by
  have := X.2.1
  rw [X.1, nIz (by omega)]
theorem M_fails {w : Wd} {h : Hp} {q : Nat} (X : Fa h 0 q) (f p : Nat) (hf : f < 17) : C_X12_fails w SH 97 (nI f) (nI p) h (fun v h1 => v = 0 ∧ Fa h1 f p ∧ Fm [6, 7] [] [] h h1) := by
  refine K_X12_fails ⟨rfl, fun c => absurd (X.eq.mpr rfl) c, fun _ h3 e3 h5 e5 => ?_⟩
  subst e3; subst e5
  exact ⟨rfl, ⟨by rw [wI_idx (by decide), wI_same], hf, fun _ => wI_same⟩, (Fm.rf.put (by simp)).put (by simp)⟩
theorem M_wants {w : Wd} {h : Hp} {f q p e : Nat} (X : Fa h f q) (hp : f = 0 → h.1 97 14 = nI p ∧ h.1 97 15 = nI e ∧ p ≤ e ∧ e ≤ 8000) (n : Nat) (hn : n < 2 ^ 62) : C_X12_wants w SH 97 (lN n) h (fun v h1 => (f ≠ 0 → v = 0 ∧ h1 = h) ∧ (f = 0 → if e < p + n then v = 0 ∧ Fa h1 1 e else v = 1 ∧ h1 = h) ∧ Fm [6, 7] [] [] h h1) := by
  refine K_X12_wants ⟨rfl, fun c => ⟨fun _ => ⟨rfl, rfl⟩, fun h0 => absurd (X.eq.mpr h0) c, Fm.rf⟩, fun c => ?_⟩
  have h0 := X.eq.mp c
  obtain ⟨a, b, pe, e8⟩ := hp h0
  subst h0
  rw [a, b, pk_sub pe, nI_l (by omega), lgGE (by omega) (by omega)]
  refine ⟨fun c7 => ⟨fun q => absurd rfl q, fun _ => ?_, Fm.rf⟩, fun c7 => ⟨_, M_fails X 1 e (by decide), fun v8 h7 hp => ?_⟩⟩
  · rw [if_neg (by omega)]; exact ⟨rfl, rfl⟩
  · obtain ⟨rfl, Y, F⟩ := hp
    refine ⟨fun _ => ⟨fun q => absurd rfl q, fun _ => ?_, F⟩, fun c8 => absurd rfl c8⟩
    rw [if_pos (by omega)]; exact ⟨rfl, Y⟩
def hbMs (e : Nat) (r : Sum (Nat × Nat) (Nat × Nat)) (v : Int64) (h1 : Hp) : Prop := match r with
  | .inl (f, q) => v = 0 ∧ Fa h1 f q ∧ f ≠ 0 ∧ ∃ q', q' ≤ e ∧ h1.1 97 14 = nI q'
  | .inr (n, q) => v = lN n ∧ Fa h1 0 0 ∧ h1.1 97 14 = nI q
theorem M_headBig {w : Wd} {h : Hp} {src : List Nat} (X : Sr h src) {f q p e : Nat} (A : Fa h f q) (hp : f = 0 → h.1 97 14 = nI p ∧ h.1 97 15 = nI e ∧ p ≤ e ∧ e ≤ src.length) : C_X12_headBig w SH 97 h (fun v h1 => (f ≠ 0 → v = 0 ∧ h1 = h) ∧ (f = 0 → hbMs e (hbP src e p) v h1) ∧ Fm [6, 7, 14, 36, 37] [] [] h h1) := by
  have hl := X.2.2.2.1
  refine K_X12_headBig ⟨rfl, fun c => ?_, fun c => ⟨fun _ => ⟨rfl, rfl⟩, fun h0 => absurd (A.le.mpr h0) c, Fm.rf⟩⟩
  have h0 := A.le.mp c
  obtain ⟨a, b, pe, e8⟩ := hp h0
  subst h0
  intro y3 e3
  rw [a] at e3
  subst e3
  refine ⟨_, by rw [b]; exact M_big X a ⟨pe, e8⟩, fun v9 h8 hp y10 e10 => ?_⟩
  subst e10
  obtain ⟨p', p1, p2, c14, F, hb⟩ := hp
  have A8 := A.fm F (by simp) (by simp)
  have F' : Fm [6, 7, 14, 36, 37] [] [] h h8 := F.mono (by simp) (by simp) (by simp)
  have b8' : h8.1 97 15 = nI e := by rw [F.2.2.2 15 (by simp)]; exact b
  have ne : ∀ {v : Int64} {h1 : Hp}, hbMs e (hbP src e p) v h1 → Fm [6, 7, 14, 36, 37] [] [] h h1 → ((0 : Nat) ≠ 0 → v = 0 ∧ h1 = h) ∧ ((0 : Nat) = 0 → hbMs e (hbP src e p) v h1) ∧ Fm [6, 7, 14, 36, 37] [] [] h h1 := fun a b => ⟨fun q => absurd rfl q, fun _ => a, b⟩
  have tail : ∀ (h17 : Hp) (f' q' : Nat), f' ≠ 0 → Fa h17 f' q' → hbP src e p = .inl (f', q') → Fm [6, 7, 14, 36, 37] [] [] h h17 → h17.1 97 14 = nI p' → V_X12_headBig_57 w SH 97 y10 h17 (fun v h1 => ((0 : Nat) ≠ 0 → v = 0 ∧ h1 = h) ∧ ((0 : Nat) = 0 → hbMs e (hbP src e p) v h1) ∧ Fm [6, 7, 14, 36, 37] [] [] h h1) := by
    intro h17 f' q' hf A17 eh F17 a17
    refine ⟨rfl, fun c8 => absurd (A17.le.mp c8) hf, fun _ => ne ?_ F17⟩
    rw [eh]
    exact ⟨rfl, A17, hf, p', p2, a17⟩
  cases hB : bigP src e p with
  | inl x =>
    rw [hB] at hb
    cases x with
    | true =>
      have hb : h8.1 97 37 = 1 := hb
      refine ⟨fun c8 => absurd (hb.symm.trans c8) (by decide), fun _ => ⟨_, by rw [b8']; exact M_fails A8 1 e (by decide), fun v23 h22 hp => ?_⟩⟩
      obtain ⟨-, A9, F9⟩ := hp
      exact tail h22 1 e (by decide) A9 (by simp [hbP, hB]) (F'.tr (F9.mono (by simp) (by simp) (by simp))) (by rw [F9.2.2.2 14 (by simp)]; exact c14)
    | false =>
      obtain ⟨b37, b36⟩ := hb
      refine ⟨fun _ => ⟨fun c8 => absurd (b36.symm.trans c8) (by decide), fun _ => ⟨_, M_fails A8 3 p (by decide), fun v18 h17 hp => ?_⟩⟩, fun c8 => absurd b37 c8⟩
      obtain ⟨-, A9, F9⟩ := hp
      exact tail h17 3 p (by decide) A9 (by simp [hbP, hB]) (F'.tr (F9.mono (by simp) (by simp) (by simp))) (by rw [F9.2.2.2 14 (by simp)]; exact c14)
  | inr x =>
    rw [hB] at hb
    obtain ⟨b37, b36, ev, eq⟩ := hb
    refine ⟨fun _ => ⟨fun _ => ⟨rfl, fun _ => ne ?_ F', fun c8 => absurd (A8.le.mpr rfl) c8⟩, fun c8 => absurd b36 c8⟩, fun c8 => absurd b37 c8⟩
    rw [show hbP src e p = .inr x by simp [hbP, hB]]
    refine ⟨ev, ⟨A8.1, A8.2.1, fun q => absurd rfl q⟩, ?_⟩
    rw [eq]; exact c14
