/-! the reference says the parts of a window (my own) -/
theorem tE_lt {T : Tb} (h : ∀ b ∈ T.1, b < 256) (c k : Nat) : tE T c k < 256 := getD_lt h _
theorem M_isFirst {w : Wd} {h : Hp} {t : Nat} {T : Tb} {L : List Sp3} {md : List Nat} (f : Fin h) (ht : t < 4) (V : EntV h t T) (X : StV h L md) (sm : Sml L md) (hl : L.length < 1000) (c i n : Nat) (hc : c < 256) (hi : i < L.length) (hn : n < 2 ^ 30) : C_X12_isFirst w SH 97 (nI t) (nI c) (nI i) (nI n) h (fun v h1 => h1 = h ∧ (v = 0 ∨ v = 1) ∧ (v = 1 ↔ fstB T ((movesP L md).getD i (0, 0, 0)) n c = true)) := by
  have k52 := fx f 97 52 119 (by decide +kernel)
  have k55 := fx f 97 55 122 (by decide +kernel)
  have bt := V.2.2.2.2.2.2
  have Xi := X.2 i hi
  have si := sm i hi
  have ent : ∀ k, k < 6 → C_X12_entryOf w SH 97 (nI t) (nI c) (nI k) h (fun v h1 => h1 = h ∧ v = nI (tE T c k)) := fun k hk => S_entryOf f ht V c k hc hk
  have b0 := tE_lt bt c 0
  have b1 := tE_lt bt c 1
  have b2 := tE_lt bt c 2
  have ef : fstB T ((movesP L md).getD i (0, 0, 0)) n c = true ↔ (tE T c 0 = (L.getD i (0, 0, 0)).1 ∧ tE T c 1 = n ∧ tE T c 2 = md.getD i 0) := by
    unfold fstB; rw [movesP_get hi]; simp
  rw [ef]
  refine K_X12_isFirst ⟨rfl, _, ent 0 (by decide), fun v6 h5 hp => ?_⟩
  obtain ⟨e1, e2⟩ := hp
  obtain rfl := e1.symm
  subst e2
  refine ⟨2100, by rw [k52]; rfl, vp_in_nI (by omega) (by decide), ?_⟩
  rw [k52, nI_clamp (by omega), Xi.1, nI_eq (by omega) (by omega)]
  refine ⟨fun c1 => ⟨rfl, Or.inl rfl, fun q => absurd q (by decide), fun q => absurd q.1 c1⟩, fun c1 => ⟨_, ent 1 (by decide), fun v15 h14 hp => ?_⟩⟩
  obtain ⟨e1, e2⟩ := hp
  obtain rfl := e1.symm
  subst e2
  rw [nI_eq (by omega) (by omega)]
  refine ⟨fun c2 => ⟨rfl, Or.inl rfl, fun q => absurd q (by decide), fun q => absurd q.2.1 c2⟩, fun c2 => ⟨_, ent 2 (by decide), fun v21 h20 hp => ?_⟩⟩
  obtain ⟨e1, e2⟩ := hp
  obtain rfl := e1.symm
  subst e2
  refine ⟨2100, by rw [k55]; rfl, vp_in_nI (by omega) (by decide), ?_⟩
  rw [k55, Xi.2.2.2, nI_eq (by omega) (by omega)]
  exact ⟨fun c3 => ⟨rfl, Or.inl rfl, fun q => absurd q (by decide), fun q => absurd q.2.2 c3⟩, fun c3 => ⟨rfl, Or.inr rfl, fun _ => ⟨c1, c2, c3⟩, fun _ => rfl⟩⟩
/-- what one code more makes of the least one -/
theorem lf_succ {P : Nat → Bool} (j : Nat) : lf P (j + 1) = if P (255 - j) = true then some (255 - j) else lf P j := rfl
theorem enc_if {P : Nat → Bool} {j : Nat} : enc (lf P (j + 1)) = if P (255 - j) = true then nI (255 - j) else enc (lf P j) := by
  rw [lf_succ]; split <;> rfl
def spT (T : Tb) (L : List Sp3) (md : List Nat) (d ad : List Nat) (t : Nat) (h h' : Hp) : Prop := DaV h' d ∧ AaV h' ad ∧ h'.1 97 60 = 0 ∧ Fm [48, 49, 60] [118] [] h h'
def spI144 (T : Tb) (L : List Sp3) (md : List Nat) (d ad : List Nat) (t : Nat) (tot : Option (List Nat)) (h : Hp) (m x0 : Nat) (x1 x3 x4 x5 x6 x7 : Int32) (h' : Hp) : Prop := x0 = 97 ∧ x1 = nI t ∧ spT T L md d ad t h h' ∧ ∃ i k cs j, x3 = nI i ∧ i < L.length ∧ L.length - i ≤ k ∧ CoV h' cs ∧ cs.length ≤ 3 * i ∧ codesM T (movesP L md) k i cs = tot ∧ j ≤ 256 ∧ m = (L.length - i - 1) * 1000 + 400 + (256 - j) ∧ (x7 = nI (255 - j) ∧ j < 256 ∨ x7 = -1 ∧ j = 256) ∧ x4 = enc (lf (botB T (movesP L md) i) j) ∧ x5 = enc (lf (alnB T ((movesP L md).getD i (0, 0, 0)) ((movesP L md).getD i (0, 0, 0)).2.1) j) ∧ x6 = enc (lf (alnB T ((movesP L md).getD i (0, 0, 0)) 0) j)
def spI122 (T : Tb) (L : List Sp3) (md : List Nat) (d ad : List Nat) (t : Nat) (tot : Option (List Nat)) (h : Hp) (m x0 : Nat) (x1 x3 : Int32) (h' : Hp) : Prop := x0 = 97 ∧ x1 = nI t ∧ spT T L md d ad t h h' ∧ ∃ i k cs, x3 = nI i ∧ i ≤ L.length ∧ L.length - i ≤ k ∧ CoV h' cs ∧ cs.length ≤ 3 * i ∧ codesM T (movesP L md) k i cs = tot ∧ m = (L.length - i) * 1000
def spI392 (T : Tb) (L : List Sp3) (md : List Nat) (d ad : List Nat) (t : Nat) (tot : Option (List Nat)) (h : Hp) (m x0 : Nat) (x1 x3 x4 x8 : Int32) (h' : Hp) : Prop := x0 = 97 ∧ x1 = nI t ∧ x4 = -1 ∧ spT T L md d ad t h h' ∧ ∃ i k cs a n, x3 = nI i ∧ i < L.length ∧ L.length - i ≤ k + 1 ∧ CoV h' a ∧ a ++ bigR (L.getD i (0, 0, 0)).2.1 n = cs ∧ a.length + n = cs.length ∧ cs.length ≤ 3 * (i + 1) ∧ codesM T (movesP L md) k (i + 1) cs = tot ∧ n ≤ 2 ∧ m = (L.length - i - 1) * 1000 + (n + 1) ∧ (x8 = nI (n - 1) ∧ 1 ≤ n ∨ x8 = -1 ∧ n = 0)
theorem spT.co {T : Tb} {L : List Sp3} {md d ad : List Nat} {t : Nat} {h h' h1 : Hp} (X : spT T L md d ad t h h') (hd : d.length ≤ 2048) (F : Fm [49] [118] [] h' h1) (e : ∀ k, k < 10000 ∨ 20000 ≤ k → h1.1 118 k = h'.1 118 k) : spT T L md d ad t h h1 := by
  obtain ⟨D, A, z, G⟩ := X
  refine ⟨⟨by rw [F.2.2.2 48 (by simp)]; exact D.1, fun j hj => by rw [e j (by omega)]; exact D.2 j hj⟩, ⟨by rw [F.2.2.2 50 (by simp)]; exact A.1, fun j hj => by rw [e _ (by omega)]; exact A.2 j hj⟩, by rw [F.2.2.2 60 (by simp)]; exact z, G.tr (F.mono (by simp) (by simp) (by simp))⟩
def spS (tot : Option (List Nat)) (d ad : List Nat) (h h1 : Hp) : Prop := (match tot with
  | none => h1.1 97 60 = 1
  | some cs => h1.1 97 60 = 0 ∧ CoV h1 cs ∧ DaV h1 d ∧ AaV h1 ad) ∧ Fm [48, 49, 60] [118] [] h h1
/-- the codes: the search for one of them, from code to code -/
theorem M_sp144 {w : Wd} {T : Tb} {L : List Sp3} {md d ad : List Nat} {t : Nat} {tot : Option (List Nat)} {h : Hp} {m : Nat} {x0 : Nat} {x1 x3 x4 x5 x6 x7 : Int32} {h' : Hp} {L17 : Nat → Int32 → Int32 → Int32 → Hp → Prop} {L64 : Nat → Int32 → Int32 → Int32 → Int32 → Int32 → Hp → Prop} (f : Fin h) (ht : t < 4) (V : EntV h t T) (X : StV h L md) (sm : Sml L md) (hs : ∀ i, i < L.length → (L.getD i (0, 0, 0)).2.1 < 16384) (hl : L.length < 1000) (hd : d.length ≤ 2048) (I : spI144 T L md d ad t tot h m x0 x1 x3 x4 x5 x6 x7 h') : V_X12_sayParts_144 w SH x0 x1 x3 x4 x5 x6 x7 h' L17 L64 (fun x0 x1 x3 h1 => ∃ a, a < m ∧ spI122 T L md d ad t tot h a x0 x1 x3 h1) (fun x0 x1 x3 x4 x5 x6 x7 h1 => ∃ a, a < m ∧ spI144 T L md d ad t tot h a x0 x1 x3 x4 x5 x6 x7 h1) (fun x0 x1 x3 x4 x8 h1 => ∃ a, a < m ∧ spI392 T L md d ad t tot h a x0 x1 x3 x4 x8 h1) (spS tot d ad h) := by
  obtain ⟨rfl, rfl, Z, i, k, cs, j, rfl, hi, hk, C, hcs, et, hj, rfl, hx7, rfl, rfl, rfl⟩ := I
  have hM : (movesP L md).length = L.length := movesP_len L md
  have eM : (movesP L md).getD i (0, 0, 0) = ((L.getD i (0, 0, 0)).1, (L.getD i (0, 0, 0)).2.1, md.getD i 0) := movesP_get hi
  have F := Z.2.2.2
  have f' := F.fin f
  have X' := X.fm F (by simp) (by simp)
  have V' := V.fm F (by simp) (by simp) (by simp)
  have bt := V.2.2.2.2.2.2
  have k52 := fx f' 97 52 119 (by decide +kernel)
  have k53 := fx f' 97 53 120 (by decide +kernel)
  have k55 := fx f' 97 55 122 (by decide +kernel)
  have lt : ∀ (P : Nat → Bool) (c : Nat), lf P 256 = some c → c < 2 ^ 31 := fun P c q => by have := (lf_lt (Nat.le_refl _) q).1; omega
  rcases hx7 with ⟨rfl, hj6⟩ | ⟨rfl, rfl⟩
  · -- one code
    have hc : 255 - j < 256 := by omega
    generalize hcd : 255 - j = c at hc
    have ent : ∀ q, q < 6 → C_X12_entryOf w SH 97 (nI t) (nI c) (nI q) h' (fun v h1 => h1 = h' ∧ v = nI (tE T c q)) := fun q hq => S_entryOf f' ht V' c q hc hq
    have b3 := tE_lt bt c 3
    have b4 := tE_lt bt c 4
    have b5 := tE_lt bt c 5
    have nxt : ∀ (x4 x5 x6 y : Int32), x4 = enc (lf (botB T (movesP L md) i) (j + 1)) → x5 = enc (lf (alnB T ((movesP L md).getD i (0, 0, 0)) ((movesP L md).getD i (0, 0, 0)).2.1) (j + 1)) → x6 = enc (lf (alnB T ((movesP L md).getD i (0, 0, 0)) 0) (j + 1)) → y = nI c + (-1 : Int32) → ∃ a, a < (L.length - i - 1) * 1000 + 400 + (256 - j) ∧ spI144 T L md d ad t tot h a 97 (nI t) (nI i) x4 x5 x6 y h' := by
      intro x4 x5 x6 y q4 q5 q6 ey
      refine ⟨_, ?_, rfl, rfl, Z, i, k, cs, j + 1, rfl, hi, hk, C, hcs, et, by omega, rfl, ?_, q4, q5, q6⟩
      · omega
      · by_cases z : j + 1 = 256
        · refine Or.inr ⟨?_, z⟩
          have : c = 0 := by omega
          rw [ey, this]; decide
        · refine Or.inl ⟨?_, by omega⟩
          obtain ⟨c', rfl⟩ : ∃ c', c = c' + 1 := ⟨c - 1, by omega⟩
          rw [ey, addm1, show 255 - (j + 1) = c' by omega]; exact nI_pred c'
    have v305 : ∀ (x4 x5 x6 s0 : Int32), x4 = enc (lf (botB T (movesP L md) i) j) → x5 = enc (lf (alnB T ((movesP L md).getD i (0, 0, 0)) ((movesP L md).getD i (0, 0, 0)).2.1) (j + 1)) → x6 = enc (lf (alnB T ((movesP L md).getD i (0, 0, 0)) 0) (j + 1)) → (s0 = 0 ∧ botB T (movesP L md) i c = false ∨ s0 = 1 ∧ botB T (movesP L md) i c = true) → V_X12_sayParts_305 w SH 97 (nI t) (nI i) x4 x5 x6 (nI c) s0 h' L17 L64 (fun x0 x1 x3 h1 => ∃ a, a < (L.length - i - 1) * 1000 + 400 + (256 - j) ∧ spI122 T L md d ad t tot h a x0 x1 x3 h1) (fun x0 x1 x3 x4 x5 x6 x7 h1 => ∃ a, a < (L.length - i - 1) * 1000 + 400 + (256 - j) ∧ spI144 T L md d ad t tot h a x0 x1 x3 x4 x5 x6 x7 h1) (fun x0 x1 x3 x4 x8 h1 => ∃ a, a < (L.length - i - 1) * 1000 + 400 + (256 - j) ∧ spI392 T L md d ad t tot h a x0 x1 x3 x4 x8 h1) (spS tot d ad h) := by
      intro x4 x5 x6 s0 q4 q5 q6 hs0 y1 e1
      subst e1
      refine ⟨fun c0 y2 e2 y3 e3 => nxt _ _ _ _ ?_ q5 q6 e3, fun c0 y2 e2 y3 e3 => nxt _ _ _ _ ?_ q5 q6 e3⟩
      · have hb : botB T (movesP L md) i c = false := by
          rcases hs0 with ⟨_, q⟩ | ⟨q, _⟩
          · exact q
          · rw [q] at c0; exact absurd c0 (by decide)
        rw [e2, q4, enc_if, hcd, hb, if_neg (by decide)]
      · have hb : botB T (movesP L md) i c = true := by
          rcases hs0 with ⟨q, _⟩ | ⟨_, q⟩
          · exact absurd q c0
          · exact q
        rw [e2, enc_if, hcd, hb, if_pos rfl]
    have v226 : ∀ (x5 y8 s0 : Int32), x5 = enc (lf (alnB T ((movesP L md).getD i (0, 0, 0)) ((movesP L md).getD i (0, 0, 0)).2.1) (j + 1)) → s0 = enc (lf (alnB T ((movesP L md).getD i (0, 0, 0)) 0) (j + 1)) → (y8 = 0 ∨ y8 = 1) → (y8 = 1 ↔ fstB T ((movesP L md).getD i (0, 0, 0)) ((movesP L md).getD i (0, 0, 0)).2.1 c = true) → V_X12_sayParts_226 w SH 97 (nI t) (nI i) (enc (lf (botB T (movesP L md) i) j)) x5 (nI c) y8 s0 h' L17 L64 (fun x0 x1 x3 h1 => ∃ a, a < (L.length - i - 1) * 1000 + 400 + (256 - j) ∧ spI122 T L md d ad t tot h a x0 x1 x3 h1) (fun x0 x1 x3 x4 x5 x6 x7 h1 => ∃ a, a < (L.length - i - 1) * 1000 + 400 + (256 - j) ∧ spI144 T L md d ad t tot h a x0 x1 x3 x4 x5 x6 x7 h1) (fun x0 x1 x3 x4 x8 h1 => ∃ a, a < (L.length - i - 1) * 1000 + 400 + (256 - j) ∧ spI392 T L md d ad t tot h a x0 x1 x3 x4 x8 h1) (spS tot d ad h) := by
      intro x5 y8 s0 q5 q6 hy hf y1 e1
      subst e1
      have no : botB T (movesP L md) i c = false → V_X12_sayParts_304 w SH 97 (nI t) (nI i) (enc (lf (botB T (movesP L md) i) j)) x5 y1 (nI c) h' L17 L64 (fun x0 x1 x3 h1 => ∃ a, a < (L.length - i - 1) * 1000 + 400 + (256 - j) ∧ spI122 T L md d ad t tot h a x0 x1 x3 h1) (fun x0 x1 x3 x4 x5 x6 x7 h1 => ∃ a, a < (L.length - i - 1) * 1000 + 400 + (256 - j) ∧ spI144 T L md d ad t tot h a x0 x1 x3 x4 x5 x6 x7 h1) (fun x0 x1 x3 x4 x8 h1 => ∃ a, a < (L.length - i - 1) * 1000 + 400 + (256 - j) ∧ spI392 T L md d ad t tot h a x0 x1 x3 x4 x8 h1) (spS tot d ad h) := fun hb => v305 _ _ _ 0 rfl q5 q6 (Or.inl ⟨rfl, hb⟩)
      have eb : botB T (movesP L md) i c = (fstB T ((movesP L md).getD i (0, 0, 0)) ((movesP L md).getD i (0, 0, 0)).2.1 c && decide (i + 1 < L.length) && sndB T ((movesP L md).getD (i + 1) (0, 0, 0)) c) := by unfold botB; rw [hM]
      refine ⟨fun c0 => no ?_, fun c0 => ⟨rfl, ?_⟩⟩
      · have hff : fstB T ((movesP L md).getD i (0, 0, 0)) ((movesP L md).getD i (0, 0, 0)).2.1 c = false := by
          cases hq : fstB T ((movesP L md).getD i (0, 0, 0)) ((movesP L md).getD i (0, 0, 0)).2.1 c with
          | false => rfl
          | true => rw [hf.mpr hq] at c0; exact absurd c0 (by decide)
        rw [eb, hff]; rfl
      · have hff := hf.mp (hy.resolve_left c0)
        rw [hff] at eb
        rw [X'.1, nI_1, nI_leI (by omega) (by omega)]
        refine ⟨fun c1 => no (by rw [eb, decide_eq_false (by omega)]; rfl), fun c1 => ⟨_, ent 3 (by decide), fun v10 h9 hp => ?_⟩⟩
        obtain ⟨e1, e2⟩ := hp
        obtain rfl := e1.symm
        subst e2
        have Xi := X'.2 (i + 1) (by omega)
        have si := sm (i + 1) (by omega)
        have es : sndB T ((movesP L md).getD (i + 1) (0, 0, 0)) c = decide (tE T c 3 = (L.getD (i + 1) (0, 0, 0)).1 ∧ tE T c 4 = (L.getD (i + 1) (0, 0, 0)).2.1 ∧ tE T c 5 = md.getD (i + 1) 0) := by
          unfold sndB; rw [movesP_get (by omega)]
        rw [decide_eq_true (show i + 1 < L.length by omega), es] at eb
        refine ⟨2100, by rw [k52]; rfl, vp_in_nI (by omega) (by decide), ?_⟩
        rw [k52, nI_clamp (by omega), Xi.1, nI_eq (by omega) (by omega)]
        refine ⟨fun c2 => no (by rw [eb, decide_eq_false fun q => c2 q.1]; rfl), fun c2 => ⟨_, ent 4 (by decide), fun v19 h18 hp => ?_⟩⟩
        obtain ⟨e1, e2⟩ := hp
        obtain rfl := e1.symm
        subst e2
        refine ⟨2100, by rw [k53]; rfl, vp_in_nI (by omega) (by decide), ?_⟩
        rw [k53, Xi.2.1, nI_eq (by omega) (by omega)]
        refine ⟨fun c3 => no (by rw [eb, decide_eq_false fun q => c3 q.2.1]; rfl), fun c3 => ⟨_, ent 5 (by decide), fun v28 h27 hp => ?_⟩⟩
        obtain ⟨e1, e2⟩ := hp
        obtain rfl := e1.symm
        subst e2
        refine ⟨2100, by rw [k55]; rfl, vp_in_nI (by omega) (by decide), ?_⟩
        rw [k55, Xi.2.2.2, nI_eq (by omega) (by omega)]
        exact ⟨fun c4 => no (by rw [eb, decide_eq_false fun q => c4 q.2.2]; rfl), fun c4 => v305 _ _ _ 1 rfl q5 q6 (Or.inr ⟨rfl, by rw [eb, decide_eq_true ⟨c2, c3, c4⟩]; rfl⟩)⟩
    have v200 : ∀ (y8 x9 s0 : Int32), s0 = enc (lf (alnB T ((movesP L md).getD i (0, 0, 0)) ((movesP L md).getD i (0, 0, 0)).2.1) (j + 1)) → (y8 = 0 ∨ y8 = 1) → (y8 = 1 ↔ fstB T ((movesP L md).getD i (0, 0, 0)) ((movesP L md).getD i (0, 0, 0)).2.1 c = true) → (x9 = 0 ∧ tE T c 3 ≠ 0 ∨ x9 = 1 ∧ tE T c 3 = 0) → V_X12_sayParts_200 w SH 97 (nI t) (nI i) (enc (lf (botB T (movesP L md) i) j)) (enc (lf (alnB T ((movesP L md).getD i (0, 0, 0)) 0) j)) (nI c) y8 x9 s0 h' L17 L64 (fun x0 x1 x3 h1 => ∃ a, a < (L.length - i - 1) * 1000 + 400 + (256 - j) ∧ spI122 T L md d ad t tot h a x0 x1 x3 h1) (fun x0 x1 x3 x4 x5 x6 x7 h1 => ∃ a, a < (L.length - i - 1) * 1000 + 400 + (256 - j) ∧ spI144 T L md d ad t tot h a x0 x1 x3 x4 x5 x6 x7 h1) (fun x0 x1 x3 x4 x8 h1 => ∃ a, a < (L.length - i - 1) * 1000 + 400 + (256 - j) ∧ spI392 T L md d ad t tot h a x0 x1 x3 x4 x8 h1) (spS tot d ad h) := by
      intro y8 x9 s0 q5 hy hf h9 y1 e1
      subst e1
      have k0 : ∀ b : Bool, alnB T ((movesP L md).getD i (0, 0, 0)) 0 c = b → enc (lf (alnB T ((movesP L md).getD i (0, 0, 0)) 0) (j + 1)) = if b = true then nI c else enc (lf (alnB T ((movesP L md).getD i (0, 0, 0)) 0) j) := fun b hb => by rw [enc_if, hcd, hb]
      refine ⟨fun c0 => ?_, fun c0 => ⟨rfl, _, M_isFirst f' ht V' X' sm hl c i 0 hc hi (by decide), fun v9 h8 hp => ?_⟩⟩
      · have h3 : tE T c 3 ≠ 0 := by
          rcases h9 with ⟨_, q⟩ | ⟨q, _⟩
          · exact q
          · rw [q] at c0; exact absurd c0 (by decide)
        refine v226 y1 y8 _ q5 ?_ hy hf
        rw [k0 false (by unfold alnB; rw [decide_eq_false h3]; rfl), if_neg (by decide)]
      · obtain ⟨e1, ev, ig⟩ := hp
        obtain rfl := e1.symm
        have h3 : tE T c 3 = 0 := by
          rcases h9 with ⟨q, _⟩ | ⟨_, q⟩
          · exact absurd q c0
          · exact q
        refine ⟨fun c1 => v226 y1 y8 _ q5 ?_ hy hf, fun c1 => v226 y1 y8 _ q5 ?_ hy hf⟩
        · have hff : fstB T ((movesP L md).getD i (0, 0, 0)) 0 c = false := by
            cases hq : fstB T ((movesP L md).getD i (0, 0, 0)) 0 c with
            | false => rfl
            | true => rw [ig.mpr hq] at c1; exact absurd c1 (by decide)
          rw [k0 false (by unfold alnB; rw [hff, Bool.and_false]), if_neg (by decide)]
        · have hff := ig.mp (ev.resolve_left c1)
          rw [k0 true (by unfold alnB; rw [hff, decide_eq_true h3]; rfl), if_pos rfl]
    have Xi := X'.2 i hi
    refine ⟨fun c0 => absurd c0 (nI_pos (by omega)), fun _ => ⟨rfl, 2100, by rw [k53]; rfl, vp_in_nI (by omega) (by decide), _, by rw [k53, nI_clamp (by omega), Xi.2.1]; exact M_isFirst f' ht V' X' sm hl c i _ hc hi (sm i hi).2.1, fun v12 h11 hp y13 e13 => ?_⟩⟩
    obtain ⟨e1, ev, ig⟩ := hp
    obtain rfl := e1.symm
    subst e13
    have ig : y13 = 1 ↔ fstB T ((movesP L md).getD i (0, 0, 0)) ((movesP L md).getD i (0, 0, 0)).2.1 c = true := by rw [ig, eM]
    refine ⟨_, ent 3 (by decide), fun v19 h18 hp => ?_⟩
    obtain ⟨e1, e2⟩ := hp
    obtain rfl := e1.symm
    subst e2
    rw [nIz (by omega)]
    have k5 : ∀ b : Bool, alnB T ((movesP L md).getD i (0, 0, 0)) ((movesP L md).getD i (0, 0, 0)).2.1 c = b → enc (lf (alnB T ((movesP L md).getD i (0, 0, 0)) ((movesP L md).getD i (0, 0, 0)).2.1) (j + 1)) = if b = true then nI c else enc (lf (alnB T ((movesP L md).getD i (0, 0, 0)) ((movesP L md).getD i (0, 0, 0)).2.1) j) := fun b hb => by rw [enc_if, hcd, hb]
    have v181 : ∀ s0 : Int32, (s0 = 0 ∧ tE T c 3 ≠ 0 ∨ s0 = 1 ∧ tE T c 3 = 0) → V_X12_sayParts_181 w SH 97 (nI t) (nI i) (enc (lf (botB T (movesP L md) i) j)) (enc (lf (alnB T ((movesP L md).getD i (0, 0, 0)) ((movesP L md).getD i (0, 0, 0)).2.1) j)) (enc (lf (alnB T ((movesP L md).getD i (0, 0, 0)) 0) j)) (nI c) y13 s0 h' L17 L64 (fun x0 x1 x3 h1 => ∃ a, a < (L.length - i - 1) * 1000 + 400 + (256 - j) ∧ spI122 T L md d ad t tot h a x0 x1 x3 h1) (fun x0 x1 x3 x4 x5 x6 x7 h1 => ∃ a, a < (L.length - i - 1) * 1000 + 400 + (256 - j) ∧ spI144 T L md d ad t tot h a x0 x1 x3 x4 x5 x6 x7 h1) (fun x0 x1 x3 x4 x8 h1 => ∃ a, a < (L.length - i - 1) * 1000 + 400 + (256 - j) ∧ spI392 T L md d ad t tot h a x0 x1 x3 x4 x8 h1) (spS tot d ad h) := by
      intro s0 hs0 y1 e1
      subst e1
      have no : alnB T ((movesP L md).getD i (0, 0, 0)) ((movesP L md).getD i (0, 0, 0)).2.1 c = false → V_X12_sayParts_198 w SH 97 (nI t) (nI i) (enc (lf (botB T (movesP L md) i) j)) (enc (lf (alnB T ((movesP L md).getD i (0, 0, 0)) ((movesP L md).getD i (0, 0, 0)).2.1) j)) (enc (lf (alnB T ((movesP L md).getD i (0, 0, 0)) 0) j)) (nI c) y13 y1 h' L17 L64 (fun x0 x1 x3 h1 => ∃ a, a < (L.length - i - 1) * 1000 + 400 + (256 - j) ∧ spI122 T L md d ad t tot h a x0 x1 x3 h1) (fun x0 x1 x3 x4 x5 x6 x7 h1 => ∃ a, a < (L.length - i - 1) * 1000 + 400 + (256 - j) ∧ spI144 T L md d ad t tot h a x0 x1 x3 x4 x5 x6 x7 h1) (fun x0 x1 x3 x4 x8 h1 => ∃ a, a < (L.length - i - 1) * 1000 + 400 + (256 - j) ∧ spI392 T L md d ad t tot h a x0 x1 x3 x4 x8 h1) (spS tot d ad h) := fun hb => v200 y13 y1 _ (by rw [k5 false hb, if_neg (by decide)]) ev ig hs0
      refine ⟨fun c0 => no ?_, fun c0 => ⟨fun c1 => no ?_, fun c1 => v200 y13 y1 _ ?_ ev ig hs0⟩⟩
      · have hff : fstB T ((movesP L md).getD i (0, 0, 0)) ((movesP L md).getD i (0, 0, 0)).2.1 c = false := by
          cases hq : fstB T ((movesP L md).getD i (0, 0, 0)) ((movesP L md).getD i (0, 0, 0)).2.1 c with
          | false => rfl
          | true => rw [ig.mpr hq] at c0; exact absurd c0 (by decide)
        unfold alnB; rw [hff, Bool.and_false]
      · have h3 : tE T c 3 ≠ 0 := by
          rcases hs0 with ⟨_, q⟩ | ⟨q, _⟩
          · exact q
          · rw [q] at c1; exact absurd c1 (by decide)
        unfold alnB; rw [decide_eq_false h3]; rfl
      · have h3 : tE T c 3 = 0 := by
          rcases hs0 with ⟨q, _⟩ | ⟨_, q⟩
          · exact absurd q c1
          · exact q
        rw [k5 true (by unfold alnB; rw [ig.mp (ev.resolve_left c0), decide_eq_true h3]; rfl), if_pos rfl]
    exact ⟨fun c0 => v181 0 (Or.inl ⟨rfl, c0⟩), fun c0 => v181 1 (Or.inr ⟨rfl, c0⟩)⟩
  · -- all codes are seen
    have hsz := hs i hi
    rw [show k = (k - 1) + 1 by omega, codesM, if_pos (by rw [hM]; omega)] at et
    have v435 : ∀ (h9 : Hp) (x4 : Int32) (b : List Nat) (dd : Nat), codeM T (movesP L md) i = some (b, dd) → CoV h9 (cs ++ b) → b.length ≤ 3 → spT T L md d ad t h h9 → i + dd ≤ L.length → (x4 < 0 ∧ dd = 1 ∨ ¬ x4 < 0 ∧ dd = 2) → V_X12_sayParts_435 w SH 97 (nI t) (nI i) x4 h9 L17 L64 (fun x0 x1 x3 h1 => ∃ a, a < (L.length - i - 1) * 1000 + 400 + (256 - 256) ∧ spI122 T L md d ad t tot h a x0 x1 x3 h1) (fun x0 x1 x3 x4 x5 x6 x7 h1 => ∃ a, a < (L.length - i - 1) * 1000 + 400 + (256 - 256) ∧ spI144 T L md d ad t tot h a x0 x1 x3 x4 x5 x6 x7 h1) (fun x0 x1 x3 x4 x8 h1 => ∃ a, a < (L.length - i - 1) * 1000 + 400 + (256 - 256) ∧ spI392 T L md d ad t tot h a x0 x1 x3 x4 x8 h1) (spS tot d ad h) := by
      intro h9 x4 b dd ec C9 hb Z9 hdd hx
      rw [ec] at et
      have go : ∀ s0 : Int32, s0 = nI dd → V_X12_sayParts_446 w SH 97 (nI t) s0 (nI i) h9 L17 L64 (fun x0 x1 x3 h1 => ∃ a, a < (L.length - i - 1) * 1000 + 400 + (256 - 256) ∧ spI122 T L md d ad t tot h a x0 x1 x3 h1) (fun x0 x1 x3 x4 x5 x6 x7 h1 => ∃ a, a < (L.length - i - 1) * 1000 + 400 + (256 - 256) ∧ spI144 T L md d ad t tot h a x0 x1 x3 x4 x5 x6 x7 h1) (fun x0 x1 x3 x4 x8 h1 => ∃ a, a < (L.length - i - 1) * 1000 + 400 + (256 - 256) ∧ spI392 T L md d ad t tot h a x0 x1 x3 x4 x8 h1) (spS tot d ad h) := by
        intro s0 es y1 e1
        rw [es, nI_add] at e1
        have := codeM_d ec
        exact ⟨_, by omega, rfl, rfl, Z9, i + dd, k - 1, cs ++ b, e1, hdd, by omega, C9, by rw [List.length_append]; omega, et, rfl⟩
      rcases hx with ⟨q1, q2⟩ | ⟨q1, q2⟩
      · exact ⟨fun _ => go 1 (by rw [q2]; rfl), fun c => absurd q1 c⟩
      · exact ⟨fun c => absurd c q1, fun _ => go 2 (by rw [q2]; rfl)⟩
    have eM2 : ((movesP L md).getD i (0, 0, 0)).2.1 = (L.getD i (0, 0, 0)).2.1 := by rw [eM]
    refine ⟨fun _ => ?_, fun c => absurd (by decide) c⟩
    rw [enc_neg (lt _), enc_neg (lt _)]
    have v349 : ∀ (o4 o5 o6 : Option Nat) (s0 : Int32), lf (botB T (movesP L md) i) 256 = o4 → lf (alnB T ((movesP L md).getD i (0, 0, 0)) ((movesP L md).getD i (0, 0, 0)).2.1) 256 = o5 → lf (alnB T ((movesP L md).getD i (0, 0, 0)) 0) 256 = o6 → (s0 = if o4 ≠ none then enc o4 else if o5 ≠ none then enc o5 else enc o6) → V_X12_sayParts_349 w SH 97 (nI t) (nI i) (enc o4) (enc o5) s0 h' L17 L64 (fun x0 x1 x3 h1 => ∃ a, a < (L.length - i - 1) * 1000 + 400 + (256 - 256) ∧ spI122 T L md d ad t tot h a x0 x1 x3 h1) (fun x0 x1 x3 x4 x5 x6 x7 h1 => ∃ a, a < (L.length - i - 1) * 1000 + 400 + (256 - 256) ∧ spI144 T L md d ad t tot h a x0 x1 x3 x4 x5 x6 x7 h1) (fun x0 x1 x3 x4 x8 h1 => ∃ a, a < (L.length - i - 1) * 1000 + 400 + (256 - 256) ∧ spI392 T L md d ad t tot h a x0 x1 x3 x4 x8 h1) (spS tot d ad h) := by
      intro o4 o5 o6 s0 h4 h5 h6 es y1 e1
      subst e1
      have put : ∀ c : Nat, y1 = nI c → c < 256 → ∃ P : Hp → Prop, C_X12_addCode w SH 97 y1 h' P ∧ ∀ h1, P h1 → CoV h1 (cs ++ [c]) ∧ spT T L md d ad t h h1 := fun c ey hc => by
        rw [ey]
        have := M_addCode (w := w) f' C (by omega) (nI c)
        rw [un_nI hc] at this
        exact ⟨_, this, fun h1 hp => ⟨hp.1, Z.co hd hp.2.1 hp.2.2⟩⟩
      cases o4 with
      | some c =>
        have es : y1 = nI c := es
        have hc := (lf_lt (Nat.le_refl _) h4).1
        have ec : codeM T (movesP L md) i = some ([c], 2) := by unfold codeM; rw [h4]
        have hi2 : i + 1 < L.length := by
          have hb := (lf_lt (Nat.le_refl _) h4).2.2
          unfold botB at hb
          rw [Bool.and_eq_true, Bool.and_eq_true] at hb
          have := of_decide_eq_true hb.1.2
          rw [hM] at this
          exact this
        obtain ⟨P, cP, kP⟩ := put c es hc
        refine ⟨fun _ => ⟨rfl, P, cP, fun h8 hp8 => have hp8 := kP h8 hp8; ⟨fun _ => ?_, fun c0 => absurd (nI_pos' (by omega)) c0⟩⟩, fun c0 => absurd (by rw [es]; exact nI_pos' (by omega)) c0⟩
        exact v435 h8 _ [c] 2 ec hp8.1 (by simp) hp8.2 (by omega) (Or.inr ⟨nI_pos (by omega), rfl⟩)
      | none =>
        cases o5 with
        | some c =>
          have es : y1 = nI c := es
          have hc := (lf_lt (Nat.le_refl _) h5).1
          have ec : codeM T (movesP L md) i = some ([c], 1) := by unfold codeM; rw [h4, h5]
          obtain ⟨P, cP, kP⟩ := put c es hc
          refine ⟨fun _ => ⟨rfl, P, cP, fun h8 hp8 => have hp8 := kP h8 hp8; ⟨fun c0 => absurd c0 (by decide), fun _ => ⟨fun _ => ?_, fun c0 => absurd (nI_pos' (by omega)) c0⟩⟩⟩, fun c0 => absurd (by rw [es]; exact nI_pos' (by omega)) c0⟩
          exact v435 h8 _ [c] 1 ec hp8.1 (by simp) hp8.2 (by omega) (Or.inl ⟨by decide, rfl⟩)
        | none =>
          cases o6 with
          | some c =>
            have es : y1 = nI c := es
            have hc := (lf_lt (Nat.le_refl _) h6).1
            have ec : codeM T (movesP L md) i = some (c :: bigB (L.getD i (0, 0, 0)).2.1, 1) := by unfold codeM; rw [h4, h5, h6, eM2]
            obtain ⟨P, cP, kP⟩ := put c es hc
            refine ⟨fun _ => ⟨rfl, P, cP, fun h8 hp8 => have hp8 := kP h8 hp8; ⟨fun c0 => absurd c0 (by decide), fun _ => ⟨fun c0 => absurd c0 (by decide), fun _ => ?_⟩⟩⟩, fun c0 => absurd (by rw [es]; exact nI_pos' (by omega)) c0⟩
            obtain ⟨C8, Z8⟩ := hp8
            have f8 := Z8.2.2.2.fin f
            have k53 := fx f8 97 53 120 (by decide +kernel)
            have X8 := X.fm Z8.2.2.2 (by simp) (by simp)
            have Xi := X8.2 i hi
            have bq := bigLen_bd hsz
            refine ⟨2100, by rw [k53]; rfl, vp_in_nI (by omega) (by decide), _, by rw [k53, nI_clamp (by omega), Xi.2.1, nI_l (by omega)]; exact M_bigSize _ (by omega), fun v18 h17 hp17 y19 e19 => ?_⟩
            obtain ⟨z1, z2⟩ := hp17
            obtain rfl := z1.symm
            rw [z2, show (1 : Int32) = nI 1 from rfl, pk_sub (by omega)] at e19
            rw [ec] at et
            refine ⟨_, ?_, rfl, rfl, rfl, Z8, i, k - 1, cs ++ (c :: bigB (L.getD i (0, 0, 0)).2.1), cs ++ [c], bigLen (L.getD i (0, 0, 0)).2.1, rfl, hi, by omega, C8, ?_, ?_, ?_, et, by omega, rfl, Or.inl ⟨e19, by omega⟩⟩
            · omega
            · rw [List.append_assoc]; rfl
            · simp only [List.length_append, List.length_cons, List.length_nil, bigB_len]; omega
            · simp only [List.length_append, List.length_cons, bigB_len]; omega
          | none =>
            have es : y1 = -1 := es
            have ec : codeM T (movesP L md) i = none := by unfold codeM; rw [h4, h5, h6]
            refine ⟨fun c0 => absurd c0 (by rw [es]; decide), fun _ => ⟨rfl, fun h22 e22 => ?_⟩⟩
            rw [ec] at et
            subst e22
            unfold spS
            rw [← et]
            exact ⟨wI_same, Z.2.2.2.put (by simp)⟩
    refine ⟨fun c4 => ⟨fun c5 => v349 _ _ _ _ rfl rfl rfl ?_, fun c5 => v349 _ _ _ _ rfl rfl rfl ?_⟩, fun c4 => v349 _ _ _ _ rfl rfl rfl ?_⟩
    · rw [if_neg (fun q => q c4), if_neg (fun q => q c5)]
    · rw [if_neg (fun q => q c4), if_pos c5]
    · rw [if_pos c4]
