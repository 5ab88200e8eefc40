/-! the reference: a given table (my own) -/
noncomputable def Us : Tb := (UBy, 4, 3)
def r3 (m : Nat) : Nat := if m % 2 = 0 then m / 2 else 3 + m / 2
def ix3 (k : Nat) : Nat := 4608 + 256 * r3 (k / 256) + k % 256
theorem ix3_lt {k : Nat} (h : k < 1536) : 4608 ≤ ix3 k ∧ ix3 k < 6144 := by
  unfold ix3 r3
  split <;> omega
theorem ix3_inj {k j : Nat} (h : k < 1536) (hj : j < 1536) (e : ix3 k = ix3 j) : k = j := by
  unfold ix3 r3 at e
  split at e <;> split at e <;> omega
theorem ix3_cell {i what : Nat} (hi : i < 256) (hw : what < 6) : cellT i what < 1536 ∧ ix3 (cellT i what) = 1536 * 3 + 256 * what + i := by
  have q := six hw
  rcases q with rfl | rfl | rfl | rfl | rfl | rfl <;> unfold cellT ix3 r3 <;> constructor <;> (try split) <;> omega
noncomputable def GtS (e : Nat) (src : List Nat) (p : Nat) (h1 : Hp) : Prop := match tabHP src e p with
  | .inl (f, q) => f ≠ 0 ∧ ∃ p', MP h1 e src (UBy, 4, 3) (((ost0 p fun _ => 0).sfa p').bad f q)
  | .inr (n, q) => if (subP src (q + 2) (q + n)).ft = 0 ∧ (subP src (q + 2) (q + n)).out.length = 1536 ∧ goodB ((subP src (q + 2) (q + n)).out, src.getD q 0, src.getD (q + 1) 0) = true then MP h1 e src ((subP src (q + 2) (q + n)).out, src.getD q 0, src.getD (q + 1) 0) (ost0 (q + n) (cntP true (fun _ => 0) 7 1)) else ∃ p', MP h1 e src (UBy, 4, 3) (((ost0 p fun _ => 0).sfa p').bad 5 q)
/-- what is kept of the own file while the table's file is read -/
def GS (h : Hp) (src : List Nat) (N S : Nat) (h1 : Hp) : Prop := Sr h1 src ∧ EntV h1 1 (UBy, 4, 3) ∧ EntV h1 0 (UBy, 4, 3) ∧ h1.1 102 3 = nI N ∧ h1.1 103 3 = nI S ∧ (∀ j, j < 8 → h1.1 110 j = nI 0) ∧ ActV h1 [] ∧ MFr h h1
theorem GS.w3 {h h1 : Hp} {src : List Nat} {N S k : Nat} {v : Int32} (X : GS h src N S h1) (hk : 4608 ≤ k) : GS h src N S (wI h1 101 k v) := by
  obtain ⟨x1, x2, x3, x4, x5, x6, x7, x8⟩ := X
  have V : ∀ t T, t < 3 → EntV h1 t T → EntV (wI h1 101 k v) t T := fun t T ht V => V.of (fun j hj => wI_idx (by omega)) (by rw [wI_cell (by decide)]) (by rw [wI_cell (by decide)])
  have F : Fr [101] h1 (wI h1 101 k v) := Fr.rf.put (by simp)
  refine ⟨⟨x1.1.fr F, x1.2.1, x1.2.2.1.of (wI_cell (by decide)), x1.2.2.2⟩, V 1 _ (by decide) x2, V 0 _ (by decide) x3, by rw [wI_cell (by decide)]; exact x4, by rw [wI_cell (by decide)]; exact x5, by rw [wI_cell (by decide)]; exact x6, ?_, x8.tr ⟨fun c hc => wI_cell (fun q => hc (by simp [q])), fun _ _ => rfl, fun _ _ _ => rfl, fun k _ => by rw [wI_cell (by decide)], fun t T ht q => V t T (by omega) q⟩⟩
  unfold ActV
  rw [wI_cell (by decide), wI_cell (by decide), wI_cell (by decide), wI_cell (by decide), wI_cell (by decide)]
  exact x7
def J7 (h hb : Hp) (e : Nat) (src : List Nat) (n q : Nat) (m x0 : Nat) (x3 x4 x5 : Int32) (h2 : Hp) : Prop := x0 = 97 ∧ x3 = nI q ∧ x4 = nI (q + n) ∧ x5 = nI e ∧ ∃ (tot : Ost) (p' m' : Nat), tot = (subP src (q + 2) (q + n)).sfa p' ∧ m = 2000 + m' ∧ WI hb 0 106 (q + n) false src UBy (UBy, 4, 3) tot m' h2
noncomputable def J9 (h : Hp) (e : Nat) (src : List Nat) (n q : Nat) (m x0 : Nat) (x3 x4 x5 x7 x8 : Int32) (h2 : Hp) : Prop := x0 = 97 ∧ x3 = nI q ∧ x4 = nI (q + n) ∧ x5 = nI e ∧ GS h src (src.getD q 0) (src.getD (q + 1) 0) h2 ∧ ∃ k, x8 = nI k ∧ k ≤ 1536 ∧ m = 1536 - k ∧ ((x7 = 0 ∧ ¬ ((subP src (q + 2) (q + n)).ft = 0 ∧ (subP src (q + 2) (q + n)).out.length = 1536)) ∨ (x7 = 1 ∧ (subP src (q + 2) (q + n)).ft = 0 ∧ (subP src (q + 2) (q + n)).out.length = 1536 ∧ (∀ b ∈ (subP src (q + 2) (q + n)).out, b < 256) ∧ ByV h2 106 (subP src (q + 2) (q + n)).out ∧ ∀ j, j < k → h2.1 101 (ix3 j) = nI ((subP src (q + 2) (q + n)).out.getD j 0)))
theorem M_g336 {w : Wd} {h h2 : Hp} {e p n q : Nat} {src : List Nat} {L207 : Nat → Int32 → Int32 → Int32 → Hp → Prop} {L259 : Nat → Int32 → Int32 → Int32 → Int32 → Int32 → Hp → Prop} (hT : tabHP src e p = .inr (n, q)) (he : q + n ≤ e ∧ e ≤ src.length) (X : GS h src (src.getD q 0) (src.getD (q + 1) 0) h2) (s0 : Int32) (hs : (s0 = 1 ∧ ((subP src (q + 2) (q + n)).ft = 0 ∧ (subP src (q + 2) (q + n)).out.length = 1536 ∧ goodB ((subP src (q + 2) (q + n)).out, src.getD q 0, src.getD (q + 1) 0) = true) ∧ EntV h2 3 ((subP src (q + 2) (q + n)).out, src.getD q 0, src.getD (q + 1) 0)) ∨ (s0 = 0 ∧ ¬ ((subP src (q + 2) (q + n)).ft = 0 ∧ (subP src (q + 2) (q + n)).out.length = 1536 ∧ goodB ((subP src (q + 2) (q + n)).out, src.getD q 0, src.getD (q + 1) 0) = true))) : V_X12_givenTable_336 w SH 97 (nI q) (nI (q + n)) (nI e) s0 h2 L207 L259 (fun h1 => GtS e src p h1 ∧ MFr h h1) := by
  obtain ⟨x1, x2, x3, x4, x5, x6, x7, x8⟩ := X
  intro y1 e1
  subst e1
  refine ⟨rfl, fun h4 e4 h6 e6 h8 e8 h10 e10 h12 e12 => ?_⟩
  have F12 : Fm [6, 14, 15, 18, 19] [] [] h2 h12 := by
    rw [e12, e10, e8, e6, e4]
    exact ((((Fm.rf.put (by decide)).put (by decide)).put (by decide)).put (by decide)).put (by decide)
  refine ⟨_, M_noCaches (F12.fin x1.1), fun h17 hp => ?_⟩
  obtain ⟨z1, z2, z3, F17⟩ := hp
  have FF : Fm [6, 14, 15, 18, 19, 29] [] [108, 109] h2 h17 := (F12.mono (by decide) (by decide) (by decide)).tr (F17.mono (by decide) (by decide) (by decide))
  have k : ∀ k, k ≠ 29 → h17.1 97 k = h12.1 97 k := fun k hk => F17.2.2.2 k (by simp; exact hk)
  have i6 : h17.1 97 6 = nI 0 := by rw [k 6 (by decide), e12, wI_idx (by decide), e10, wI_idx (by decide), e8, wI_idx (by decide), e6, wI_idx (by decide), e4, wI_same]; rfl
  have i19 : h17.1 97 19 = 1 := by rw [k 19 (by decide), e12, wI_idx (by decide), e10, wI_idx (by decide), e8, wI_idx (by decide), e6, wI_same]
  have i18 : h17.1 97 18 = nI 1 := by rw [k 18 (by decide), e12, wI_idx (by decide), e10, wI_idx (by decide), e8, wI_same]; rfl
  have i15 : h17.1 97 15 = nI e := by rw [k 15 (by decide), e12, wI_idx (by decide), e10, wI_same]
  have i14 : h17.1 97 14 = nI (q + n) := by rw [k 14 (by decide), e12, wI_same]
  have S17 := x1.fm FF (by decide)
  have V0 := x3.fm FF (by decide) (by decide) (by decide)
  have V1 := x2.fm FF (by decide) (by decide) (by decide)
  have A17 := x7.fm FF (by decide) (by decide) (by decide) (by decide) (by decide)
  have t17 : ∀ j, j < 8 → h17.1 110 j = nI 0 := by rw [FF.2.2.1 110 (by decide) (by decide)]; exact x6
  have M17 : MFr h h17 := x8.tr (FF.mf (by decide) (by decide) (by decide))
  have hG : GtS e src p = fun h1 => if (subP src (q + 2) (q + n)).ft = 0 ∧ (subP src (q + 2) (q + n)).out.length = 1536 ∧ goodB ((subP src (q + 2) (q + n)).out, src.getD q 0, src.getD (q + 1) 0) = true then MP h1 e src ((subP src (q + 2) (q + n)).out, src.getD q 0, src.getD (q + 1) 0) (ost0 (q + n) (cntP true (fun _ => 0) 7 1)) else ∃ p', MP h1 e src (UBy, 4, 3) (((ost0 p fun _ => 0).sfa p').bad 5 q) := by
    funext h1
    unfold GtS
    rw [hT]
  rw [hG]
  rcases hs with ⟨rfl, hg, V3⟩ | ⟨rfl, hg⟩
  · refine ⟨fun _ => ⟨_, S_takeTable S17.1 3 1 (by decide) (by decide) (by decide), fun h22 K => ?_⟩, fun c => absurd c (by decide)⟩
    have f22 := S17.1.fr K.1
    rw [fx f22 97 30 110 (by decide +kernel)]
    have cl7 : (7 : Int32).toNatClampNeg = 7 := by decide
    refine ⟨8, rfl, vp_in_nI (n := 7) (by decide) (by decide), fun h26 e26 => ?_⟩
    rw [cl7] at e26
    have c97 : h22.1 97 = h17.1 97 := K.1.2.2 97 (by decide)
    have F26 : Fr [110] h22 h26 := by rw [e26]; exact Fr.rf.put (by simp)
    have d97 : h26.1 97 = h17.1 97 := by rw [e26, wI_cell (by decide)]; exact c97
    have V3' : EntV h17 3 ((subP src (q + 2) (q + n)).out, src.getD q 0, src.getD (q + 1) 0) := V3.fm FF (by decide) (by decide) (by decide)
    have E26 : ∀ t T, EntV h22 t T → EntV h26 t T := fun t T V => V.of (fun k _ => by rw [e26, wI_cell (by decide)]) (by rw [e26, wI_cell (by decide)]) (by rw [e26, wI_cell (by decide)])
    have g := (goodB_iff _).mp hg.2.2
    have lj : h26.2.2 = h17.2.2 := by rw [F26.2.1, K.1.2.1]
    refine ⟨?_, M17.tr ⟨fun c hc => ?_, fun c _ => by rw [lj], fun c k _ => by rw [F26.1, K.1.1], fun k _ => by rw [d97], fun t T ht V => E26 t T (K.other V (by omega))⟩⟩
    · show ite _ _ _
      rw [if_pos hg]
      refine ⟨⟨f22.fr F26, by rw [F26.1, K.1.1]; exact S17.2.1, (S17.2.2.1.of (K.1.2.2 98 (by decide))).of (F26.2.2 98 (by decide)), S17.2.2.2⟩, E26 1 _ (K.to V3'), E26 0 _ (K.other V0 (by decide)), ⟨by rw [d97]; exact i15, by rw [d97]; exact i18, by rw [d97]; exact i19⟩, ⟨by rw [d97]; exact i14, he.1, he.2⟩, ?_, ?_, ?_, fun j hj => ?_, ⟨?_, rfl, rfl, rfl, rfl, rfl⟩, g, ⟨by rw [d97]; exact i6, (by show (0 : Nat) < 17; decide), fun q => absurd rfl q⟩⟩
      · intro i hi; rw [lj]; exact z1 i hi
      · intro i hi; rw [lj]; exact z2 i hi
      · rw [d97]; exact z3
      · rw [e26, wI_if, K.1.2.2 110 (by decide)]
        unfold cntP
        show _ = nI (updN (fun _ => 0) 7 (0 + 1) j)
        unfold updN
        split
        · rfl
        · exact t17 j hj
      · unfold ActV
        rw [d97, e26, wI_cell (by decide), wI_cell (by decide), wI_cell (by decide), wI_cell (by decide), K.1.2.2 111 (by decide), K.1.2.2 112 (by decide), K.1.2.2 113 (by decide), K.1.2.2 114 (by decide)]
        exact A17
    · simp at hc
      rw [F26.2.2 c (by simp; omega), K.1.2.2 c (by simp; omega)]
  · refine ⟨fun c => absurd rfl c, fun _ => ⟨_, M_fails (q := 0) ⟨i6, by decide, fun q => absurd rfl q⟩ 5 q (by decide), fun v32 h31 hp => ?_⟩⟩
    obtain ⟨-, A31, F31⟩ := hp
    refine ⟨?_, M17.tr (F31.mf (by decide) (by decide) (by decide))⟩
    show ite _ _ _
    rw [if_neg hg]
    refine ⟨q + n, S17.fm F31 (by decide), V1.fm F31 (by decide) (by decide) (by decide), V0.fm F31 (by decide) (by decide) (by decide), ⟨by rw [F31.2.2.2 15 (by decide)]; exact i15, by rw [F31.2.2.2 18 (by decide)]; exact i18, by rw [F31.2.2.2 19 (by decide)]; exact i19⟩, ⟨by rw [F31.2.2.2 14 (by decide)]; exact i14, he.1, he.2⟩, by rw [F31.2.1 108 (by decide)]; exact z1, by rw [F31.2.1 109 (by decide)]; exact z2, by rw [F31.2.2.2 29 (by decide)]; exact z3, by rw [F31.2.2.1 110 (by decide) (by decide)]; exact t17, ⟨A17.fm F31 (by decide) (by decide) (by decide) (by decide) (by decide), rfl, rfl, rfl, rfl, rfl⟩, GoodU, A31⟩
