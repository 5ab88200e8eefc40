/-! the class: codes told, a window made (my own) -/
def RLo (N : Nat) (L : List Nat) (q : List Nat × Bool) : Prop := (L.length ≤ N ∧ q = (L, false)) ∨ (N < L.length ∧ q.2 = true ∧ q.1.length = N)
theorem RLo.push {N : Nat} {L : List Nat} {q : List Nat × Bool} (X : RLo N L q) (x : Nat) : RLo N (L ++ [x]) (pushL N q x) := by
  unfold pushL
  rcases X with ⟨h1, rfl⟩ | ⟨h1, h2, h3⟩
  · by_cases h : L.length < N
    · rw [if_pos h]; exact Or.inl ⟨by simp; omega, rfl⟩
    · rw [if_neg h]; exact Or.inr ⟨by simp; omega, rfl, by show L.length = N; omega⟩
  · rw [if_neg (by omega)]; exact Or.inr ⟨by simp; omega, rfl, h3⟩
theorem RLo.all {N : Nat} : ∀ {l L : List Nat} {q : List Nat × Bool}, RLo N L q → RLo N (L ++ l) (pushAll N q l)
  | [], L, q, X => by rw [List.append_nil]; exact X
  | x :: l, L, q, X => by
    have := RLo.all (l := l) (X.push x)
    rw [List.append_assoc] at this
    exact this
theorem RLo.app {N : Nat} {L : List Nat} {q : List Nat × Bool} (X : RLo N L q) (l : List Nat) : RLo N (L ++ l) (appL N q l) := by
  unfold appL
  rcases X with ⟨h1, rfl⟩ | ⟨h1, h2, h3⟩
  · by_cases h : L.length + l.length ≤ N
    · refine Or.inl ⟨by simp; omega, ?_⟩
      simp only [Bool.false_or]
      rw [List.take_of_length_le (by omega), decide_eq_false (by omega)]
    · refine Or.inr ⟨by simp; omega, ?_, ?_⟩
      · simp only [Bool.false_or]; exact decide_eq_true (by omega)
      · simp; omega
  · refine Or.inr ⟨by simp; omega, by simp [h2], ?_⟩
    simp; omega
def RowL (h : Hp) (r a N : Nat) (L : List Nat) : Prop := ∃ q : List Nat × Bool, RowV SH h r a N q.1 q.2 ∧ RLo N L q
theorem RowL.fr {h h1 : Hp} {r a N : Nat} {L : List Nat} {S : List Nat} (X : RowL h r a N L) (F : Fr S h h1) (b : r ∉ S) (c : a ∉ S) : RowL h1 r a N L := X.imp fun q z => ⟨z.1.fr F b c, z.2⟩
theorem R_push {w : Wd} {h : Hp} {r a N : Nat} {L : List Nat} (X : RowL h r a N L) (x : Int32) : ∃ P : Hp → Prop, C_X8_push w SH r x h P ∧ ∀ h1, P h1 → RowL h1 r a N (L ++ [un x]) ∧ Fr [r, a] h h1 := by
  obtain ⟨q, V, Z⟩ := X
  exact ⟨_, S_push V x, fun h1 hp => ⟨⟨_, hp.1, Z.push _⟩, hp.2⟩⟩
theorem R_big {w : Wd} {h : Hp} {r a N : Nat} {L : List Nat} (X : RowL h r a N L) (n : Nat) (hn : n < 2 ^ 31) : ∃ P : Hp → Prop, C_X8_pushBig w SH r ((nI n).toInt64) h P ∧ ∀ h1, P h1 → RowL h1 r a N (L ++ bigB n) ∧ Fr [r, a] h h1 := by
  obtain ⟨q, V, Z⟩ := X
  refine ⟨_, by rw [nI_l hn]; exact S_pushBig V n (by omega), fun h1 hp => ?_⟩
  exact ⟨⟨_, hp.1, Z.all⟩, hp.2⟩
theorem R_low {w : Wd} {h : Hp} {r a N : Nat} {L : List Nat} (X : RowL h r a N L) (v : Int64) (n : Nat) (hn : n ≤ 8) : ∃ P : Hp → Prop, C_X8_pushLowest w SH r v (nI n) h P ∧ ∀ h1, P h1 → RowL h1 r a N (L ++ lowL v n) ∧ Fr [r, a] h h1 := by
  obtain ⟨q, V, Z⟩ := X
  exact ⟨_, S_pushLowest V v n hn, fun h1 hp => ⟨⟨_, hp.1, Z.all⟩, hp.2⟩⟩
theorem R_app {w : Wd} {h : Hp} {r a N r' a' N' : Nat} {L bs : List Nat} {lo : Bool} (X : RowL h r a N L) (R : RowV SH h r' a' N' bs lo) : ∃ P : Hp → Prop, C_X8_append w SH r r' (0 : Int32) (nI bs.length) h P ∧ ∀ h1, P h1 → RowL h1 r a N (L ++ bs) ∧ Fr [r, a] h h1 := by
  obtain ⟨q, V, Z⟩ := X
  refine ⟨_, S_append V R 0 bs.length (by omega), fun h1 hp => ?_⟩
  rw [List.drop_zero, List.take_length] at hp
  exact ⟨⟨_, hp.1, Z.app _⟩, hp.2⟩
theorem enc_neg {o : Option Nat} (h : ∀ c, o = some c → c < 2 ^ 31) : enc o < 0 ↔ o = none := by
  cases o with
  | none => exact ⟨fun _ => rfl, fun _ => by decide⟩
  | some c => exact ⟨fun q => absurd q (nI_pos (h c rfl)), fun q => by cases q⟩
theorem enc_nn {o : Option Nat} (h : ∀ c, o = some c → c < 2 ^ 31) : 0 ≤ enc o ↔ o ≠ none := by
  cases o with
  | none => exact ⟨fun q => absurd q (by decide), fun q => absurd rfl q⟩
  | some c => exact ⟨fun _ => (by simp), fun _ => nI_pos' (h c rfl)⟩
def cdS (o : Option (List Nat)) (v : Int32) (h1 : Hp) : Prop := match o with
  | none => v = 0 ∧ ∃ b l, RowV SH h1 45 46 3072 b l
  | some cs => v = 1 ∧ RowV SH h1 45 46 3072 cs false
theorem S_tellCodes {w : Wd} {h : Hp} {L : List Sp3} {md : List Nat} {t r a : Nat} {T : Tb} {b5 : List Nat} {l5 : Bool} (X : IxV h T) (Y : MvV h L md) (V : TabV h t r a T) (sm : Sml L md) (hs : ∀ i, i < L.length → (L.getD i (0, 0, 0)).2.1 < 16384) (hl : L.length ≤ 1000) (R : RowV SH h 45 46 3072 b5 l5) (nt : t ≠ 45 ∧ t ≠ 46 ∧ r ≠ 45 ∧ r ≠ 46 ∧ a ≠ 45 ∧ a ≠ 46) : C_X5_tellCodes w SH 27 t h (fun v h1 => cdS (codesM T (movesP L md) L.length 0 []) v h1 ∧ Fr [45, 46] h h1) := by
  have f := X.1
  have hM : (movesP L md).length = L.length := movesP_len L md
  generalize ht : codesM T (movesP L md) L.length 0 [] = tot
  have lt : ∀ (P : Nat → Bool) (c : Nat), lf P 256 = some c → c < 2 ^ 31 := fun P c q => by have := (lf_lt (Nat.le_refl _) q).1; omega
  refine K_X5_tellCodes nlt_wf (fun m x0 x1 x2 h' => x0 = 27 ∧ x1 = t ∧ ∃ i k acc, x2 = nI i ∧ i ≤ L.length ∧ L.length - i ≤ k ∧ m = L.length - i ∧ RowV SH h' 45 46 3072 acc false ∧ acc.length ≤ 3 * i ∧ codesM T (movesP L md) k i acc = tot ∧ Fr [45, 46] h h') ?_ ?_
  · have k5 := fx f 27 5 45 (by decide +kernel)
    refine ⟨rfl, by rw [k5]; rfl, _, by rw [k5]; exact S_clear R, fun h6 hp y7 e7 => ?_⟩
    exact ⟨L.length, rfl, rfl, 0, L.length, [], e7, by omega, by omega, rfl, hp.1, by simp, ht, hp.2.mono (by simp)⟩
  · rintro m x0 x1 x2 h' ⟨rfl, rfl, i, k, acc, rfl, hi, hk, rfl, Ra, hal, et, F⟩
    have X' := X.fr F (by decide) (by decide)
    have Y' := Y.fr F (by decide) (by decide) (by decide) (by decide)
    have V' : TabV h' x1 r a T := V.ag ⟨F.2.2 _ (by simp; omega), by rw [F.1]⟩ ⟨F.2.2 _ (by simp; omega), by rw [F.1]⟩ (F.2.2 _ (by simp; omega))
    have f' := X'.1
    have k1 := fx f' 27 1 33 (by decide +kernel)
    have k2 := fx f' 27 2 37 (by decide +kernel)
    have k5 := fx f' 27 5 45 (by decide +kernel)
    refine ⟨rfl, by rw [k1]; rfl, _, by rw [k1]; exact K_X6_length (RET := fun v h1 => h1 = h' ∧ v = nI L.length) ⟨rfl, rfl, Y'.2.1⟩, fun v7 h6 hp => ?_⟩
    obtain ⟨e1, e2⟩ := hp
    obtain rfl := e1.symm
    subst e2
    rw [nI_leI (by omega) (by omega)]
    refine ⟨fun c7 => ⟨?_, F⟩, fun c7 => ⟨by rw [k2]; rfl, _, by rw [k2, k1]; exact S_pairCode X' Y' V' sm i (by omega), fun v14 h13 hp y15 e15 => ?_⟩⟩
    · rw [codesM_end (by rw [hM]; omega)] at et
      rw [← et]; exact ⟨rfl, Ra⟩
    obtain ⟨e1, e2⟩ := hp
    obtain rfl := e1.symm
    rw [e2] at e15
    rw [show k = (k - 1) + 1 by omega, codesM, if_pos (by rw [hM]; omega)] at et
    have nx : ∀ (h9 : Hp) (b : List Nat) (d : Nat), codeM T (movesP L md) i = some (b, d) → i + d ≤ L.length → RowV SH h9 45 46 3072 (acc ++ b) false → Fr [45, 46] h h9 → b.length ≤ 3 → 1 ≤ d → V_X5_tellCodes_134 w SH 27 x1 (nI (i + d - 1)) h9 (fun x0 x1_1 x2 h_1 => ∃ a_1, a_1 < L.length - i ∧ x0 = 27 ∧ x1_1 = x1 ∧ ∃ i k acc, x2 = nI i ∧ i ≤ L.length ∧ L.length - i ≤ k ∧ a_1 = L.length - i ∧ RowV SH h_1 45 46 3072 acc false ∧ acc.length ≤ 3 * i ∧ codesM T (movesP L md) k i acc = tot ∧ Fr [45, 46] h h_1) (fun v h1 => cdS tot v h1 ∧ Fr [45, 46] h h1) := by
      intro h9 b d ec hd R9 F9 hb hd1 y1 e1
      rw [ec] at et
      rw [nI_1] at e1
      refine ⟨L.length - (i + d), by omega, rfl, rfl, i + d, k - 1, acc ++ b, by rw [e1]; congr 1; omega, hd, by omega, rfl, R9, by simp; omega, et, F9⟩
    have hsz := hs i (by omega)
    rw [e15, enc_neg (lt _)]
    refine ⟨fun c8 => ?_, fun c8 => ?_⟩
    · refine ⟨by rw [k1]; rfl, _, by rw [k1]; exact S_sizeOf Y' i (by omega), fun v23 h22 hp => ?_⟩
      obtain ⟨e1, e3⟩ := hp
      obtain rfl := e1.symm
      subst e3
      refine ⟨by rw [k2]; rfl, _, by rw [k2, k1]; exact S_singleCode X' Y' V' sm i _ (by omega) (by omega), fun v29 h28 hp y30 e30 => ?_⟩
      obtain ⟨e1, e3⟩ := hp
      obtain rfl := e1.symm
      rw [e3] at e30
      have hg : ((movesP L md).getD i (0, 0, 0)).2.1 = (L.getD i (0, 0, 0)).2.1 := by rw [movesP_get (by omega)]
      rw [e30, enc_neg (lt _)]
      refine ⟨fun c9 => ⟨by rw [k2]; rfl, _, by rw [k2, k1]; exact S_singleCode X' Y' V' sm i 0 (by omega) (by decide), fun v38 h37 hp y39 e39 => ?_⟩, fun c9 => ?_⟩
      · obtain ⟨e1, e4⟩ := hp
        obtain rfl := e1.symm
        rw [e4] at e39
        rw [e39, enc_nn (lt _)]
        refine ⟨fun c10 => ?_, fun c10 => ⟨?_, F⟩⟩
        · obtain ⟨c, hc⟩ := Option.ne_none_iff_exists'.mp c10
          have hc256 := (lf_lt (Nat.le_refl _) hc).1
          have ec : codeM T (movesP L md) i = some (c :: bigB (L.getD i (0, 0, 0)).2.1, 1) := by
            unfold codeM
            rw [c8, hg, c9, hc]
          rw [hc]
          refine ⟨by rw [k5]; rfl, _, by rw [k5]; exact S_push Ra _, fun h46 hp => ?_⟩
          obtain ⟨Rb, Fb⟩ := hp
          rw [pushL_fit (by omega), show un (enc (some c)) = c from un_nI hc256] at Rb
          have fb := f'.fr Fb
          have k1b := fx fb 27 1 33 (by decide +kernel)
          have k5b := fx fb 27 5 45 (by decide +kernel)
          refine ⟨by rw [k1b]; rfl, _, by rw [k1b]; exact S_sizeOf (Y'.fr Fb (by decide) (by decide) (by decide) (by decide)) i (by omega), fun v52 h51 hp => ?_⟩
          obtain ⟨e1, e5⟩ := hp
          obtain rfl := e1.symm
          subst e5
          refine ⟨by rw [k5b]; rfl, _, by rw [k5b, nI_l (by omega)]; exact S_pushBig Rb _ (by omega), fun h57 hp => ?_⟩
          obtain ⟨Rc, Fc⟩ := hp
          have hbl := bigLen2 hsz
          rw [pushAll_fit (by rw [bigB_len, List.length_append, List.length_singleton]; omega), List.append_assoc] at Rc
          exact nx h57 _ 1 ec (by omega) Rc ((F.tr1 Fb).tr1 Fc) (by rw [List.length_cons, bigB_len]; omega) (by decide)
        · have hc : lf (alnB T ((movesP L md).getD i (0, 0, 0)) 0) 256 = none := Decidable.not_not.mp c10
          have ec : codeM T (movesP L md) i = none := by
            unfold codeM
            rw [c8, hg, c9, hc]
          rw [ec] at et
          rw [← et]; exact ⟨rfl, _, _, Ra⟩
      · obtain ⟨c, hc⟩ := Option.ne_none_iff_exists'.mp c9
        have hc256 := (lf_lt (Nat.le_refl _) hc).1
        have ec : codeM T (movesP L md) i = some ([c], 1) := by
          unfold codeM
          rw [c8, hg, hc]
        rw [hc]
        refine ⟨by rw [k5]; rfl, _, by rw [k5]; exact S_push Ra _, fun h46 hp => ?_⟩
        obtain ⟨Rb, Fb⟩ := hp
        rw [pushL_fit (by omega), show un (enc (some c)) = c from un_nI hc256] at Rb
        exact nx h46 _ 1 ec (by omega) Rb (F.tr1 Fb) (by simp) (by decide)
    · obtain ⟨c, hc⟩ := Option.ne_none_iff_exists'.mp c8
      obtain ⟨hc256, -, hbot⟩ := lf_lt (Nat.le_refl _) hc
      have ec : codeM T (movesP L md) i = some ([c], 2) := by
        unfold codeM
        rw [hc]
      have hi2 : i + 1 < L.length := by
        unfold botB at hbot
        rw [Bool.and_eq_true, Bool.and_eq_true] at hbot
        have := of_decide_eq_true hbot.1.2
        rw [hM] at this
        exact this
      rw [hc]
      refine ⟨by rw [k5]; rfl, _, by rw [k5]; exact S_push Ra _, fun h67 hp y68 e68 => ?_⟩
      obtain ⟨Rb, Fb⟩ := hp
      rw [pushL_fit (by omega), show un (enc (some c)) = c from un_nI hc256] at Rb
      rw [nI_1] at e68
      subst e68
      exact nx h67 _ 2 ec (by omega) Rb (F.tr1 Fb) (by simp) (by decide)
theorem S_tellSizes {w : Wd} {h : Hp} {d cs ad acc : List Nat} {r6 a6 N6 : Nat} (f : Fin h) (Rd : RowV SH h 43 44 2048 d false) (Rc : RowV SH h 45 46 3072 cs false) (Ra : RowV SH h 47 48 2048 ad false) (Q : RowL h r6 a6 N6 acc) (n6 : r6 < 27 ∧ a6 < 27 ∧ shAt SH r6 = some (.inr 8)) (n sz : Nat) (hn : n ≤ 2048) (hz : sz ≤ 4) : C_X5_tellSizes w SH 27 r6 (nI n) (nI sz) h (fun h1 => RowL h1 r6 a6 N6 (acc ++ bigB (bigLen n + 1 + bigLen d.length + bigLen cs.length + bigLen ad.length + sz + (d.length + cs.length + ad.length)) ++ bigB n ++ [0] ++ bigB d.length ++ bigB cs.length ++ bigB ad.length) ∧ Fr [r6, a6] h h1) := by
  have k4 := fx f 27 4 43 (by decide +kernel)
  have k5 := fx f 27 5 45 (by decide +kernel)
  have k6 := fx f 27 6 47 (by decide +kernel)
  have l1 := Rd.2.2.2.2.1
  have l2 := Rc.2.2.2.2.1
  have l3 := Ra.2.2.2.2.1
  have b1 := bigLen_b d.length
  have b2 := bigLen_b cs.length
  have b3 := bigLen_b ad.length
  have b4 := bigLen_b n
  refine K_X5_tellSizes ⟨rfl, by rw [k4]; rfl, _, by rw [k4]; exact S_length Rd, fun v7 h6 hp => ?_⟩
  obtain ⟨e1, e2⟩ := hp
  obtain rfl := e1.symm
  subst e2
  refine ⟨by rw [k5]; rfl, _, by rw [k5]; exact S_length Rc, fun v13 h12 hp => ?_⟩
  obtain ⟨e1, e2⟩ := hp
  obtain rfl := e1.symm
  subst e2
  refine ⟨by rw [k6]; rfl, _, by rw [k6]; exact S_length Ra, fun v19 h18 hp y20 e20 => ?_⟩
  obtain ⟨e1, e2⟩ := hp
  obtain rfl := e1.symm
  subst e2
  rw [nI_add, nI_add] at e20
  subst e20
  refine ⟨_, bigL n (by omega), fun v26 h25 hp => ?_⟩
  obtain ⟨e1, e2⟩ := hp
  obtain rfl := e1.symm
  subst e2
  refine ⟨by rw [k4]; rfl, _, by rw [k4]; exact S_length Rd, fun v32 h31 hp => ?_⟩
  obtain ⟨e1, e2⟩ := hp
  obtain rfl := e1.symm
  subst e2
  refine ⟨_, bigL d.length (by omega), fun v37 h36 hp => ?_⟩
  obtain ⟨e1, e2⟩ := hp
  obtain rfl := e1.symm
  subst e2
  refine ⟨by rw [k5]; rfl, _, by rw [k5]; exact S_length Rc, fun v43 h42 hp => ?_⟩
  obtain ⟨e1, e2⟩ := hp
  obtain rfl := e1.symm
  subst e2
  refine ⟨_, bigL cs.length (by omega), fun v48 h47 hp => ?_⟩
  obtain ⟨e1, e2⟩ := hp
  obtain rfl := e1.symm
  subst e2
  refine ⟨by rw [k6]; rfl, _, by rw [k6]; exact S_length Ra, fun v54 h53 hp => ?_⟩
  obtain ⟨e1, e2⟩ := hp
  obtain rfl := e1.symm
  subst e2
  refine ⟨_, bigL ad.length (by omega), fun v59 h58 hp y60 e60 => ?_⟩
  obtain ⟨e1, e2⟩ := hp
  obtain rfl := e1.symm
  subst e2
  rw [nI_1, nI_add, nI_add, nI_add] at e60
  subst e60
  rw [nI_add, nI_add]
  obtain ⟨P1, c1, q1⟩ := R_big (w := w) Q (bigLen n + 1 + bigLen d.length + bigLen cs.length + bigLen ad.length + sz + (d.length + cs.length + ad.length)) (by omega)
  refine ⟨n6.2.2, P1, c1, fun h66 hp => ?_⟩
  obtain ⟨Q1, F1⟩ := q1 _ hp
  obtain ⟨P2, c2, q2⟩ := R_big (w := w) Q1 n (by omega)
  refine ⟨P2, c2, fun h70 hp => ?_⟩
  obtain ⟨Q2, F2⟩ := q2 _ hp
  obtain ⟨P3, c3, q3⟩ := R_push (w := w) Q2 0
  refine ⟨P3, c3, fun h74 hp => ?_⟩
  obtain ⟨Q3, F3⟩ := q3 _ hp
  have F3 := (F1.tr1 F2).tr1 F3
  have f3 := f.fr F3
  have Rd3 := Rd.fr F3 (by simp; omega) (by simp; omega)
  have Rc3 := Rc.fr F3 (by simp; omega) (by simp; omega)
  have Ra3 := Ra.fr F3 (by simp; omega) (by simp; omega)
  have k43 := fx f3 27 4 43 (by decide +kernel)
  refine ⟨by rw [k43]; rfl, _, by rw [k43]; exact S_length Rd3, fun v80 h79 hp => ?_⟩
  obtain ⟨e1, e2⟩ := hp
  obtain rfl := e1.symm
  subst e2
  obtain ⟨P4, c4, q4⟩ := R_big (w := w) Q3 d.length (by omega)
  refine ⟨P4, c4, fun h84 hp => ?_⟩
  obtain ⟨Q4, F4⟩ := q4 _ hp
  have f4 := f3.fr F4
  have k54 := fx f4 27 5 45 (by decide +kernel)
  refine ⟨by rw [k54]; rfl, _, by rw [k54]; exact S_length (Rc3.fr F4 (by simp; omega) (by simp; omega)), fun v90 h89 hp => ?_⟩
  obtain ⟨e1, e2⟩ := hp
  obtain rfl := e1.symm
  subst e2
  obtain ⟨P5, c5, q5⟩ := R_big (w := w) Q4 cs.length (by omega)
  refine ⟨P5, c5, fun h94 hp => ?_⟩
  obtain ⟨Q5, F5⟩ := q5 _ hp
  have f5 := f4.fr F5
  have k65 := fx f5 27 6 47 (by decide +kernel)
  refine ⟨by rw [k65]; rfl, _, by rw [k65]; exact S_length ((Ra3.fr F4 (by simp; omega) (by simp; omega)).fr F5 (by simp; omega) (by simp; omega)), fun v100 h99 hp => ?_⟩
  obtain ⟨e1, e2⟩ := hp
  obtain rfl := e1.symm
  subst e2
  obtain ⟨P6, c6, q6⟩ := R_big (w := w) Q5 ad.length (by omega)
  refine ⟨P6, c6, fun h104 hp => ?_⟩
  obtain ⟨Q6, F6⟩ := q6 _ hp
  exact ⟨Q6, ((F3.tr1 F4).tr1 F5).tr1 F6⟩
