/-! the class: the maker's steps (my own) -/
theorem bigL {w : Wd} {h : Hp} (n : Nat) (hn : n < 2 ^ 31) : C_X11_bigLength w SH ((nI n).toInt64) h (fun v h1 => h1 = h ∧ v = nI (bigLen n)) := by
  rw [nI_l hn]; exact S_bigLength n (by omega)
/-- the maker's caches and addresses -/
def AdV (h : Hp) (N S : Nat) (nr sm : Nat → Nat) (nx : Nat) (ad : List Nat) : Prop := Fin h ∧ CacW h 40 41 42 N S nr sm nx ∧ N ≤ 32 ∧ S ≤ 16 ∧ (nx < N ∨ (N = 0 ∧ nx = 0)) ∧ RowV SH h 47 48 2048 ad false ∧ (∀ i, nr i < 6048) ∧ ∀ i, sm i < 6048
theorem AdV.fr {h h1 : Hp} {N S : Nat} {nr sm : Nat → Nat} {nx : Nat} {ad : List Nat} {Q : List Nat} (X : AdV h N S nr sm nx ad) (F : Fr Q h h1) (a : 40 ∉ Q) (b : 41 ∉ Q) (c : 42 ∉ Q) (d : 47 ∉ Q) (e : 48 ∉ Q) : AdV h1 N S nr sm nx ad := ⟨X.1.fr F, X.2.1.fr F a b c, X.2.2.1, X.2.2.2.1, X.2.2.2.2.1, X.2.2.2.2.2.1.fr F d e, X.2.2.2.2.2.2⟩
theorem cc40 {h : Hp} (f : Fin h) : CacC h 40 41 42 32 4096 := ⟨rfl, fx f 40 0 41 (by decide +kernel), fx f 40 1 42 (by decide +kernel), rfl, rfl, by decide, by decide, by decide⟩
theorem S_tellAddress {w : Wd} {h : Hp} {N S : Nat} {nr sm : Nat → Nat} {nx : Nat} {ad : List Nat} (X : AdV h N S nr sm nx ad) (a here : Nat) (ha : a < here) (hh : here ≤ 6048) (hl : ad.length + 2 ≤ 2048) : C_X5_tellAddress w SH 27 (nI a) (nI here) h (fun v h1 => v = nI (tellP N S nr sm a here).1 ∧ AdV h1 N S (keepN N nr nx a) (keepS S sm a) (keepX N nx) (ad ++ (tellP N S nr sm a here).2) ∧ Fr [40, 41, 42, 47, 48] h h1) := by
  obtain ⟨f, W, hN, hS, hx, R, bn, bs⟩ := id X
  have k3 := fx f 27 3 40 (by decide +kernel)
  have k6 := fx f 27 6 47 (by decide +kernel)
  have C := cc40 f
  generalize hG : nearGo nr a N 0 (self0 a here) = G
  have ht : tellP N S nr sm a here = (if 0 < S ∧ sm (a % (256 * S)) = a ∧ 1 < bigLen G.2 then (2 + N + a % (256 * S) / 256, [a % 256]) else (G.1, bigB G.2)) := by unfold tellP; rw [hG]
  have hself : (self0 a here).2 < 6049 ∧ (self0 a here).1 < 2 + N := by
    unfold self0
    split
    · exact ⟨by show here - a < 6049; omega, by show 1 < 2 + N; omega⟩
    · exact ⟨by show a < 6049; omega, by show 0 < 2 + N; omega⟩
  have hGb := nearGo_ok (nr := nr) (M := 2 + N) (show a < 6049 by omega) (j := N) (k := 0) hself.1 hself.2 (by omega)
  rw [hG] at hGb
  have hok := tellP_ok (N := N) (S := S) (nr := nr) (sm := sm) (show a < 16384 by omega) (show here < 16384 by omega)
  have keep : ∀ (h6 : Hp) (mode : Nat) (bytes : List Nat), tellP N S nr sm a here = (mode, bytes) → RowV SH h6 47 48 2048 (ad ++ bytes) false → Fr [47, 48] h h6 → ∀ L31, V_X5_tellAddress_187 w SH 27 (nI a) (nI mode) h6 L31 (fun v h1 => v = nI (tellP N S nr sm a here).1 ∧ AdV h1 N S (keepN N nr nx a) (keepS S sm a) (keepX N nx) (ad ++ (tellP N S nr sm a here).2) ∧ Fr [40, 41, 42, 47, 48] h h1) := by
    intro h6 mode bytes et R6 F6 L31
    have f6 := f.fr F6
    have W6 := W.fr F6 (by decide) (by decide) (by decide)
    have k36 := fx f6 27 3 40 (by decide +kernel)
    refine ⟨rfl, by rw [k36]; rfl, _, by rw [k36]; exact S_keep (cc40 f6) W6 hN (by omega) hx a (by omega), fun h7 hp => ?_⟩
    obtain ⟨W7, F7⟩ := hp
    rw [et]
    refine ⟨rfl, ⟨f6.fr F7, W7, hN, hS, keepX_ok hx, R6.fr F7 (by decide) (by decide), ?_, ?_⟩, (F6.mono (by simp)).tr1 (F7.mono (by simp))⟩
    · unfold keepN
      split
      · exact updN_lt bn (by omega)
      · exact bn
    · unfold keepS
      split
      · exact updN_lt bs (by omega)
      · exact bs
  have big : ∀ (mode num : Nat), tellP N S nr sm a here = (mode, bigB num) → num < 6049 → ∀ L31, V_X5_tellAddress_177 w SH 27 (nI a) (nI mode) (nI num) h L31 (fun v h1 => v = nI (tellP N S nr sm a here).1 ∧ AdV h1 N S (keepN N nr nx a) (keepS S sm a) (keepX N nx) (ad ++ (tellP N S nr sm a here).2) ∧ Fr [40, 41, 42, 47, 48] h h1) := by
    intro mode num et hnum L31
    refine ⟨rfl, by rw [k6]; rfl, _, by rw [k6, nI_l (by omega)]; exact S_pushBig R num (by omega), fun h6 hp => ?_⟩
    obtain ⟨R6, F6⟩ := hp
    have hbl := bigLen2 (show num < 16384 by omega)
    rw [pushAll_fit (by rw [bigB_len]; omega)] at R6
    exact keep h6 mode (bigB num) et R6 F6 L31
  have v114 : ∀ L31, G = G → V_X5_tellAddress_31 w SH 27 (nI a) (nI G.1) (nI G.2) (nI N) h L31 (fun v h1 => v = nI (tellP N S nr sm a here).1 ∧ AdV h1 N S (keepN N nr nx a) (keepS S sm a) (keepX N nx) (ad ++ (tellP N S nr sm a here).2) ∧ Fr [40, 41, 42, 47, 48] h h1) := by
    intro L31 _
    rw [V_X5_tellAddress_31, k3, W.1, W.2.1]
    refine ⟨rfl, rfl, fun _ => ⟨fun c8 => ?_, fun c8 => ⟨?_, ?_⟩⟩, fun c => absurd ((nI_leI (by omega) (by omega)).mpr (Nat.le_refl _)) c⟩
    · rw [show (0 : Int32) = nI 0 from rfl, nI_leI (by omega) (by omega)] at c8
      rw [if_neg (by omega)] at ht
      intro y1 e1
      subst e1
      exact ⟨fun _ => big _ _ ht hGb.1 _, fun c => absurd (by decide) c⟩
    · rw [show (0 : Int32) = nI 0 from rfl, nI_leI (by omega) (by omega)] at c8
      rw [nIz (by omega)]; omega
    · rw [show (0 : Int32) = nI 0 from rfl, nI_leI (by omega) (by omega)] at c8
      rw [pk_rem (by omega) (by omega) (by omega)]
      have hm := Nat.mod_lt a (show 0 < 256 * S by omega)
      have hbs := bs (a % (256 * S))
      intro y1 e1
      subst e1
      refine ⟨fun c => absurd c (nI_pos (by omega)), fun _ => ⟨rfl, by rw [k3]; rfl, _, by rw [k3]; exact S_sameAt C W (by omega) _ hm, fun v10 h9 hp => ?_⟩⟩
      obtain ⟨e1, e2⟩ := hp
      obtain rfl := e1.symm
      subst e2
      rw [nI_eq (by omega) (by omega)]
      refine ⟨fun c9 => ?_, fun c9 => ⟨_, bigL G.2 (by omega), fun v16 h15 hp => ?_⟩⟩
      · rw [if_neg (fun q => c9 q.2.1)] at ht
        exact big _ _ ht hGb.1 _
      · obtain ⟨e1, e2⟩ := hp
        obtain rfl := e1.symm
        subst e2
        have hb := bigLen_b G.2
        rw [show (1 : Int32) = nI 1 from rfl, nI_leI (by omega) (by omega)]
        refine ⟨fun c10 => ?_, fun c10 => ⟨by rw [k3]; rfl, fun y19 e19 => ⟨by rw [k6]; rfl, ?_⟩⟩⟩
        · rw [if_neg (by omega)] at ht
          exact big _ _ ht hGb.1 _
        · rw [if_pos ⟨by omega, c9, by omega⟩] at ht
          rw [k3, W.1, show (2 : Int32) = nI 2 from rfl, nI_add, show (256 : Int32) = nI 256 from rfl, pk_div (by omega) (by decide) (by decide), nI_add] at e19
          subst e19
          have er : nI (a % (256 * S)) - nI (a % (256 * S)) / (256 : Int32) * (256 : Int32) = nI (a % (256 * S) % 256) := by
            rw [show (256 : Int32) = nI 256 from rfl, pk_rem (by omega) (by decide) (by decide)]
          rw [er]
          refine ⟨_, by rw [k6]; exact S_push R _, fun h25 hp => ?_⟩
          obtain ⟨R25, F25⟩ := hp
          have e256 : a % (256 * S) % 256 = a % 256 := Nat.mod_mul_right_mod a 256 S
          have ep : pushL 2048 (ad, false) (un (nI (a % (256 * S) % 256))) = (ad ++ [a % 256], false) := by
            unfold pushL
            rw [if_pos (by show ad.length < 2048; omega), un_nI (by omega), e256]
          rw [ep] at R25
          exact keep h25 _ _ ht R25 F25 _
  refine K_X5_tellAddress nlt_wf (fun m x0 x1 x3 x4 x5 h' => x0 = 27 ∧ x1 = nI a ∧ h' = h ∧ ∃ k q, k ≤ N ∧ m = N - k ∧ x5 = nI k ∧ x3 = nI q.1 ∧ x4 = nI q.2 ∧ q.2 < 6049 ∧ nearGo nr a (N - k) k q = G) ?_ ?_
  · intro y1 e1 y3 e3
    rw [pk_sub (by omega)]
    refine ⟨_, bigL (here - a) (by omega), fun v9 h8 hp => ?_⟩
    obtain ⟨e4, e5⟩ := hp
    obtain rfl := e4.symm
    subst e5
    subst e3
    refine ⟨_, bigL a (by omega), fun v14 h13 hp => ?_⟩
    obtain ⟨e4, e5⟩ := hp
    obtain rfl := e4.symm
    subst e5
    have b1 := bigLen_b (here - a)
    have b2 := bigLen_b a
    rw [nI_leI (by omega) (by omega)]
    refine ⟨fun c7 y2 e2 => ⟨N, rfl, rfl, rfl, 0, (0, a), by omega, rfl, e2, e1, rfl, by show a < 6049; omega, ?_⟩, fun c7 y16 e16 y18 e18 y2 e2 => ⟨N, rfl, rfl, rfl, 0, (1, here - a), by omega, rfl, e2, e16, e18, by show here - a < 6049; omega, ?_⟩⟩
    · rw [← hG]; unfold self0; rw [if_neg (by omega)]; rfl
    · rw [← hG]; unfold self0; rw [if_pos (by omega)]; rfl
  · rintro m x0 x1 x3 x4 x5 h' ⟨rfl, rfl, rfl, k, q, hk, rfl, rfl, rfl, rfl, hq, eg⟩
    by_cases hkN : k = N
    · subst hkN
      rw [Nat.sub_self] at eg
      have eg : q = G := eg
      rw [eg]
      exact v114 _ rfl
    · rw [V_X5_tellAddress_31, k3, W.1, nI_leI (by omega) (by omega)]
      have hnk := bn k
      refine ⟨rfl, rfl, fun c => absurd c (by omega), fun _ => ⟨_, S_nearAt C W hN k (by omega), fun v10 h9 hp y11 e11 => ?_⟩⟩
      obtain ⟨e4, e5⟩ := hp
      obtain rfl := e4.symm
      subst e5
      rw [show N - k = (N - (k + 1)) + 1 by omega, nearGo] at eg
      have nx' : ∀ (q' : Nat × Nat), q' = (if nr k ≤ a ∧ bigLen (a - nr k) < bigLen q.2 then (2 + k, a - nr k) else q) → q'.2 < 6049 → V_X5_tellAddress_85 w SH 27 (nI a) (nI q'.1) (nI q'.2) (nI k) h' (fun x0 x1 x3 x4 x5 h_1 => ∃ a_1, a_1 < N - k ∧ x0 = 27 ∧ x1 = nI a ∧ h_1 = h' ∧ ∃ k q, k ≤ N ∧ a_1 = N - k ∧ x5 = nI k ∧ x3 = nI q.1 ∧ x4 = nI q.2 ∧ q.2 < 6049 ∧ nearGo nr a (N - k) k q = G) (fun v h1 => v = nI (tellP N S nr sm a here).1 ∧ AdV h1 N S (keepN N nr nx a) (keepS S sm a) (keepX N nx) (ad ++ (tellP N S nr sm a here).2) ∧ Fr [40, 41, 42, 47, 48] h' h1) := by
        intro q' eq' hq' y1 e1
        exact ⟨N - (k + 1), by omega, rfl, rfl, rfl, k + 1, q', by omega, rfl, by rw [e1, nI_1], rfl, rfl, hq', by rw [eq']; exact eg⟩
      by_cases hle : nr k ≤ a
      · rw [pk_sub hle] at e11
        subst e11
        refine ⟨fun c => absurd c (nI_pos (by omega)), fun _ => ⟨_, bigL (a - nr k) (by omega), fun v18 h17 hp => ?_⟩⟩
        obtain ⟨e4, e5⟩ := hp
        obtain rfl := e4.symm
        subst e5
        refine ⟨_, bigL q.2 (by omega), fun v23 h22 hp => ?_⟩
        obtain ⟨e4, e5⟩ := hp
        obtain rfl := e4.symm
        subst e5
        have b1 := bigLen_b (a - nr k)
        have b2 := bigLen_b q.2
        rw [nI_leI (by omega) (by omega)]
        refine ⟨fun c7 => nx' q (by rw [if_neg (by omega)]) hq, fun c7 y25 e25 y27 e27 => ?_⟩
        rw [show (2 : Int32) = nI 2 from rfl, nI_add] at e25
        subst e25; subst e27
        exact nx' (2 + k, a - nr k) (by rw [if_pos ⟨hle, by omega⟩]) (by show a - nr k < 6049; omega)
      · have hneg : y11 < 0 := by rw [e11]; exact neg_sub (by omega) (by omega) (by omega)
        exact ⟨fun _ => nx' q (by rw [if_neg (fun z => hle z.1)]) hq, fun c => absurd hneg c⟩
