/-! the reference makes its windows (my own) -/
def winHd (seg tgt : List Nat) (mark place : Nat) (sm : Bool) (d cs ad : List Nat) : List Nat := [mark + (if sm = true then 4 else 0)] ++ (if 0 < seg.length then bigB seg.length ++ bigB place else []) ++ bigB (bigLen tgt.length + 1 + bigLen d.length + bigLen cs.length + bigLen ad.length + (if sm = true then 4 else 0) + (d.length + cs.length + ad.length)) ++ bigB tgt.length ++ [0] ++ bigB d.length ++ bigB cs.length ++ bigB ad.length
def winB (seg tgt : List Nat) (mark place : Nat) (sm : Bool) (d cs ad : List Nat) : List Nat := winHd seg tgt mark place sm d cs ad ++ ((if sm = true then lowL (lN (adl tgt)) 4 else []) ++ (d ++ (cs ++ ad)))
def winCs (T : Tb) (seg tgt : List Nat) : Option (List Nat) := codesM T (movesP (stepsP (seg ++ tgt) tgt.length seg.length []) (modesP T.2.1 T.2.2 seg.length (stepsP (seg ++ tgt) tgt.length seg.length [])).md) (stepsP (seg ++ tgt) tgt.length seg.length []).length 0 []
theorem winM_none {T : Tb} {seg tgt : List Nat} {mark place : Nat} {sm : Bool} (h : winCs T seg tgt = none) : winM T seg tgt mark place sm = none := by
  unfold winM
  unfold winCs at h
  simp only [h]
theorem winM_some {T : Tb} {seg tgt : List Nat} {mark place : Nat} {sm : Bool} {cs : List Nat} (h : winCs T seg tgt = some cs) : winM T seg tgt mark place sm = some (winB seg tgt mark place sm (dataP (seg ++ tgt) seg.length (stepsP (seg ++ tgt) tgt.length seg.length [])).2 cs (modesP T.2.1 T.2.2 seg.length (stepsP (seg ++ tgt) tgt.length seg.length [])).ad) := by
  unfold winM
  unfold winCs at h
  simp only [h, winB, winHd, List.append_assoc]
theorem winHd_len {seg tgt : List Nat} {mark place : Nat} {sm : Bool} {d cs ad : List Nat} : (winHd seg tgt mark place sm d cs ad).length ≤ 37 := by
  unfold winHd
  have b1 := bigLen_b seg.length
  have b2 := bigLen_b place
  have b3 := bigLen_b (bigLen tgt.length + 1 + bigLen d.length + bigLen cs.length + bigLen ad.length + (if sm = true then 4 else 0) + (d.length + cs.length + ad.length))
  have b4 := bigLen_b tgt.length
  have b5 := bigLen_b d.length
  have b6 := bigLen_b cs.length
  have b7 := bigLen_b ad.length
  have b8 : (if 0 < seg.length then bigB seg.length ++ bigB place else []).length ≤ 10 := by
    split
    · rw [List.length_append, bigB_len, bigB_len]; omega
    · simp
  simp only [List.length_append, List.length_singleton, bigB_len]
  omega
theorem winB_len {seg tgt : List Nat} {mark place : Nat} {sm : Bool} {d cs ad : List Nat} (hd : d.length ≤ 2048) (hc : cs.length ≤ 3000) (ha : ad.length ≤ 2000) : (winB seg tgt mark place sm d cs ad).length ≤ 7200 := by
  unfold winB
  have := winHd_len (seg := seg) (tgt := tgt) (mark := mark) (place := place) (sm := sm) (d := d) (cs := cs) (ad := ad)
  have h4 : (if sm = true then lowL (lN (adl tgt)) 4 else []).length ≤ 4 := by
    split
    · rw [lowL_len]; omega
    · simp
  simp only [List.length_append]
  omega
/-- what a window's parts are, once its space is laid -/
def ptV (h : Hp) (d cs ad : List Nat) : Prop := DaV h d ∧ CoV h cs ∧ AaV h ad
theorem ptV.fm {h h1 : Hp} {d cs ad : List Nat} (X : ptV h d cs ad) (F : Fm [43] [115] [] h h1) : ptV h1 d cs ad := ⟨X.1.fm F (by simp) (by simp), X.2.1.fm F (by simp) (by simp), X.2.2.fm F (by simp) (by simp)⟩
theorem M_wn216 {w : Wd} {h : Hp} {seg tgt d cs ad acc : List Nat} {c1 c3 : Nat} {x2 x4 x5 x6 : Int32} {fr mark place : Nat} {sm : Bool} {s0 : Int32} {L3 : Nat → Nat → Int32 → Nat → Int32 → Int32 → Int32 → Int32 → Hp → Prop} {L97 L146 : Nat → Nat → Int32 → Nat → Int32 → Int32 → Int32 → Int32 → Int32 → Int32 → Int32 → Hp → Prop} {L397 : Nat → Nat → Int32 → Nat → Int32 → Int32 → Int32 → Int32 → Int32 → Int64 → Int32 → Hp → Prop} {L429 L458 L491 : Nat → Nat → Int32 → Nat → Int32 → Int32 → Int32 → Int32 → Int32 → Hp → Prop} {RET : Hp → Prop} (f : Fin h) (X : FlV h acc) (P : ptV h d cs ad) (S0 : SpV h (seg ++ tgt)) (h59 : h.1 97 59 = nI seg.length) (hs : s0 = if sm = true then 1 else 0) (ha : acc.length ≤ 39000) (hd : d.length ≤ 2048) (hc : cs.length ≤ 3000) (had : ad.length ≤ 2000) (hfr : fr ≤ 8192) (hm : mark = 0 ∧ seg = [] ∨ mark = 1 ∧ 0 < seg.length ∧ place = 0 ∨ mark = 2 ∧ 0 < seg.length ∧ 2048 ≤ fr ∧ place = fr - 2048)
    (hL : ∀ h', FlV h' (acc ++ winHd seg tgt mark place sm d cs ad) → Fm [43] [115] [] h h' → L397 97 c1 x2 c3 x4 x5 x6 (nI fr) s0 (lN (adl tgt)) 3 h') : V_X12_windows_216 w SH 97 c1 x2 c3 x4 x5 x6 (nI fr) (nI tgt.length) (nI mark) s0 h L3 L97 L146 L397 L429 L458 L491 RET := by
  have hsl := S0.2
  rw [List.length_append] at hsl
  have m4 : (if sm = true then 4 else 0) ≤ 4 := by split <;> omega
  -- from the sizes on
  have v270 : ∀ (h2 : Hp) (a : List Nat), FlV h2 a → Fm [43] [115] [] h h2 → a = acc ++ ([mark + (if sm = true then 4 else 0)] ++ (if 0 < seg.length then bigB seg.length ++ bigB place else [])) → a.length ≤ acc.length + 11 → V_X12_windows_270 w SH 97 c1 x2 c3 x4 x5 x6 (nI fr) (nI tgt.length) s0 h2 L3 L97 L146 L397 L429 L458 L491 RET := by
    intro h2 a A F ea hal
    have f2 := F.fin f
    have P2 := P.fm F
    obtain ⟨D2, C2, A2⟩ := id P2
    have b4 := bigLen_b tgt.length
    have b5 := bigLen_b d.length
    have b6 := bigLen_b cs.length
    have b7 := bigLen_b ad.length
    refine ⟨rfl, fun y2 e2 => ?_⟩
    rw [D2.1, C2.1, A2.1, nI_add, nI_add] at e2
    subst e2
    refine ⟨_, by rw [nI_l (by omega)]; exact M_bigSize tgt.length (by omega), fun v8 h7 hp => ?_⟩
    obtain ⟨e1, e3⟩ := hp
    obtain rfl := e1.symm
    subst e3
    refine ⟨_, by rw [D2.1, nI_l (by omega)]; exact M_bigSize d.length (by omega), fun v13 h12 hp => ?_⟩
    obtain ⟨e1, e3⟩ := hp
    obtain rfl := e1.symm
    subst e3
    refine ⟨_, by rw [C2.1, nI_l (by omega)]; exact M_bigSize cs.length (by omega), fun v18 h17 hp => ?_⟩
    obtain ⟨e1, e3⟩ := hp
    obtain rfl := e1.symm
    subst e3
    refine ⟨_, by rw [A2.1, nI_l (by omega)]; exact M_bigSize ad.length (by omega), fun v23 h22 hp => ?_⟩
    obtain ⟨e1, e3⟩ := hp
    obtain rfl := e1.symm
    subst e3
    have v332 : ∀ z : Int32, z = nI (if sm = true then 4 else 0) → V_X12_windows_332 w SH 97 c1 x2 c3 x4 x5 x6 (nI fr) (nI tgt.length) s0 (nI (d.length + cs.length + ad.length)) z ((((nI (bigLen tgt.length) + (1 : Int32)) + nI (bigLen d.length)) + nI (bigLen cs.length)) + nI (bigLen ad.length)) 97 h2 L3 L97 L146 L397 L429 L458 L491 RET := by
      intro z ez
      subst ez
      rw [V_X12_windows_332, nI_1, nI_add, nI_add, nI_add, nI_add, nI_add]
      refine ⟨rfl, _, M_sayBig f2 A _ (by omega) (by omega), fun h5 hp => ?_⟩
      obtain ⟨A5, F5⟩ := hp
      have b8 := bigLen_b (bigLen tgt.length + 1 + bigLen d.length + bigLen cs.length + bigLen ad.length + (if sm = true then 4 else 0) + (d.length + cs.length + ad.length))
      generalize htt : bigLen tgt.length + 1 + bigLen d.length + bigLen cs.length + bigLen ad.length + (if sm = true then 4 else 0) + (d.length + cs.length + ad.length) = tt at A5 b8
      have l5 : (a ++ bigB tt).length ≤ acc.length + 16 := by rw [List.length_append, bigB_len]; omega
      refine ⟨rfl, _, M_sayBig (F5.fin f2) A5 tgt.length (by omega) (by omega), fun h10 hp => ?_⟩
      obtain ⟨A10, F10⟩ := hp
      have F10 := F5.tr F10
      have l10 : (a ++ bigB tt ++ bigB tgt.length).length ≤ acc.length + 21 := by rw [List.length_append, bigB_len]; omega
      refine ⟨_, M_say (F10.fin f2) A10 (by omega) 0, fun h14 hp => ?_⟩
      obtain ⟨A14, F14⟩ := hp
      have F14 := F10.tr F14
      rw [show un (0 : Int32) = 0 from by decide] at A14
      have l14 : (a ++ bigB tt ++ bigB tgt.length ++ [0]).length ≤ acc.length + 22 := by rw [List.length_append, List.length_singleton]; omega
      have P14 := P2.fm F14
      refine ⟨_, by rw [P14.1.1]; exact M_sayBig (F14.fin f2) A14 d.length (by omega) (by omega), fun h18 hp => ?_⟩
      obtain ⟨A18, F18⟩ := hp
      have F18 := F14.tr F18
      have l18 : (a ++ bigB tt ++ bigB tgt.length ++ [0] ++ bigB d.length).length ≤ acc.length + 27 := by rw [List.length_append, bigB_len]; omega
      have P18 := P2.fm F18
      refine ⟨_, by rw [P18.2.1.1]; exact M_sayBig (F18.fin f2) A18 cs.length (by omega) (by omega), fun h22 hp => ?_⟩
      obtain ⟨A22, F22⟩ := hp
      have F22 := F18.tr F22
      have l22 : (a ++ bigB tt ++ bigB tgt.length ++ [0] ++ bigB d.length ++ bigB cs.length).length ≤ acc.length + 32 := by rw [List.length_append, bigB_len]; omega
      have P22 := P2.fm F22
      refine ⟨_, by rw [P22.2.2.1]; exact M_sayBig (F22.fin f2) A22 ad.length (by omega) (by omega), fun h26 hp => ?_⟩
      obtain ⟨A26, F26⟩ := hp
      have F26 := F.tr (F22.tr F26)
      have f26 := F26.fin f
      have S26 := S0.fm F26 (by simp)
      have k58 := fx f26 97 58 125 (by decide +kernel)
      have e59 : h26.1 97 59 = nI seg.length := by rw [F26.2.2.2 59 (by simp)]; exact h59
      refine ⟨_, by rw [k58, e59]; exact M_adler (N := 16000) rfl ⟨by rw [List.length_append]; omega, by decide⟩ S26.1 seg.length tgt.length (by rw [List.length_append]; omega), fun v31 h30 hp y32 e32 y34 e34 => ?_⟩
      obtain ⟨e1, e3⟩ := hp
      obtain rfl := e1.symm
      rw [e3, List.drop_left, List.take_length] at e32
      rw [e32, e34]
      refine hL h26 ?_ F26
      have eH : acc ++ winHd seg tgt mark place sm d cs ad = a ++ bigB tt ++ bigB tgt.length ++ [0] ++ bigB d.length ++ bigB cs.length ++ bigB ad.length := by
        rw [ea]; unfold winHd
        rw [htt]
        simp only [List.append_assoc]
      rw [eH]; exact A26
    refine ⟨fun c => v332 0 ?_, fun c => v332 4 ?_⟩
    · cases sm with
      | false => rfl
      | true => rw [hs] at c; exact absurd c (by decide)
    · cases sm with
      | true => rfl
      | false => rw [hs] at c; exact absurd rfl c
  have v231 : ∀ z : Int32, z = nI (if sm = true then 4 else 0) → V_X12_windows_231 w SH 97 c1 x2 c3 x4 x5 x6 (nI fr) (nI tgt.length) (nI mark) s0 z (nI mark) 97 h L3 L97 L146 L397 L429 L458 L491 RET := by
    intro z ez
    subst ez
    rw [V_X12_windows_231, nI_add]
    refine ⟨rfl, _, M_say f X (by omega) _, fun h5 hp => ?_⟩
    obtain ⟨A5, F5⟩ := hp
    rw [un_nI (by omega)] at A5
    rw [show (0 : Int32) = nI 0 from rfl, nI_leI (by omega) (by decide)]
    refine ⟨fun c => v270 h5 _ A5 F5 ?_ ?_, fun c => ?_⟩
    · have hz : ¬ 0 < seg.length := by
        rcases hm with ⟨_, q⟩ | q | q
        · rw [q]; simp
        · omega
        · omega
      rw [if_neg hz, List.append_nil]
    · simp
    · have hz : 0 < seg.length := by rcases hm with q | q | q <;> omega
      have e59 : h5.1 97 59 = nI seg.length := by rw [F5.2.2.2 59 (by simp)]; exact h59
      refine ⟨rfl, _, by rw [e59]; exact M_sayBig (F5.fin f) A5 seg.length (by omega) (by simp; omega), fun h11 hp => ?_⟩
      obtain ⟨A11, F11⟩ := hp
      have F11 := F5.tr F11
      have b1 := bigLen_b seg.length
      have b2 := bigLen_b place
      have v267 : ∀ s : Int64, s = (nI place).toInt64 → V_X12_windows_267 w SH 97 c1 x2 c3 x4 x5 x6 (nI fr) (nI tgt.length) s0 s 97 h11 L3 L97 L146 L397 L429 L458 L491 RET := by
        intro s es
        subst es
        refine ⟨rfl, _, M_sayBig (F11.fin f) A11 place (by omega) (by simp only [List.length_append, List.length_singleton, bigB_len]; omega), fun h5 hp => ?_⟩
        refine v270 h5 _ hp.1 (F11.tr hp.2) ?_ (by simp only [List.length_append, List.length_singleton, bigB_len]; omega)
        rw [if_pos hz]
        simp only [List.append_assoc]
      rw [show (1 : Int32) = nI 1 from rfl, nI_eq (by omega) (by decide)]
      refine ⟨fun c2 => v267 _ ?_, fun c2 => v267 _ ?_⟩
      · have : 2048 ≤ fr ∧ place = fr - 2048 := by rcases hm with q | q | q <;> omega
        rw [show (2048 : Int32) = nI 2048 from rfl, pk_sub this.1, this.2]
      · have : place = 0 := by rcases hm with q | q | q <;> omega
        rw [this]; decide
  intro y1 e1
  subst e1
  refine ⟨fun c => v231 0 ?_, fun c => v231 4 ?_⟩
  · cases sm with
    | false => rfl
    | true => rw [hs] at c; exact absurd c (by decide)
  · cases sm with
    | true => rfl
    | false => rw [hs] at c; exact absurd rfl c
