/-! the class: windows made (my own) -/
def MkR (h : Hp) : Prop := Fin h ∧ (∃ b l, RowV SH h 29 30 6048 b l) ∧ (∃ b l, RowV SH h 43 44 2048 b l) ∧ (∃ b l, RowV SH h 45 46 3072 b l) ∧ (∃ b l, RowV SH h 47 48 2048 b l)
def MWs (r6 a6 : Nat) : List Nat := [28, 29, 30, 31, 32, 33, 34, 35, 36, 38, 39, 40, 41, 42, 43, 44, 45, 46, 47, 48, r6, a6]
theorem MkR.fr {h h1 : Hp} {S : List Nat} (X : MkR h) (F : Fr S h h1) (hs : ∀ c, c ∈ S → c < 27) : MkR h1 := by
  have n : ∀ c, 27 ≤ c → c ∉ S := fun c hc q => by have := hs c q; omega
  obtain ⟨f, ⟨b1, l1, r1⟩, ⟨b2, l2, r2⟩, ⟨b3, l3, r3⟩, ⟨b4, l4, r4⟩⟩ := X
  exact ⟨f.fr F, ⟨b1, l1, r1.fr F (n _ (by decide)) (n _ (by decide))⟩, ⟨b2, l2, r2.fr F (n _ (by decide)) (n _ (by decide))⟩, ⟨b3, l3, r3.fr F (n _ (by decide)) (n _ (by decide))⟩, ⟨b4, l4, r4.fr F (n _ (by decide)) (n _ (by decide))⟩⟩
def wnS (r6 a6 N6 : Nat) (acc : List Nat) (o : Option (List Nat)) (v : Int32) (h1 : Hp) : Prop := match o with
  | none => v = 0 ∧ ∃ b l, RowV SH h1 r6 a6 N6 b l
  | some b => v = 1 ∧ RowL h1 r6 a6 N6 (acc ++ b)
def wnR (h : Hp) (T : Tb) (r6 a6 N6 : Nat) (acc : List Nat) (o : Option (List Nat)) (v : Int32) (h1 : Hp) : Prop := wnS r6 a6 N6 acc o v h1 ∧ MkR h1 ∧ IxV h1 T ∧ h1.1 40 2 = nI T.2.1 ∧ h1.1 40 3 = nI (256 * T.2.2) ∧ Fr (MWs r6 a6) h h1
theorem winM_nil (T : Tb) (tgt : List Nat) (m p p' : Nat) (sm : Bool) : winM T [] tgt m p sm = winM T [] tgt m p' sm := rfl
theorem S_win55 {w : Wd} {h : Hp} {T : Tb} {t tr ta r1 a1 N1 r3 a3 N3 r6 a6 N6 : Nat} {src b3 acc : List Nat} (K : MkR h) (I : IxV h T) (V : TabV h t tr ta T) (c2 : h.1 40 2 = nI T.2.1) (c3 : h.1 40 3 = nI (256 * T.2.2)) (Rs : RowV SH h r1 a1 N1 src false) (R3 : RowV SH h r3 a3 N3 b3 false) (Q : RowL h r6 a6 N6 acc) (o1 : r1 < 27 ∧ a1 < 27 ∧ r3 < 27 ∧ a3 < 27 ∧ t < 27 ∧ tr < 27 ∧ ta < 27) (o6 : r6 < 27 ∧ a6 < 27 ∧ shAt SH r6 = some (.inr 8)) (n6 : r1 ≠ r6 ∧ r1 ≠ a6 ∧ a1 ≠ r6 ∧ a1 ≠ a6) (fr n place size : Nat) (h1 : fr + n ≤ src.length) (h3 : place + size ≤ b3.length) (hn : n ≤ 2048) (hs : size ≤ 4000) (hN3 : b3.length ≤ 8000) (hN1 : src.length ≤ 8000) (mark : Nat) (sm : Bool) (hm : mark < 4) : V_X5_makeWindow_55 w SH 27 r1 (nI fr) r3 (nI (mark + if sm = true then 4 else 0)) t r6 (nI n) (nI place) (nI size) h (wnR h T r6 a6 N6 acc (winM T ((b3.drop place).take size) ((src.drop fr).take n) mark place sm)) := by
  obtain ⟨f, ⟨j1, l1, R29⟩, ⟨j2, l2, R43⟩, ⟨j3, l3, R45⟩, ⟨j4, l4, R47⟩⟩ := id K
  have es : ((b3.drop place).take size).length = size := by simp; omega
  have en : ((src.drop fr).take n).length = n := by simp; omega
  have k0 := fx f 27 0 28 (by decide +kernel)
  have T1 := V.2.2.2.2.2.2.1
  have T2 := V.2.2.2.2.2.2.2
  refine ⟨rfl, by rw [k0]; rfl, _, by rw [k0]; exact S_layF f R29 R3 Rs (by omega) (by omega) place size fr n h3 h1 (by omega), fun h6 hp => ?_⟩
  obtain ⟨X6, F6⟩ := hp
  have f6 := X6.1
  generalize hseg : (b3.drop place).take size = seg at *
  generalize htgt : (src.drop fr).take n = tgt at *
  have hspl : (seg ++ tgt).length = size + n := by simp; omega
  refine ⟨_, S_findMoves (N := T.2.1) (S := T.2.2) (beg := size) X6 (R43.fr F6 (by decide) (by decide)) (R47.fr F6 (by decide) (by decide)) (by rw [F6.2.2 40 (by decide)]; exact c2) (by rw [F6.2.2 40 (by decide)]; exact c3) T1 T2 (by omega) (by omega), fun h10 hp => ?_⟩
  obtain ⟨Y, F10⟩ := hp
  generalize hL : stepsP (seg ++ tgt) ((seg ++ tgt).length - size) size [] = L at Y
  obtain ⟨⟨ent, he, Yf⟩, Ym, Yd, Ya, Yi, yb, yb2⟩ := id Y
  have f10 := Yf.1
  have hsS : sS L ≤ 2048 := by omega
  have hLl := Yi.len hsS
  have hmo := modesP_ok (N := T.2.1) (S := T.2.2) (beg := size) Yi.adr (by omega)
  have hml := modesP_len T.2.1 T.2.2 size L
  have hsz : ∀ i, i < L.length → (L.getD i (0, 0, 0)).2.1 < 16384 := fun i hi => by
    have h2 : (L.getD i (0, 0, 0)).2.1 ≤ sS L := mem_sum (by rw [List.getD_eq_getElem?_getD, List.getElem?_eq_getElem hi]; exact List.getElem_mem hi)
    omega
  have hsml : Sml L (modesP T.2.1 T.2.2 size L).md := fun i hi => by
    have h1 := (Yi.get hi).1
    have h2 := hsz i hi
    have h3 : (modesP T.2.1 T.2.2 size L).md.getD i 0 < 2 + T.2.1 + T.2.2 := by
      rw [List.getD_eq_getElem?_getD, List.getElem?_eq_getElem (by omega)]
      exact hmo.2 _ (List.getElem_mem _)
    omega
  have FF : Fr FS5 h h10 := (F6.mono (by decide)).tr1 F10
  have off : ∀ c, c < 27 → c ∉ FS5 := fun c hc q => by simp [FS5] at q; omega
  have V10 : TabV h10 t tr ta T := V.ag ⟨FF.2.2 _ (off _ (by omega)), by rw [FF.1]⟩ ⟨FF.2.2 _ (off _ (by omega)), by rw [FF.1]⟩ (FF.2.2 _ (off _ (by omega)))
  have I10 := I.fr FF (by decide) (by decide)
  have Q10 := Q.fr FF (off _ o6.1) (off _ o6.2.1)
  have Rs10 := Rs.fr FF (off _ (by omega)) (off _ (by omega))
  have hw : winM T seg tgt mark place sm = (match codesM T (movesP L (modesP T.2.1 T.2.2 size L).md) L.length 0 [] with
      | none => none
      | some cs => some ([mark + (if sm = true then 4 else 0)] ++ (if 0 < size then bigB size ++ bigB place else []) ++ bigB (bigLen n + 1 + bigLen (dataP (seg ++ tgt) size L).2.length + bigLen cs.length + bigLen (modesP T.2.1 T.2.2 size L).ad.length + (if sm = true then 4 else 0) + ((dataP (seg ++ tgt) size L).2.length + cs.length + (modesP T.2.1 T.2.2 size L).ad.length)) ++ bigB n ++ [0] ++ bigB (dataP (seg ++ tgt) size L).2.length ++ bigB cs.length ++ bigB (modesP T.2.1 T.2.2 size L).ad.length ++ (if sm = true then lowL (lN (adl tgt)) 4 else []) ++ (dataP (seg ++ tgt) size L).2 ++ cs ++ (modesP T.2.1 T.2.2 size L).ad)) := by
    rw [show (seg ++ tgt).length - size = n by omega] at hL
    unfold winM
    simp only [es, en, hL]
    rfl
  rw [hw]
  refine ⟨_, S_tellCodes I10 Ym V10 hsml hsz (by omega) (R45.fr FF (by decide) (by decide)) (by omega), fun v15 h14 hp => ?_⟩
  obtain ⟨cd, F14⟩ := hp
  have f14 := f10.fr F14
  have FG : Fr (MWs r6 a6) h h14 := (FF.mono (by intro c hc; simp [FS5] at hc; simp [MWs]; omega)).tr1 (F14.mono (by simp [MWs]))
  have I14 := I10.fr F14 (by decide) (by decide)
  have Q14 := Q10.fr F14 (by simp; omega) (by simp; omega)
  have Rs14 := Rs10.fr F14 (by simp; omega) (by simp; omega)
  have Yd14 := Yd.fr F14 (by decide) (by decide)
  have Ya14 := Ya.fr F14 (by decide) (by decide) (by decide) (by decide) (by decide)
  have Yf14 := Yf.fr F14 (by decide) (by decide) (by decide) (by decide) (by decide)
  cases hC : codesM T (movesP L (modesP T.2.1 T.2.2 size L).md) L.length 0 [] with
  | none =>
    rw [hC] at cd
    obtain ⟨rfl, cd⟩ := cd
    obtain ⟨qq, Vq, -⟩ := Q14
    refine ⟨fun c => absurd rfl c, fun _ => ⟨⟨rfl, _, _, Vq⟩, ⟨f14, ⟨_, _, Yf14.2.1⟩, ⟨_, _, Yd14⟩, cd, ⟨_, _, Ya14.2.2.2.2.2.1⟩⟩, I14, Ya14.2.1.1, Ya14.2.1.2.1, FG⟩⟩
  | some cs =>
  rw [hC] at cd
  obtain ⟨rfl, Rc⟩ := cd
  refine ⟨fun _ => ⟨o6.2.2, ?_⟩, fun c => absurd c (by decide)⟩
  obtain ⟨P1, c1, q1⟩ := R_push (w := w) Q14 (nI (mark + if sm = true then 4 else 0))
  refine ⟨P1, c1, fun h21 hp => ?_⟩
  obtain ⟨Q21, F21⟩ := q1 _ hp
  have hm8 : mark + (if sm = true then 4 else 0) < 8 := by split <;> omega
  rw [un_nI (by omega)] at Q21
  have nn : ∀ c, 27 ≤ c → c ∉ [r6, a6] := fun c hc q => by simp at q; omega
  have rest : ∀ (h9 : Hp) (acc' : List Nat), RowL h9 r6 a6 N6 acc' → Fr [r6, a6] h14 h9 → (∀ b, acc' ++ b = acc ++ ([mark + (if sm = true then 4 else 0)] ++ (if 0 < size then bigB size ++ bigB place else []) ++ b)) → V_X5_makeWindow_116 w SH 27 r1 (nI fr) (nI (mark + if sm = true then 4 else 0)) r6 (nI n) h9 (wnR h T r6 a6 N6 acc (some ([mark + (if sm = true then 4 else 0)] ++ (if 0 < size then bigB size ++ bigB place else []) ++ bigB (bigLen n + 1 + bigLen (dataP (seg ++ tgt) size L).2.length + bigLen cs.length + bigLen (modesP T.2.1 T.2.2 size L).ad.length + (if sm = true then 4 else 0) + ((dataP (seg ++ tgt) size L).2.length + cs.length + (modesP T.2.1 T.2.2 size L).ad.length)) ++ bigB n ++ [0] ++ bigB (dataP (seg ++ tgt) size L).2.length ++ bigB cs.length ++ bigB (modesP T.2.1 T.2.2 size L).ad.length ++ (if sm = true then lowL (lN (adl tgt)) 4 else []) ++ (dataP (seg ++ tgt) size L).2 ++ cs ++ (modesP T.2.1 T.2.2 size L).ad))) := by
    intro h9 acc' Q9 F9 ea
    have f9 := f14.fr F9
    have Yd9 := Yd14.fr F9 (nn _ (by decide)) (nn _ (by decide))
    have Rc9 := Rc.fr F9 (nn _ (by decide)) (nn _ (by decide))
    have Ya9 := Ya14.fr F9 (nn _ (by decide)) (nn _ (by decide)) (nn _ (by decide)) (nn _ (by decide)) (nn _ (by decide))
    have Yf9 := Yf14.fr F9 (nn _ (by decide)) (nn _ (by decide)) (nn _ (by decide)) (nn _ (by decide)) (nn _ (by decide))
    have I9 := I14.fr F9 (nn _ (by decide)) (nn _ (by decide))
    have Rs9 := Rs14.fr F9 (by simp; omega) (by simp; omega)
    have Ra9 := Ya9.2.2.2.2.2.1
    generalize (dataP (seg ++ tgt) size L).2 = d at *
    generalize hms : (modesP T.2.1 T.2.2 size L).ad = ad at *
    have tl : ∀ (h5 : Hp) (accT : List Nat), RowL h5 r6 a6 N6 accT → Fr [r6, a6] h9 h5 → accT ++ d ++ cs ++ ad = acc ++ ([mark + (if sm = true then 4 else 0)] ++ (if 0 < size then bigB size ++ bigB place else []) ++ bigB (bigLen n + 1 + bigLen d.length + bigLen cs.length + bigLen ad.length + (if sm = true then 4 else 0) + (d.length + cs.length + ad.length)) ++ bigB n ++ [0] ++ bigB d.length ++ bigB cs.length ++ bigB ad.length ++ (if sm = true then lowL (lN (adl tgt)) 4 else []) ++ d ++ cs ++ ad) → V_X5_makeWindow_168 w SH 27 r6 h5 (wnR h T r6 a6 N6 acc (some ([mark + (if sm = true then 4 else 0)] ++ (if 0 < size then bigB size ++ bigB place else []) ++ bigB (bigLen n + 1 + bigLen d.length + bigLen cs.length + bigLen ad.length + (if sm = true then 4 else 0) + (d.length + cs.length + ad.length)) ++ bigB n ++ [0] ++ bigB d.length ++ bigB cs.length ++ bigB ad.length ++ (if sm = true then lowL (lN (adl tgt)) 4 else []) ++ d ++ cs ++ ad))) := by
      intro h5 accT Q5 F5 eT
      have f5 := f9.fr F5
      have Yd5 := Yd9.fr F5 (nn _ (by decide)) (nn _ (by decide))
      have Rc5 := Rc9.fr F5 (nn _ (by decide)) (nn _ (by decide))
      have Ra5 := Ra9.fr F5 (nn _ (by decide)) (nn _ (by decide))
      have k4 := fx f5 27 4 43 (by decide +kernel)
      refine ⟨rfl, by rw [k4]; rfl, _, by rw [k4]; exact S_length Yd5, fun v7 h6 hp => ?_⟩
      obtain ⟨e1, e2⟩ := hp
      obtain rfl := e1.symm
      subst e2
      obtain ⟨P1, c1, q1⟩ := R_app (w := w) Q5 Yd5
      refine ⟨o6.2.2, P1, by rw [k4]; exact c1, fun h12 hp => ?_⟩
      obtain ⟨Q12, F12⟩ := q1 _ hp
      have f12 := f5.fr F12
      have Rc12 := Rc5.fr F12 (nn _ (by decide)) (nn _ (by decide))
      have k5 := fx f12 27 5 45 (by decide +kernel)
      refine ⟨by rw [k5]; rfl, _, by rw [k5]; exact S_length Rc12, fun v18 h17 hp => ?_⟩
      obtain ⟨e1, e2⟩ := hp
      obtain rfl := e1.symm
      subst e2
      obtain ⟨P2, c2, q2⟩ := R_app (w := w) Q12 Rc12
      refine ⟨P2, by rw [k5]; exact c2, fun h22 hp => ?_⟩
      obtain ⟨Q22, F22⟩ := q2 _ hp
      have f22 := f12.fr F22
      have Ra22 := (Ra5.fr F12 (nn _ (by decide)) (nn _ (by decide))).fr F22 (nn _ (by decide)) (nn _ (by decide))
      have k6 := fx f22 27 6 47 (by decide +kernel)
      refine ⟨by rw [k6]; rfl, _, by rw [k6]; exact S_length Ra22, fun v28 h27 hp => ?_⟩
      obtain ⟨e1, e2⟩ := hp
      obtain rfl := e1.symm
      subst e2
      obtain ⟨P3, c3, q3⟩ := R_app (w := w) Q22 Ra22
      refine ⟨P3, by rw [k6]; exact c3, fun h32 hp => ?_⟩
      obtain ⟨Q32, F32⟩ := q3 _ hp
      rw [eT] at Q32
      have FT : Fr [r6, a6] h9 h32 := ((F5.tr1 F12).tr1 F22).tr1 F32
      have W := Ya9.2.1.fr FT (nn _ (by decide)) (nn _ (by decide)) (nn _ (by decide))
      exact ⟨⟨rfl, Q32⟩, ⟨f22.fr F32, ⟨_, _, Yf9.2.1.fr FT (nn _ (by decide)) (nn _ (by decide))⟩, ⟨_, _, Yd9.fr FT (nn _ (by decide)) (nn _ (by decide))⟩, ⟨_, _, Rc9.fr FT (nn _ (by decide)) (nn _ (by decide))⟩, ⟨_, _, Ra9.fr FT (nn _ (by decide)) (nn _ (by decide))⟩⟩, I9.fr FT (nn _ (by decide)) (nn _ (by decide)), W.1, W.2.1, (FG.tr1 (F9.mono (by simp [MWs]))).tr1 (FT.mono (by simp [MWs]))⟩
    have h4i : nI (mark + if sm = true then 4 else 0) &&& (4 : Int32) = nI (sumN (mark + if sm = true then 4 else 0)) := and4 _ hm8
    have v128 : ∀ y1 : Int32, y1 = (if sm = true then 1 else 0) → V_X5_makeWindow_128 w SH 27 r1 (nI fr) r6 (nI n) y1 h9 (wnR h T r6 a6 N6 acc (some ([mark + (if sm = true then 4 else 0)] ++ (if 0 < size then bigB size ++ bigB place else []) ++ bigB (bigLen n + 1 + bigLen d.length + bigLen cs.length + bigLen ad.length + (if sm = true then 4 else 0) + (d.length + cs.length + ad.length)) ++ bigB n ++ [0] ++ bigB d.length ++ bigB cs.length ++ bigB ad.length ++ (if sm = true then lowL (lN (adl tgt)) 4 else []) ++ d ++ cs ++ ad))) := by
      intro s0 es0 y1 e1
      subst e1
      cases sm with
      | false =>
        have es0 : y1 = 0 := es0
        subst es0
        refine ⟨fun _ => ⟨rfl, _, S_tellSizes f9 Yd9 Rc9 Ra9 Q9 o6 n 0 hn (by decide), fun h5 hp => ?_⟩, fun c => absurd rfl c⟩
        refine ⟨fun _ => tl h5 _ hp.1 hp.2 ?_, fun c => absurd rfl c⟩
        have := ea (bigB (bigLen n + 1 + bigLen d.length + bigLen cs.length + bigLen ad.length + 0 + (d.length + cs.length + ad.length)) ++ bigB n ++ [0] ++ bigB d.length ++ bigB cs.length ++ bigB ad.length ++ [] ++ d ++ cs ++ ad)
        simp only [List.append_assoc, List.nil_append] at this ⊢
        exact this
      | true =>
        have es0 : y1 = 1 := es0
        subst es0
        refine ⟨fun c => absurd c (by decide), fun _ => ⟨rfl, _, S_tellSizes f9 Yd9 Rc9 Ra9 Q9 o6 n 4 hn (by decide), fun h5 hp => ?_⟩⟩
        obtain ⟨Q5, F5⟩ := hp
        have Rs5 := Rs9.fr F5 (by simp; omega) (by simp; omega)
        refine ⟨fun c => absurd c (by decide), fun _ => ⟨Rs5.1, _, by rw [nI_add]; exact S_sum Rs5 fr (fr + n) (by omega) h1, fun v12 h11 hp => ?_⟩⟩
        obtain ⟨e1, e2⟩ := hp
        obtain rfl := e1.symm
        rw [show fr + n - fr = n by omega, htgt] at e2
        subst e2
        obtain ⟨P1, c1, q1⟩ := R_low (w := w) Q5 (lN (adl tgt)) 4 (by decide)
        refine ⟨o6.2.2, P1, c1, fun h17 hp => ?_⟩
        obtain ⟨Q17, F17⟩ := q1 _ hp
        refine tl h17 _ Q17 (F5.tr1 F17) ?_
        have := ea (bigB (bigLen n + 1 + bigLen d.length + bigLen cs.length + bigLen ad.length + 4 + (d.length + cs.length + ad.length)) ++ bigB n ++ [0] ++ bigB d.length ++ bigB cs.length ++ bigB ad.length ++ lowL (lN (adl tgt)) 4 ++ d ++ cs ++ ad)
        simp only [List.append_assoc] at this ⊢
        exact this
    rw [V_X5_makeWindow_116, h4i]
    refine ⟨fun c => v128 0 ?_, fun c => v128 1 ?_⟩
    · cases sm with
      | false => rfl
      | true =>
        rw [if_pos rfl] at c
        rw [show sumN (mark + 4) = 4 from if_pos (by omega)] at c
        exact absurd c (by decide)
    · cases sm with
      | true => rfl
      | false =>
        rw [show sumN (mark + if false = true then 4 else 0) = 0 from if_neg (by simp; omega)] at c
        exact absurd rfl c
  rw [show (0 : Int32) = nI 0 from rfl, nI_leI (by omega) (by omega)]
  refine ⟨fun c9 => rest h21 _ Q21 F21 fun b => ?_, fun c9 => ?_⟩
  · rw [if_neg (show ¬ 0 < size by omega)]
    simp only [List.append_assoc, List.nil_append, List.append_nil]
  · obtain ⟨P2, c2, q2⟩ := R_big (w := w) Q21 size (by omega)
    refine ⟨P2, c2, fun h26 hp => ?_⟩
    obtain ⟨Q26, F26⟩ := q2 _ hp
    obtain ⟨P3, c3, q3⟩ := R_big (w := w) Q26 place (by omega)
    refine ⟨P3, c3, fun h30 hp => ?_⟩
    obtain ⟨Q30, F30⟩ := q3 _ hp
    refine rest h30 _ Q30 ((F21.tr1 F26).tr1 F30) fun b => ?_
    rw [if_pos (show 0 < size by omega)]
    simp only [List.append_assoc]
