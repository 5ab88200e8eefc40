/-! the class: all windows made (my own) -/
theorem take2048 (l : List Nat) (n : Nat) (h : n = 2048 ∧ 2048 ≤ l.length ∨ n = l.length ∧ l.length ≤ 2048) : l.take 2048 = l.take n := by
  rcases h with ⟨rfl, _⟩ | ⟨rfl, q⟩
  · rfl
  · rw [List.take_of_length_le q, List.take_length]
theorem S_makeWindow {w : Wd} {h : Hp} {T : Tb} {t tr ta r1 a1 N1 r3 a3 N3 r6 a6 N6 : Nat} {src b3 acc : List Nat} (K : MkR h) (I : IxV h T) (V : TabV h t tr ta T) (c2 : h.1 40 2 = nI T.2.1) (c3 : h.1 40 3 = nI (256 * T.2.2)) (Rs : RowV SH h r1 a1 N1 src false) (R3 : RowV SH h r3 a3 N3 b3 false) (Q : RowL h r6 a6 N6 acc) (o1 : r1 < 27 ∧ a1 < 27 ∧ r3 < 27 ∧ a3 < 27 ∧ t < 27 ∧ tr < 27 ∧ ta < 27) (o6 : r6 < 27 ∧ a6 < 27 ∧ shAt SH r6 = some (.inr 8)) (n6 : r1 ≠ r6 ∧ r1 ≠ a6 ∧ a1 ≠ r6 ∧ a1 ≠ a6) (fr : Nat) (h1 : fr < src.length) (hN3 : b3.length ≤ 8000) (hN1 : src.length ≤ 8000) (mark : Nat) (sm : Bool) (hm : mark = 0 ∨ (mark = 1 ∧ b3.length ≤ 4000) ∨ (mark = 2 ∧ 2048 ≤ fr ∧ b3 = src)) : C_X5_makeWindow w SH 27 r1 (nI fr) r3 (nI (mark + if sm = true then 4 else 0)) t r6 h (wnR h T r6 a6 N6 acc (winM T (if mark = 1 then b3 else if mark = 2 then (src.drop (fr - 2048)).take 2048 else []) ((src.drop fr).take 2048) mark (if mark = 1 then 0 else fr - 2048) sm)) := by
  have hm8 : mark + (if sm = true then 4 else 0) < 8 := by split <;> omega
  refine K_X5_makeWindow ⟨Rs.1, _, S_length Rs, fun v6 h5 hp y7 e7 y9 e9 y11 e11 => ?_⟩
  obtain ⟨e1, e2⟩ := hp
  obtain rfl := e1.symm
  subst e2
  obtain ⟨n, en, hn⟩ : ∃ n, y7 = nI n ∧ (n = 2048 ∧ 2048 ≤ src.length - fr ∨ n = src.length - fr ∧ src.length - fr ≤ 2048) := by
    rw [pk_sub (by omega), show (2048 : Int32) = nI 2048 from rfl] at e7
    have ql := nI_ltI (a := src.length - fr) (b := 2048) (by omega) (by omega)
    by_cases q : src.length - fr < 2048
    · rw [if_pos (ql.mpr q)] at e7; exact ⟨_, e7, by omega⟩
    · rw [if_neg (fun z => q (ql.mp z))] at e7; exact ⟨2048, e7, by omega⟩
  subst en
  have et : (src.drop fr).take 2048 = (src.drop fr).take n := take2048 _ n (by rw [List.length_drop]; exact hn)
  rw [et, and1 _ hm8, nIz (by omega), and2 _ hm8]
  have em1 : (mark + if sm = true then 4 else 0) % 2 = 0 ↔ mark ≠ 1 := by split <;> omega
  have em2 : ¬ ((mark + if sm = true then 4 else 0) % 4 = 2 ∨ (mark + if sm = true then 4 else 0) % 4 = 3) ↔ mark ≠ 2 := by split <;> omega
  rw [em1, em2]
  refine ⟨fun c7 => ⟨fun c8 => ?_, fun c8 y15 e15 y17 e17 => ?_⟩, fun c7 => ⟨R3.1, _, S_length R3, fun v24 h23 hp y25 e25 => ?_⟩⟩
  · rw [if_neg c7, if_neg c8, if_neg c7]
    have h0 : mark = 0 := by omega
    subst e9; subst e11
    have := S_win55 (w := w) K I V c2 c3 Rs R3 Q o1 o6 n6 fr n 0 0 (by omega) (by omega) (by omega) (by omega) hN3 hN1 mark sm (by omega)
    rw [List.take_zero, winM_nil T _ mark 0 (fr - 2048) sm] at this
    exact this
  · have h2 : mark = 2 := Decidable.not_not.mp c8
    obtain ⟨-, hfr, hb⟩ : mark = 2 ∧ 2048 ≤ fr ∧ b3 = src := (hm.resolve_left (by omega)).resolve_left (fun q => absurd q.1 c7)
    rw [show (2048 : Int32) = nI 2048 from rfl, pk_sub hfr] at e15
    subst e15
    have e17 : y17 = nI 2048 := e17
    subst e17
    rw [if_neg c7, if_pos h2, if_neg c7]
    subst hb
    exact S_win55 K I V c2 c3 Rs R3 Q o1 o6 n6 fr n (fr - 2048) 2048 (by omega) (by omega) (by omega) (by omega) hN3 hN1 mark sm (by omega)
  · have h1' : mark = 1 := Decidable.not_not.mp c7
    obtain ⟨e1, e2⟩ := hp
    obtain rfl := e1.symm
    rw [e2] at e25
    subst e25; subst e9
    rw [if_pos h1', if_pos h1']
    have := S_win55 (w := w) K I V c2 c3 Rs R3 Q o1 o6 n6 fr n 0 b3.length (by omega) (by omega) (by omega) (by omega) hN3 hN1 mark sm (by omega)
    rw [List.drop_zero, List.take_length] at this
    exact this
def wsM (r6 a6 N6 : Nat) (o : Option (List Nat)) (v : Int32) (h1 : Hp) : Prop := match o with
  | none => v = 0 ∧ ∃ b l, RowV SH h1 r6 a6 N6 b l
  | some f => v = 1 ∧ RowL h1 r6 a6 N6 f
theorem or4 : ∀ m : Nat, m < 4 → (nI m ||| (4 : Int32)) = nI (m + 4) ∧ (nI m ||| (0 : Int32)) = nI (m + 0) := by decide
theorem S_makeWindows {w : Wd} {h : Hp} {T : Tb} {t tr ta r1 a1 N1 r2 a2 N2 r6 a6 N6 : Nat} {src old acc : List Nat} (K : MkR h) (V : TabV h t tr ta T) (Rs : RowV SH h r1 a1 N1 src false) (Ro : RowV SH h r2 a2 N2 old false) (Q : RowL h r6 a6 N6 acc) (o1 : r1 < 27 ∧ a1 < 27 ∧ r2 < 27 ∧ a2 < 27 ∧ t < 27 ∧ tr < 27 ∧ ta < 27) (o6 : r6 < 27 ∧ a6 < 27 ∧ shAt SH r6 = some (.inr 8)) (n6 : r1 ≠ r6 ∧ r1 ≠ a6 ∧ a1 ≠ r6 ∧ a1 ≠ a6) (n6' : r2 ≠ r6 ∧ r2 ≠ a6 ∧ a2 ≠ r6 ∧ a2 ≠ a6 ∧ t ≠ r6 ∧ t ≠ a6 ∧ tr ≠ r6 ∧ tr ≠ a6 ∧ ta ≠ r6 ∧ ta ≠ a6) (hol : old.length ≤ 4000) (hN1 : src.length ≤ 6000) (marks : Nat) (hm : marks < 8) : C_X5_makeWindows w SH 27 r1 r2 t (nI marks) r6 h (fun v h1 => wsM r6 a6 N6 (winsM T src old (decide (marks % 2 = 1)) (decide (4 ≤ marks)) 4 0 acc) v h1 ∧ MkR h1 ∧ Fr (MWs r6 a6) h h1) := by
  have f := K.1
  generalize hsm : decide (marks % 2 = 1) = sm
  generalize hcm : decide (4 ≤ marks) = cm
  generalize ht : winsM T src old sm cm 4 0 acc = tot
  have T1 := V.2.2.2.2.2.2.1
  have T2 := V.2.2.2.2.2.2.2
  have e4m : (if sm = true then 4 else 0) = (if marks % 2 = 1 then 4 else 0) := by rw [← hsm]; simp
  have nMW : ∀ c, c < 27 → c ≠ r6 → c ≠ a6 → c ∉ MWs r6 a6 := fun c h1 h2 h3 q => by simp [MWs] at q; omega
  refine K_X5_makeWindows nlt_wf (fun m x0 x1 x2 x3 x4 x5 x6 x7 h' => x0 = 27 ∧ x1 = r1 ∧ x2 = r2 ∧ x3 = t ∧ x4 = nI marks ∧ x5 = r6 ∧ x6 = nI (if sm = true then 4 else 0) ∧ ∃ fr k acc', x7 = nI fr ∧ fr ≤ 8192 ∧ m = 8192 - fr ∧ fr = (4 - k) * 2048 ∧ k ≤ 4 ∧ MkR h' ∧ IxV h' T ∧ h'.1 40 2 = nI T.2.1 ∧ h'.1 40 3 = nI (256 * T.2.2) ∧ RowL h' r6 a6 N6 acc' ∧ winsM T src old sm cm k fr acc' = tot ∧ Fr (MWs r6 a6) h h') ?_ ?_
  · have k2 := fx f 27 2 37 (by decide +kernel)
    refine ⟨rfl, by rw [k2]; rfl, _, by rw [k2]; exact S_ixLay f V (by omega), fun h6 hp => ?_⟩
    obtain ⟨I6, F6⟩ := hp
    have f6 := I6.1
    have k3 := fx f6 27 3 40 (by decide +kernel)
    have V6 : TabV h6 t tr ta T := V.ag ⟨F6.2.2 _ (by simp; omega), by rw [F6.1]⟩ ⟨F6.2.2 _ (by simp; omega), by rw [F6.1]⟩ (F6.2.2 _ (by simp; omega))
    have C := cc40 f6
    refine ⟨V.1, by rw [k3]; rfl, _, by rw [k3, V6.2.2.2.2.1, V6.2.2.2.2.2.1]; exact S_fit C.1 C.2.1 C.2.2.1 C.2.2.2.1 C.2.2.2.2.1 (by decide) (by decide) (by decide) T.2.1 T.2.2 T1 (by omega), fun h12 hp => ?_⟩
    obtain ⟨z1, z2, z3, z4, z5, F12⟩ := hp
    have FF : Fr (MWs r6 a6) h h12 := (F6.mono (by simp [MWs])).tr1 (F12.mono (by simp [MWs]))
    have G : Fr [38, 39, 40, 41, 42] h h12 := (F6.mono (by simp)).tr1 (F12.mono (by simp))
    have K12 : MkR h12 := by
      obtain ⟨-, ⟨b1, l1, q1⟩, ⟨b2, l2, q2⟩, ⟨b3, l3, q3⟩, ⟨b4, l4, q4⟩⟩ := K
      exact ⟨f.fr G, ⟨b1, l1, q1.fr G (by decide) (by decide)⟩, ⟨b2, l2, q2.fr G (by decide) (by decide)⟩, ⟨b3, l3, q3.fr G (by decide) (by decide)⟩, ⟨b4, l4, q4.fr G (by decide) (by decide)⟩⟩
    have nG : ∀ c, c < 27 → c ∉ [38, 39, 40, 41, 42] := fun c hc q => by simp at q; omega
    have go : ∀ s0 : Int32, s0 = nI (if sm = true then 4 else 0) → V_X5_makeWindows_35 w SH 27 r1 r2 t (nI marks) r6 s0 h12 (fun x0 x1 x2 x3 x4 x5 x6 x7 h' => ∃ m, x0 = 27 ∧ x1 = r1 ∧ x2 = r2 ∧ x3 = t ∧ x4 = nI marks ∧ x5 = r6 ∧ x6 = nI (if sm = true then 4 else 0) ∧ ∃ fr k acc', x7 = nI fr ∧ fr ≤ 8192 ∧ m = 8192 - fr ∧ fr = (4 - k) * 2048 ∧ k ≤ 4 ∧ MkR h' ∧ IxV h' T ∧ h'.1 40 2 = nI T.2.1 ∧ h'.1 40 3 = nI (256 * T.2.2) ∧ RowL h' r6 a6 N6 acc' ∧ winsM T src old sm cm k fr acc' = tot ∧ Fr (MWs r6 a6) h h') (fun v h1 => wsM r6 a6 N6 tot v h1 ∧ MkR h1 ∧ Fr (MWs r6 a6) h h1) := by
      intro s0 es y1 e1 y3 e3
      exact ⟨8192, rfl, rfl, rfl, rfl, rfl, rfl, e1.trans es, 0, 4, acc, e3, by omega, rfl, by omega, by omega, K12, I6.fr F12 (by decide) (by decide), z4, z5, Q.fr G (nG _ o6.1) (nG _ o6.2.1), ht, FF⟩
    rw [and1 _ hm, nIz (by omega)]
    refine ⟨fun c => go 0 ?_, fun c => go 4 ?_⟩
    · rw [e4m, if_neg (by omega)]; rfl
    · rw [e4m, if_pos (by omega)]; rfl
  · rintro m x0 x1 x2 x3 x4 x5 x6 x7 h' ⟨rfl, rfl, rfl, rfl, rfl, rfl, rfl, fr, k, acc', rfl, hfr, rfl, hfk, hk, K', I', c2, c3, Q', et, F⟩
    have Rs' := Rs.fr F (nMW _ (by omega) (by omega) (by omega)) (nMW _ (by omega) (by omega) (by omega))
    have Ro' := Ro.fr F (nMW _ (by omega) (by omega) (by omega)) (nMW _ (by omega) (by omega) (by omega))
    have V' : TabV h' x3 tr ta T := V.ag ⟨F.2.2 _ (nMW _ (by omega) (by omega) (by omega)), by rw [F.1]⟩ ⟨F.2.2 _ (nMW _ (by omega) (by omega) (by omega)), by rw [F.1]⟩ (F.2.2 _ (nMW _ (by omega) (by omega) (by omega)))
    refine ⟨Rs'.1, _, S_length Rs', fun v6 h5 hp => ?_⟩
    obtain ⟨e1, e2⟩ := hp
    obtain rfl := e1.symm
    subst e2
    rw [nI_leI (by omega) (by omega), and4 _ hm, nIz (by unfold sumN; split <;> omega)]
    refine ⟨fun c7 => ?_, fun c7 => ?_⟩
    · have : winsM T src old sm cm k fr acc' = some acc' := by
        cases k with
        | zero => rfl
        | succ k => rw [winsM, if_neg (by omega)]
      rw [this] at et
      rw [← et]
      exact ⟨⟨rfl, Q'⟩, K', F⟩
    · have hk0 : k ≠ 0 := fun q => by subst q; omega
      rw [show k = (k - 1) + 1 by omega, winsM, if_pos (by omega)] at et
      obtain ⟨mk, hmk⟩ : ∃ mk, (if 0 < old.length then 1 else if cm = true ∧ 0 < fr then 2 else 0) = mk := ⟨_, rfl⟩
      rw [hmk] at et
      have hcm' : cm = true ↔ 4 ≤ marks := by rw [← hcm]; simp
      have v102 : ∀ (r3 a3 N3 : Nat) (b3 : List Nat), RowV SH h' r3 a3 N3 b3 false → r3 < 27 ∧ a3 < 27 → b3.length ≤ 8000 → (mk = 0 ∨ (mk = 1 ∧ b3.length ≤ 4000) ∨ (mk = 2 ∧ 2048 ≤ fr ∧ b3 = src)) → (mk = 1 → b3 = old) → V_X5_makeWindows_102 w SH 27 x1 x2 x3 (nI marks) x5 (nI (if sm = true then 4 else 0)) (nI fr) (nI mk) r3 h' (fun x0 x1_1 x2_1 x3_1 x4 x5_1 x6 x7 h_1 => ∃ a, a < 8192 - fr ∧ x0 = 27 ∧ x1_1 = x1 ∧ x2_1 = x2 ∧ x3_1 = x3 ∧ x4 = nI marks ∧ x5_1 = x5 ∧ x6 = nI (if sm = true then 4 else 0) ∧ ∃ fr k acc', x7 = nI fr ∧ fr ≤ 8192 ∧ a = 8192 - fr ∧ fr = (4 - k) * 2048 ∧ k ≤ 4 ∧ MkR h_1 ∧ IxV h_1 T ∧ h_1.1 40 2 = nI T.2.1 ∧ h_1.1 40 3 = nI (256 * T.2.2) ∧ RowL h_1 x5 a6 N6 acc' ∧ winsM T src old sm cm k fr acc' = tot ∧ Fr (MWs x5 a6) h h_1) (fun v h1 => wsM x5 a6 N6 tot v h1 ∧ MkR h1 ∧ Fr (MWs x5 a6) h h1) := by
        intro r3 a3 N3 b3 R3 ho3 hb3 hmk3 hold y1 e1
        subst e1
        have eo : nI mk ||| nI (if sm = true then 4 else 0) = nI (mk + if sm = true then 4 else 0) := by
          have := or4 mk (by omega)
          cases sm with
          | true => exact this.1
          | false => exact this.2
        rw [eo]
        have mw := S_makeWindow (w := w) K' I' V' c2 c3 Rs' R3 Q' ⟨o1.1, o1.2.1, ho3.1, ho3.2, o1.2.2.2.2⟩ o6 n6 fr (by omega) hb3 (by omega) mk sm hmk3
        have ew : winM T (if mk = 1 then b3 else if mk = 2 then (src.drop (fr - 2048)).take 2048 else []) ((src.drop fr).take 2048) mk (if mk = 1 then 0 else fr - 2048) sm = winM T (if 0 < old.length then old else if cm = true ∧ 0 < fr then (src.drop (fr - 2048)).take 2048 else []) ((src.drop fr).take 2048) mk (if 0 < old.length then 0 else fr - 2048) sm := by
          by_cases q1 : 0 < old.length
          · have hmk1 : mk = 1 := by rw [← hmk, if_pos q1]
            rw [if_pos hmk1, if_pos hmk1, if_pos q1, if_pos q1, hold hmk1]
          · by_cases q2 : cm = true ∧ 0 < fr
            · have hmk1 : mk = 2 := by rw [← hmk, if_neg q1, if_pos q2]
              rw [if_neg (by omega), if_pos hmk1, if_neg (by omega), if_neg q1, if_pos q2, if_neg q1]
            · have hmk1 : mk = 0 := by rw [← hmk, if_neg q1, if_neg q2]
              rw [if_neg (by omega), if_neg (by omega), if_neg (by omega), if_neg q1, if_neg q2, if_neg q1]
        rw [ew] at mw
        refine ⟨rfl, _, mw, fun v8 h7 hp => ?_⟩
        obtain ⟨ws, K7, I7, d2, d3, F7⟩ := hp
        have F7' := F.tr1 F7
        cases hW : winM T (if 0 < old.length then old else if cm = true ∧ 0 < fr then (src.drop (fr - 2048)).take 2048 else []) ((src.drop fr).take 2048) mk (if 0 < old.length then 0 else fr - 2048) sm with
        | none =>
          rw [hW] at ws et
          obtain ⟨rfl, ws⟩ := ws
          refine ⟨fun c => absurd rfl c, fun _ => ⟨?_, K7, F7'⟩⟩
          rw [← et]
          exact ⟨rfl, ws⟩
        | some b =>
          rw [hW] at ws et
          obtain ⟨rfl, Q7⟩ := ws
          refine ⟨fun _ y10 e10 => ?_, fun c => absurd c (by decide)⟩
          rw [show (2048 : Int32) = nI 2048 from rfl, nI_add] at e10
          exact ⟨8192 - (fr + 2048), by omega, rfl, rfl, rfl, rfl, rfl, rfl, rfl, fr + 2048, k - 1, acc' ++ b, e10, by omega, rfl, by omega, by omega, K7, I7, d2, d3, Q7, et, F7'⟩
      have hfr0 : 0 < fr → 2048 ≤ fr := by omega
      have v89 : ∀ s0 : Int32, s0 = nI mk → V_X5_makeWindows_89 w SH 27 x1 x2 x3 (nI marks) x5 (nI (if sm = true then 4 else 0)) (nI fr) s0 h' (fun x0 x1_1 x2_1 x3_1 x4 x5_1 x6 x7 h_1 => ∃ a, a < 8192 - fr ∧ x0 = 27 ∧ x1_1 = x1 ∧ x2_1 = x2 ∧ x3_1 = x3 ∧ x4 = nI marks ∧ x5_1 = x5 ∧ x6 = nI (if sm = true then 4 else 0) ∧ ∃ fr k acc', x7 = nI fr ∧ fr ≤ 8192 ∧ a = 8192 - fr ∧ fr = (4 - k) * 2048 ∧ k ≤ 4 ∧ MkR h_1 ∧ IxV h_1 T ∧ h_1.1 40 2 = nI T.2.1 ∧ h_1.1 40 3 = nI (256 * T.2.2) ∧ RowL h_1 x5 a6 N6 acc' ∧ winsM T src old sm cm k fr acc' = tot ∧ Fr (MWs x5 a6) h h_1) (fun v h1 => wsM x5 a6 N6 tot v h1 ∧ MkR h1 ∧ Fr (MWs x5 a6) h h1) := by
        intro s0 es y1 e1
        rw [es] at e1
        subst e1
        have hmk4 : mk < 3 := by rw [← hmk]; split <;> (try split) <;> omega
        have e1' : nI mk = (1 : Int32) ↔ mk = 1 := by rw [show (1 : Int32) = nI 1 from rfl, nI_eq (by omega) (by omega)]
        refine ⟨fun c => v102 x1 a1 N1 src Rs' ⟨o1.1, o1.2.1⟩ (by omega) ?_ (fun q => absurd (e1'.mpr q) c), fun c => v102 x2 a2 N2 old Ro' ⟨o1.2.2.1, o1.2.2.2.1⟩ (by omega) (Or.inr (Or.inl ⟨e1'.mp c, hol⟩)) (fun _ => rfl)⟩
        have c1 : mk ≠ 1 := fun q => c (e1'.mpr q)
        by_cases q1 : 0 < old.length
        · rw [if_pos q1] at hmk; exact absurd hmk.symm c1
        · by_cases q2 : cm = true ∧ 0 < fr
          · rw [if_neg q1, if_pos q2] at hmk; exact Or.inr (Or.inr ⟨hmk.symm, hfr0 q2.2, rfl⟩)
          · rw [if_neg q1, if_neg q2] at hmk; exact Or.inl hmk.symm
      have v66 : ∀ (s0 : Int32) (z : Nat), s0 = nI z → (z = 1 ∧ (cm = true ∧ 0 < fr) ∨ z = 0 ∧ ¬ (cm = true ∧ 0 < fr)) → V_X5_makeWindows_66 w SH 27 x1 x2 x3 (nI marks) x5 (nI (if sm = true then 4 else 0)) (nI fr) s0 h' (fun x0 x1_1 x2_1 x3_1 x4 x5_1 x6 x7 h_1 => ∃ a, a < 8192 - fr ∧ x0 = 27 ∧ x1_1 = x1 ∧ x2_1 = x2 ∧ x3_1 = x3 ∧ x4 = nI marks ∧ x5_1 = x5 ∧ x6 = nI (if sm = true then 4 else 0) ∧ ∃ fr k acc', x7 = nI fr ∧ fr ≤ 8192 ∧ a = 8192 - fr ∧ fr = (4 - k) * 2048 ∧ k ≤ 4 ∧ MkR h_1 ∧ IxV h_1 T ∧ h_1.1 40 2 = nI T.2.1 ∧ h_1.1 40 3 = nI (256 * T.2.2) ∧ RowL h_1 x5 a6 N6 acc' ∧ winsM T src old sm cm k fr acc' = tot ∧ Fr (MWs x5 a6) h h_1) (fun v h1 => wsM x5 a6 N6 tot v h1 ∧ MkR h1 ∧ Fr (MWs x5 a6) h h1) := by
        intro s0 z es hz y1 e1
        rw [es] at e1
        subst e1
        refine ⟨Ro'.1, _, S_length Ro', fun v8 h7 hp => ?_⟩
        obtain ⟨e1, e2⟩ := hp
        obtain rfl := e1.symm
        subst e2
        rw [show (0 : Int32) = nI 0 from rfl, nI_leI (by omega) (by omega), nI_eq (by omega) (by omega)]
        refine ⟨fun c1 => ⟨fun c2 => v89 0 ?_, fun c2 => v89 2 ?_⟩, fun c1 => v89 1 ?_⟩
        · rw [← hmk, if_neg (by omega), if_neg (hz.resolve_left (by omega)).2]; rfl
        · rw [← hmk, if_neg (by omega), if_pos (hz.resolve_right (by omega)).2]; rfl
        · rw [← hmk, if_pos (by omega)]; rfl
      refine ⟨fun c8 => v66 0 0 rfl (Or.inr ⟨rfl, ?_⟩), fun c8 => ⟨fun c9 => v66 0 0 rfl (Or.inr ⟨rfl, ?_⟩), fun c9 => v66 1 1 rfl (Or.inl ⟨rfl, ?_⟩)⟩⟩
      · rintro ⟨q, -⟩
        have := hcm'.mp q
        unfold sumN at c8
        rw [if_pos this] at c8
        exact absurd c8 (by decide)
      · rw [show (0 : Int32) = nI 0 from rfl, nI_leI (by omega) (by omega)] at c9
        rintro ⟨-, q⟩
        omega
      · rw [show (0 : Int32) = nI 0 from rfl, nI_leI (by omega) (by omega)] at c9
        refine ⟨hcm'.mpr ?_, by omega⟩
        unfold sumN at c8
        split at c8
        · assumption
        · exact absurd rfl c8
