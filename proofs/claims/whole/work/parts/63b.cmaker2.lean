/-! the class: the maker finds its moves, and tells their codes (my own) -/
theorem modesP_add {N S p : Nat} {L : List Sp3} : modesP N S p (addS L) = ((modesP N S p L).p + 1, (if (lastS L).1 = 1 ∧ (lastS L).2.1 < 255 then (modesP N S p L).md else (modesP N S p L).md ++ [0]), (modesP N S p L).2.2) := by
  by_cases h : (lastS L).1 = 1 ∧ (lastS L).2.1 < 255
  · rw [modesP_merge h, if_pos h]
  · have e : addS L = L ++ [(1, 1, 0)] := by unfold addS; rw [if_neg h]
    rw [e, modesP_push 1 1 0 (by decide), if_neg h]
theorem dataP_add {sp : List Nat} {beg p : Nat} {L : List Sp3} (hp : (dataP sp beg L).1 = p) (h : p < sp.length) : (dataP sp beg (addS L)).2 = (dataP sp beg L).2 ++ [sp.getD p 0] := by
  by_cases hm : (lastS L).1 = 1 ∧ (lastS L).2.1 < 255
  · obtain ⟨e1, e2⟩ := addS_merge hm
    generalize (lastS L).2.1 = n at e1 e2
    generalize (lastS L).2.2 = a at e1 e2
    generalize L.dropLast = L0 at e1 e2
    rw [e2, dataP_snoc]
    rw [e1, dataP_snoc] at hp ⊢
    unfold dstep at hp ⊢
    have hp : (dataP sp beg L0).1 + n = p := hp
    show (dataP sp beg L0).2 ++ (if (1 : Nat) = 1 then (sp.drop (dataP sp beg L0).1).take (n + 1) else _) = ((dataP sp beg L0).2 ++ (if (1 : Nat) = 1 then (sp.drop (dataP sp beg L0).1).take n else _)) ++ _
    rw [if_pos rfl, if_pos rfl, take_snoc _ _ _ (by omega), hp, List.append_assoc]
  · have e : addS L = L ++ [(1, 1, 0)] := by unfold addS; rw [if_neg hm]
    rw [e, dataP_snoc]
    unfold dstep
    show (dataP sp beg L).2 ++ (if (1 : Nat) = 1 then (sp.drop (dataP sp beg L).1).take 1 else _) = _
    rw [if_pos rfl, hp, List.drop_eq_getElem_cons h, getD_at h]
    rfl
theorem stepsP_same {sp : List Nat} : ∀ {k j p : Nat} {L : List Sp3}, sp.length - p ≤ k → sp.length - p ≤ j → stepsP sp k p L = stepsP sp j p L
  | 0, j, p, L, h1, _ => by rw [stepsP_end (by omega), stepsP_end (by omega)]
  | k + 1, j, p, L, h1, h2 => by
    by_cases h : p < sp.length
    · rw [stepsP_fuel h1 h, stepsP_fuel h2 h]
      have := (stepP_adv (L := L) h).1
      exact stepsP_same (by omega) (by omega)
    · rw [stepsP_end (by omega), stepsP_end (by omega)]
def FmV (h : Hp) (sp : List Nat) (beg N S : Nat) (L : List Sp3) : Prop := (∃ ent, ent ≤ beg + sS L ∧ FnV h sp ent) ∧ MvV h L (modesP N S beg L).md ∧ RowV SH h 43 44 2048 (dataP sp beg L).2 false ∧ AdV h N S (modesP N S beg L).nr (modesP N S beg L).sm (modesP N S beg L).nx (modesP N S beg L).ad ∧ StI L ∧ beg + sS L ≤ sp.length ∧ sp.length ≤ beg + 2048
theorem StI.sizes {L : List Sp3} (X : StI L) : ∀ x ∈ L, 1 ≤ x.2.1 := fun x hx => by
  have := (X.1 x hx).1
  omega
theorem StI.adr {L : List Sp3} (X : StI L) : ∀ x ∈ L, x.2.2 < 16384 := fun x hx => by
  have := (X.1 x hx).2
  omega
def FS5 : List Nat := [28, 29, 30, 31, 32, 33, 34, 35, 36, 40, 41, 42, 43, 44, 47, 48]
theorem pushL_fit {N : Nat} {bs : List Nat} {lo : Bool} {x : Nat} (h : bs.length < N) : pushL N (bs, lo) x = (bs ++ [x], lo) := by unfold pushL; rw [if_pos h]
theorem S_findMoves {w : Wd} {h : Hp} {sp : List Nat} {beg N S : Nat} {b1 b2 : List Nat} {l1 l2 : Bool} (X : FnV h sp 0) (R1 : RowV SH h 43 44 2048 b1 l1) (R2 : RowV SH h 47 48 2048 b2 l2) (c2 : h.1 40 2 = nI N) (c3 : h.1 40 3 = nI (256 * S)) (hN : N ≤ 32) (hS : S ≤ 16) (hb : beg ≤ sp.length) (hb2 : sp.length ≤ beg + 2048) : C_X5_findMoves w SH 27 (nI beg) h (fun h1 => FmV h1 sp beg N S (stepsP sp (sp.length - beg) beg []) ∧ Fr FS5 h h1) := by
  have f := X.1
  have hsl := X.2.1.2.2.2.2.1
  generalize ht : stepsP sp (sp.length - beg) beg [] = tot
  refine K_X5_findMoves nlt_wf (fun m x0 x2 x3 h' => x0 = 27 ∧ ∃ k L, x2 = nI (beg + sS L) ∧ x3 = nI k ∧ k ≤ sS L ∧ m = sp.length - (beg + sS L) ∧ FmV h' sp beg N S L ∧ stepsP sp (sp.length - (beg + sS L)) (beg + sS L) L = tot ∧ Fr FS5 h h') ?_ ?_
  · have k1 := fx f 27 1 33 (by decide +kernel)
    refine ⟨rfl, by rw [k1]; rfl, _, by rw [k1]; exact K_X6_clear (RET := fun h1 => h1 = wI h 33 3 0) ⟨rfl, fun h2 e2 => e2⟩, fun h6 e6 => ?_⟩
    have F6 : Fr FS5 h h6 := by rw [e6]; exact Fr.rf.put (by decide)
    have f6 := f.fr F6
    have R1' := R1.fr (S := [33]) (h1 := h6) (by rw [e6]; exact Fr.rf.put (by decide)) (by decide) (by decide)
    have k4 := fx f6 27 4 43 (by decide +kernel)
    refine ⟨by rw [k4]; rfl, _, by rw [k4]; exact S_clear R1', fun h11 hp => ?_⟩
    obtain ⟨Q1, G11⟩ := hp
    have f11 := f6.fr G11
    have k6 := fx f11 27 6 47 (by decide +kernel)
    have R2' := (R2.fr (S := [33]) (h1 := h6) (by rw [e6]; exact Fr.rf.put (by decide)) (by decide) (by decide)).fr G11 (by decide) (by decide)
    refine ⟨by rw [k6]; rfl, _, by rw [k6]; exact S_clear R2', fun h16 hp => ?_⟩
    obtain ⟨Q2, G16⟩ := hp
    have f16 := f11.fr G16
    have k3 := fx f16 27 3 40 (by decide +kernel)
    have C := cc40 f16
    refine ⟨by rw [k3]; rfl, _, by rw [k3]; exact S_wipe C.1 C.2.1 C.2.2.1 C.2.2.2.1 C.2.2.2.2.1 (by decide) (by decide) (by decide), fun h21 hp y22 e22 y24 e24 => ?_⟩
    obtain ⟨z1, z2, z3, z4, G21⟩ := hp
    have f21 := f16.fr G21
    have c40 : h16.1 40 = h.1 40 := by rw [G16.2.2 40 (by decide), G11.2.2 40 (by decide), e6, wI_cell (by decide)]
    have FF : Fr FS5 h h21 := ((F6.tr1 (G11.mono (by decide))).tr1 (G16.mono (by decide))).tr1 (G21.mono (by decide))
    have GN : Fr [33, 43, 47, 40, 41, 42] h h21 := (((show Fr [33, 43, 47, 40, 41, 42] h h6 by rw [e6]; exact Fr.rf.put (by decide)).tr1 (G11.mono (by decide))).tr1 (G16.mono (by decide))).tr1 (G21.mono (by decide))
    refine ⟨_, rfl, 0, [], by rw [e22]; rfl, e24, by decide, rfl, ⟨⟨0, Nat.zero_le _, X.fr GN (by decide) (by decide) (by decide) (by decide) (by decide)⟩, ⟨f21, ?_, by decide, rfl, fun i hi => absurd hi (by simp)⟩, (Q1.fr G16 (by decide) (by decide)).fr G21 (by decide) (by decide), ⟨f21, ⟨by rw [z4 2 (by decide), c40]; exact c2, by rw [z4 3 (by decide), c40]; exact c3, by rw [z3]; rfl, fun i hi => by rw [z1 i (by omega)]; rfl, fun i hi => by rw [z2 i (by omega)]; rfl⟩, hN, hS, ?_, Q2.fr G21 (by decide) (by decide), fun _ => by show (0 : Nat) < 6048; decide, fun _ => by show (0 : Nat) < 6048; decide⟩, StI.nil, hb, hb2⟩, ht, FF⟩
    · rw [G21.2.2 33 (by decide), G16.2.2 33 (by decide), G11.2.2 33 (by decide), e6, wI_same]; rfl
    · show 0 < N ∨ (N = 0 ∧ 0 = 0)
      omega
  · rintro m x0 x2 x3 h' ⟨rfl, k, L, rfl, rfl, hk, rfl, Y, et, F⟩
    obtain ⟨⟨ent, he, Yf⟩, Ym, Yd, Ya, Yi, yb, yb2⟩ := id Y
    have f' := Yf.1
    have k0 := fx f' 27 0 28 (by decide +kernel)
    have hsS : sS L ≤ 2048 := by omega
    have hLl := Yi.len hsS
    have hdl := dataP_len (sp := sp) (p := beg) Yi.sizes
    have hpp : (dataP sp beg L).1 = beg + sS L := by rw [dataP_p sp N S, modesP_p]
    have hmp := modesP_p N S beg L
    have hmo := modesP_ok (N := N) (S := S) (beg := beg) Yi.adr (by omega)
    have hml := modesP_len N S beg L
    have done : sp.length ≤ beg + sS L → FmV h' sp beg N S tot ∧ Fr FS5 h h' := by
      intro q
      rw [stepsP_end q] at et
      rw [← et]; exact ⟨Y, F⟩
    rw [V_X5_findMoves_32, show (2048 : Int32) = nI 2048 from rfl, nI_leI (by omega) (by omega), k0]
    refine ⟨fun c7 => done (by omega), fun c7 => ⟨rfl, rfl, _, K_X3_end (RET := fun v h1 => h1 = h' ∧ v = nI sp.length) ⟨rfl, by rw [fx f' 28 0 29 (by decide +kernel)]; rfl, _, by rw [fx f' 28 0 29 (by decide +kernel)]; exact S_length Yf.2.1, fun v7 h6 hp => hp⟩, fun v8 h7 hp => ?_⟩⟩
    obtain ⟨e1, e2⟩ := hp
    obtain rfl := e1.symm
    subst e2
    rw [nI_leI (by omega) (by omega)]
    refine ⟨fun c8 => done c8, fun c8 => ⟨by rw [k0]; rfl, _, by rw [k0]; exact S_search Yf (beg + sS L) (by omega) he, fun h14 hp => ?_⟩⟩
    obtain ⟨⟨ent', he', Zf⟩, b4, b5, G14⟩ := hp
    have f14 := Zf.1
    have k014 := fx f14 27 0 28 (by decide +kernel)
    rw [stepsP_fuel (Nat.le_refl _) (by omega)] at et
    have hadv := stepP_adv (sp := sp) (p := beg + sS L) (L := L) (by omega)
    have hrun := runN_le (sp := sp) (p := beg + sS L) (by omega)
    have hfin := findP_ok sp (beg + sS L)
    generalize hpe : beg + sS L = p at *
    refine ⟨by rw [k014]; rfl, _, by rw [k014]; exact S_runLength f14 Zf.2.1 p (by omega), fun v20 h19 hp y21 e21 => ?_⟩
    obtain ⟨e1, e2⟩ := hp
    obtain rfl := e1.symm
    rw [e2] at e21
    subst e21
    refine ⟨by rw [k014]; rfl, fun y24 e24 => ?_⟩
    rw [k014, b5] at e24
    subst e24
    have Zm := Ym.fr G14 (by decide) (by decide) (by decide) (by decide)
    have Zd := Yd.fr G14 (by decide) (by decide)
    have Za := Ya.fr G14 (by decide) (by decide) (by decide) (by decide) (by decide)
    have F14 := F.tr1 (G14.mono (by decide))
    have atC : ∀ h9 : Hp, FnV h9 sp ent' → C_X3_at w SH 28 (nI p) h9 (fun v h1 => h1 = h9 ∧ v = nI (sp.getD p 0)) := fun h9 V9 => K_X3_at ⟨rfl, by rw [fx V9.1 28 0 29 (by decide +kernel)]; rfl, _, by rw [fx V9.1 28 0 29 (by decide +kernel)]; exact atG V9.2.1 p (by omega), fun v7 h6 hp => hp⟩
    have hbyte := getD_lt Zf.2.1.bys p
    have again : ∀ (h9 : Hp) (L' : List Sp3), stepP sp p L = (beg + sS L', L') → FmV h9 sp beg N S L' → Fr FS5 h h9 → V_X5_findMoves_184 w SH 27 (nI (beg + sS L')) (nI k) h9 (fun x0 x2 x3 h_1 => ∃ a, a < sp.length - p ∧ x0 = 27 ∧ ∃ k L, x2 = nI (beg + sS L) ∧ x3 = nI k ∧ k ≤ sS L ∧ a = sp.length - (beg + sS L) ∧ FmV h_1 sp beg N S L ∧ stepsP sp (sp.length - (beg + sS L)) (beg + sS L) L = tot ∧ Fr FS5 h h_1) (fun h1 => FmV h1 sp beg N S tot ∧ Fr FS5 h h1) := by
      intro h9 L' es V9 F9 y1 e1
      rw [es] at hadv et
      have hadv : p < beg + sS L' ∧ beg + sS L' ≤ sp.length := hadv
      have et : stepsP sp (sp.length - p - 1) (beg + sS L') L' = tot := et
      refine ⟨sp.length - (beg + sS L'), by omega, rfl, k + 1, L', rfl, by rw [e1, nI_1], by omega, rfl, V9, ?_, F9⟩
      rw [← et]
      exact stepsP_same (by omega) (by omega)
    have v124 : ¬ (4 ≤ runN sp p ∧ (findP sp p).2 ≤ runN sp p) → V_X5_findMoves_124 w SH 27 (nI p) (nI k) (nI (findP sp p).2) h14 (fun x0 x2 x3 h_1 => ∃ a, a < sp.length - p ∧ x0 = 27 ∧ ∃ k L, x2 = nI (beg + sS L) ∧ x3 = nI k ∧ k ≤ sS L ∧ a = sp.length - (beg + sS L) ∧ FmV h_1 sp beg N S L ∧ stepsP sp (sp.length - (beg + sS L)) (beg + sS L) L = tot ∧ Fr FS5 h h_1) (fun h1 => FmV h1 sp beg N S tot ∧ Fr FS5 h h1) := by
      intro hnr
      rw [V_X5_findMoves_124, show (0 : Int32) = nI 0 from rfl, nI_leI (by omega) (by omega)]
      refine ⟨fun c9 => ?_, fun c9 => ?_⟩
      · have es : stepP sp p L = (beg + sS (addS L), addS L) := by
          unfold stepP
          rw [if_neg hnr, if_neg (by omega), Yi.add.2]
          congr 1
          omega
        have k1 := fx f14 27 1 33 (by decide +kernel)
        have hk2 : ∀ i, i < L.length → (L.getD i (0, 0, 0)).1 < 2 ^ 31 ∧ (L.getD i (0, 0, 0)).2.1 < 2 ^ 31 := fun i hi => by
          have h1 := (Yi.get hi).1
          have h2 : (L.getD i (0, 0, 0)).2.1 ≤ sS L := mem_sum (by rw [List.getD_eq_getElem?_getD, List.getElem?_eq_getElem hi]; exact List.getElem_mem hi)
          omega
        refine ⟨rfl, by rw [k1]; rfl, _, by rw [k1]; exact S_pushAdded Zm (by omega) hk2, fun h7 hp => ?_⟩
        obtain ⟨Wm, G7⟩ := hp
        have Wf := Zf.fr G7 (by decide) (by decide) (by decide) (by decide) (by decide)
        have f7 := Wf.1
        have k07 := fx f7 27 0 28 (by decide +kernel)
        have k47 := fx f7 27 4 43 (by decide +kernel)
        refine ⟨by rw [k07]; rfl, _, by rw [k07]; exact atC h7 Wf, fun v13 h12 hp => ?_⟩
        obtain ⟨e1, e2⟩ := hp
        obtain rfl := e1.symm
        subst e2
        have Wd := Zd.fr G7 (by decide) (by decide)
        refine ⟨by rw [k47]; rfl, _, by rw [k47]; exact S_push Wd _, fun h18 hp y19 e19 => ?_⟩
        obtain ⟨Ud, G18⟩ := hp
        rw [pushL_fit (by omega), un_nI hbyte] at Ud
        rw [nI_1] at e19
        have e19 : y19 = nI (beg + sS (addS L)) := by rw [e19, Yi.add.2]; congr 1; omega
        subst e19
        refine again h18 (addS L) es ⟨⟨ent', by rw [Yi.add.2]; omega, Wf.fr G18 (by decide) (by decide) (by decide) (by decide) (by decide)⟩, ?_, ?_, ?_, Yi.add.1, by rw [Yi.add.2]; omega, yb2⟩ ((F14.tr1 (G7.mono (by decide))).tr1 (G18.mono (by decide)))
        · rw [modesP_add]; exact Wm.fr G18 (by decide) (by decide) (by decide) (by decide)
        · rw [dataP_add hpp (by omega)]; exact Ud
        · rw [modesP_add]; exact (Za.fr G7 (by decide) (by decide) (by decide) (by decide) (by decide)).fr G18 (by decide) (by decide) (by decide) (by decide) (by decide)
      · generalize hFn : (findP sp p).2 = n at *
        generalize hFa : (findP sp p).1 = a at *
        have hfin : 4 ≤ n ∧ n ≤ sp.length - p ∧ a < p := by omega
        have es : stepP sp p L = (beg + sS (L ++ [(3, n, a)]), L ++ [(3, n, a)]) := by
          unfold stepP
          rw [hFn, hFa, if_neg hnr, if_pos (by omega), sS_snoc]
          congr 1
          show p + n = beg + (sS L + n)
          omega
        refine ⟨rfl, by rw [k014]; rfl, _, by rw [k014, b4, if_neg (by omega)]; exact S_tellAddress Za a p hfin.2.2 (by omega) (by omega), fun v27 h26 hp => ?_⟩
        obtain ⟨rfl, Wa, G26⟩ := hp
        have k1 := fx f14 27 1 33 (by decide +kernel)
        have Wm := Zm.fr G26 (by decide) (by decide) (by decide) (by decide)
        refine ⟨by rw [k1]; rfl, _, by rw [k1]; exact S_mpush Wm (by omega) 3 n a _, fun h32 hp y33 e33 => ?_⟩
        obtain ⟨Um, G32⟩ := hp
        rw [nI_add] at e33
        have e33 : y33 = nI (beg + sS (L ++ [(3, n, a)])) := by rw [e33, sS_snoc]; congr 1; show p + n = beg + (sS L + n); omega
        subst e33
        refine again h32 (L ++ [(3, n, a)]) es ⟨⟨ent', by rw [sS_snoc]; omega, (Zf.fr G26 (by decide) (by decide) (by decide) (by decide) (by decide)).fr G32 (by decide) (by decide) (by decide) (by decide) (by decide)⟩, ?_, ?_, ?_, Yi.copy 3 n a (Or.inr rfl) hfin.1 (by omega), by rw [sS_snoc]; show beg + (sS L + n) ≤ _; omega, yb2⟩ ((F14.tr1 (G26.mono (by decide))).tr1 (G32.mono (by decide)))
        · rw [modesP_copy, hmp]; exact Um
        · have ed : (dataP sp beg (L ++ [(3, n, a)])).2 = (dataP sp beg L).2 := by
            rw [dataP_snoc]
            unfold dstep
            show (dataP sp beg L).2 ++ (if (3 : Nat) = 1 then _ else if (3 : Nat) = 2 then _ else []) = _
            rw [if_neg (by decide), if_neg (by decide), List.append_nil]
          rw [ed]; exact (Zd.fr G26 (by decide) (by decide)).fr G32 (by decide) (by decide)
        · rw [modesP_copy, hmp]; exact Wa.fr G32 (by decide) (by decide) (by decide) (by decide) (by decide)
    rw [show (4 : Int32) = nI 4 from rfl, nI_ltI (by omega) (by omega), nI_ltI (by omega) (by omega)]
    refine ⟨fun c9 => v124 (by omega), fun c9 => ⟨fun c10 => v124 (by omega), fun c10 => ?_⟩⟩
    generalize hr : runN sp p = n at *
    have es : stepP sp p L = (beg + sS (L ++ [(2, n, 0)]), L ++ [(2, n, 0)]) := by
      unfold stepP
      rw [hr, if_pos (by omega), sS_snoc]
      congr 1
      show p + n = beg + (sS L + n)
      omega
    have k1 := fx f14 27 1 33 (by decide +kernel)
    refine ⟨by rw [k1]; rfl, _, by rw [k1]; exact S_mpush Zm (by omega) 2 n 0 0, fun h32 hp => ?_⟩
    obtain ⟨Wm, G32⟩ := hp
    have Wf := Zf.fr G32 (by decide) (by decide) (by decide) (by decide) (by decide)
    have f32 := Wf.1
    have k032 := fx f32 27 0 28 (by decide +kernel)
    have k432 := fx f32 27 4 43 (by decide +kernel)
    refine ⟨by rw [k032]; rfl, _, by rw [k032]; exact atC h32 Wf, fun v38 h37 hp => ?_⟩
    obtain ⟨e1, e2⟩ := hp
    obtain rfl := e1.symm
    subst e2
    refine ⟨by rw [k432]; rfl, _, by rw [k432]; exact S_push (Zd.fr G32 (by decide) (by decide)) _, fun h43 hp y44 e44 => ?_⟩
    obtain ⟨Ud, G43⟩ := hp
    rw [pushL_fit (by omega), un_nI hbyte] at Ud
    rw [nI_add] at e44
    have e44 : y44 = nI (beg + sS (L ++ [(2, n, 0)])) := by rw [e44, sS_snoc]; congr 1; show p + n = beg + (sS L + n); omega
    subst e44
    refine again h43 (L ++ [(2, n, 0)]) es ⟨⟨ent', by rw [sS_snoc]; omega, Wf.fr G43 (by decide) (by decide) (by decide) (by decide) (by decide)⟩, ?_, ?_, ?_, Yi.copy 2 n 0 (Or.inl rfl) (by omega) (by decide), by rw [sS_snoc]; show beg + (sS L + n) ≤ _; omega, yb2⟩ ((F14.tr1 (G32.mono (by decide))).tr1 (G43.mono (by decide)))
    · rw [modesP_push 2 n 0 (by decide)]; exact Wm.fr G43 (by decide) (by decide) (by decide) (by decide)
    · have ed : (dataP sp beg (L ++ [(2, n, 0)])).2 = (dataP sp beg L).2 ++ [sp.getD p 0] := by
        rw [dataP_snoc]
        unfold dstep
        show (dataP sp beg L).2 ++ (if (2 : Nat) = 1 then _ else if (2 : Nat) = 2 then [sp.getD (dataP sp beg L).1 0] else []) = _
        rw [if_neg (by decide), if_pos rfl, hpp]
      rw [ed]; exact Ud
    · rw [modesP_push 2 n 0 (by decide)]; exact (Za.fr G32 (by decide) (by decide) (by decide) (by decide) (by decide)).fr G43 (by decide) (by decide) (by decide) (by decide) (by decide)
