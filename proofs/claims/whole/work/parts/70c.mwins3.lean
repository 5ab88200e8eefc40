/-! the reference makes its windows: the walk (my own) -/
theorem drop_c {l : List Nat} {j : Nat} (h : j < l.length) : l.drop j = l.getD j 0 :: l.drop (j + 1) := by
  rw [List.drop_eq_getElem_cons h, List.getD_eq_getElem?_getD, List.getElem?_eq_getElem h]
  rfl
theorem getD_ge {l : List Nat} {j : Nat} (h : j < l.length) : l[j] = l.getD j 0 := by
  rw [List.getD_eq_getElem?_getD, List.getElem?_eq_getElem h]
  rfl
theorem M_windows {w : Wd} {a : WnA} {N1 N3 : Nat} {h : Hp} {acc : List Nat} (H : wnH a N1 N3 h) (X : FlV h acc) (ha : acc.length ≤ 4000) (h60 : h.1 97 60 = 0) : C_X12_windows w SH 97 a.c1 (nI a.src.length) a.c3 (nI a.old.length) (nI a.t) (nI a.mk) h (wnZ (winsM a.T a.src a.old a.sm a.cm 4 0 acc) h) := by
  obtain ⟨f, V, ht, s1, l1, n1, B1, d1, i1, s3, l3, n3, B3, d3, i3, hsrc, hold, hmk, hsm, hcm⟩ := id H
  generalize hto : winsM a.T a.src a.old a.sm a.cm 4 0 acc = tot
  have hcm' : a.cm = true ↔ 4 ≤ a.mk := by rw [hcm]; simp
  refine K_X12_windows nlt_wf (wnI3 a tot h) (wnI97 a tot h) (wnI146 a tot h) (wnI397 a tot h) (wnI429 a tot h) (wnI458 a tot h) (wnI491 a tot h) ?_ ?_ ?_ ?_ ?_ ?_ ?_ ?_
  · intro y1 e1
    exact ⟨_, 0, 4, acc, ⟨rfl, rfl, rfl, rfl, rfl, rfl, rfl, e1, rfl, by omega, h60, Fm.rf⟩, X, by omega, hto, rfl⟩
  · rintro m x0 x1 x2 x3 x4 x5 x6 x7 h' ⟨fr, k, acc', ⟨rfl, rfl, rfl, rfl, rfl, rfl, rfl, rfl, hfk, hk4, z60, F⟩, X', hal, et, rfl⟩
    have H' := H.fm F
    rw [V_X12_windows_3, nI_leI (by omega) (by omega), z60]
    refine ⟨fun c => ?_, fun c => ⟨rfl, fun c2 => absurd rfl c2, fun _ => ?_⟩⟩
    · have : winsM a.T a.src a.old a.sm a.cm k fr acc' = some acc' := by
        cases k with
        | zero => rfl
        | succ k => rw [winsM, if_neg (by omega)]
      rw [this] at et
      rw [← et]
      exact ⟨⟨z60, X', by omega⟩, F⟩
    · have hk : 1 ≤ k := by
        cases k with
        | zero => omega
        | succ k => omega
      have hfr : fr < a.src.length := by omega
      have htl := tgt_len (a := a) (fr := fr)
      obtain ⟨sg1, sg2, sg3, sg4⟩ := seg_cs (a := a) hfr hfk hold
      have v91 : ∀ s0 : Int32, s0 = nI (a.seg fr).length → V_X12_windows_91 w SH 97 a.c1 (nI a.src.length) a.c3 (nI a.old.length) (nI a.t) (nI a.mk) (nI fr) (nI (a.tgt fr).length) (nI (mrkM a.old a.cm fr)) s0 97 h' (fun x0 x1 x2 x3 x4 x5 x6 x7 h1 => ∃ b, b < k * 1000000 ∧ wnI3 a tot h b x0 x1 x2 x3 x4 x5 x6 x7 h1) (fun x0 x1 x2 x3 x4 x5 x6 x7 x8 x9 x10 h1 => ∃ b, b < k * 1000000 ∧ wnI97 a tot h b x0 x1 x2 x3 x4 x5 x6 x7 x8 x9 x10 h1) (fun x0 x1 x2 x3 x4 x5 x6 x7 x8 x9 x10 h1 => ∃ b, b < k * 1000000 ∧ wnI146 a tot h b x0 x1 x2 x3 x4 x5 x6 x7 x8 x9 x10 h1) (fun x0 x1 x2 x3 x4 x5 x6 x7 x10 x12 x14 h1 => ∃ b, b < k * 1000000 ∧ wnI397 a tot h b x0 x1 x2 x3 x4 x5 x6 x7 x10 x12 x14 h1) (fun x0 x1 x2 x3 x4 x5 x6 x7 x14 h1 => ∃ b, b < k * 1000000 ∧ wnI429 a tot h b x0 x1 x2 x3 x4 x5 x6 x7 x14 h1) (fun x0 x1 x2 x3 x4 x5 x6 x7 x14 h1 => ∃ b, b < k * 1000000 ∧ wnI458 a tot h b x0 x1 x2 x3 x4 x5 x6 x7 x14 h1) (fun x0 x1 x2 x3 x4 x5 x6 x7 x14 h1 => ∃ b, b < k * 1000000 ∧ wnI491 a tot h b x0 x1 x2 x3 x4 x5 x6 x7 x14 h1) (wnZ tot h) := by
        intro s0 es
        refine ⟨rfl, fun h2 e2 y4 e4 => ?_⟩
        subst e2
        refine ⟨_, ?_, fr, k, acc', 0, ⟨⟨rfl, rfl, rfl, rfl, rfl, rfl, rfl, rfl, hfk, hk4, by rw [wI_idx (by decide)]; exact z60, F.put (by simp)⟩, hk, hfr, hal, et⟩, X'.fm (Fm.rf.put (K := [59]) (S := []) (L := []) (by simp)) (by simp) (by simp), rfl, rfl, by rw [wI_same]; exact es, e4, by omega, fun j hj => absurd hj (by simp), rfl⟩
        omega
      have v64 : ∀ s0 : Int32, s0 = nI (mrkM a.old a.cm fr) → V_X12_windows_64 w SH 97 a.c1 (nI a.src.length) a.c3 (nI a.old.length) (nI a.t) (nI a.mk) (nI fr) (nI (a.tgt fr).length) s0 h' (fun x0 x1 x2 x3 x4 x5 x6 x7 h1 => ∃ b, b < k * 1000000 ∧ wnI3 a tot h b x0 x1 x2 x3 x4 x5 x6 x7 h1) (fun x0 x1 x2 x3 x4 x5 x6 x7 x8 x9 x10 h1 => ∃ b, b < k * 1000000 ∧ wnI97 a tot h b x0 x1 x2 x3 x4 x5 x6 x7 x8 x9 x10 h1) (fun x0 x1 x2 x3 x4 x5 x6 x7 x8 x9 x10 h1 => ∃ b, b < k * 1000000 ∧ wnI146 a tot h b x0 x1 x2 x3 x4 x5 x6 x7 x8 x9 x10 h1) (fun x0 x1 x2 x3 x4 x5 x6 x7 x10 x12 x14 h1 => ∃ b, b < k * 1000000 ∧ wnI397 a tot h b x0 x1 x2 x3 x4 x5 x6 x7 x10 x12 x14 h1) (fun x0 x1 x2 x3 x4 x5 x6 x7 x14 h1 => ∃ b, b < k * 1000000 ∧ wnI429 a tot h b x0 x1 x2 x3 x4 x5 x6 x7 x14 h1) (fun x0 x1 x2 x3 x4 x5 x6 x7 x14 h1 => ∃ b, b < k * 1000000 ∧ wnI458 a tot h b x0 x1 x2 x3 x4 x5 x6 x7 x14 h1) (fun x0 x1 x2 x3 x4 x5 x6 x7 x14 h1 => ∃ b, b < k * 1000000 ∧ wnI491 a tot h b x0 x1 x2 x3 x4 x5 x6 x7 x14 h1) (wnZ tot h) := by
        intro s0 es y1 e1
        rw [es] at e1
        subst e1
        have hm3 : mrkM a.old a.cm fr < 3 := by omega
        rw [show (1 : Int32) = nI 1 from rfl, nI_eq (by omega) (by decide), show (2 : Int32) = nI 2 from rfl, nI_eq (by omega) (by decide)]
        refine ⟨fun c1 => ⟨fun c2 => v91 0 ?_, fun c2 => v91 2048 ?_⟩, fun c1 => v91 _ ?_⟩
        · have : a.seg fr = [] := by rcases sg1 with q | q | q <;> first | exact q.2 | omega
          rw [this]; rfl
        · rw [(sg4 c2).2]; rfl
        · rw [sg3 c1]
      have v36 : ∀ s0 : Int32, s0 = nI (a.tgt fr).length → V_X12_windows_36 w SH 97 a.c1 (nI a.src.length) a.c3 (nI a.old.length) (nI a.t) (nI a.mk) (nI fr) s0 h' (fun x0 x1 x2 x3 x4 x5 x6 x7 h1 => ∃ b, b < k * 1000000 ∧ wnI3 a tot h b x0 x1 x2 x3 x4 x5 x6 x7 h1) (fun x0 x1 x2 x3 x4 x5 x6 x7 x8 x9 x10 h1 => ∃ b, b < k * 1000000 ∧ wnI97 a tot h b x0 x1 x2 x3 x4 x5 x6 x7 x8 x9 x10 h1) (fun x0 x1 x2 x3 x4 x5 x6 x7 x8 x9 x10 h1 => ∃ b, b < k * 1000000 ∧ wnI146 a tot h b x0 x1 x2 x3 x4 x5 x6 x7 x8 x9 x10 h1) (fun x0 x1 x2 x3 x4 x5 x6 x7 x10 x12 x14 h1 => ∃ b, b < k * 1000000 ∧ wnI397 a tot h b x0 x1 x2 x3 x4 x5 x6 x7 x10 x12 x14 h1) (fun x0 x1 x2 x3 x4 x5 x6 x7 x14 h1 => ∃ b, b < k * 1000000 ∧ wnI429 a tot h b x0 x1 x2 x3 x4 x5 x6 x7 x14 h1) (fun x0 x1 x2 x3 x4 x5 x6 x7 x14 h1 => ∃ b, b < k * 1000000 ∧ wnI458 a tot h b x0 x1 x2 x3 x4 x5 x6 x7 x14 h1) (fun x0 x1 x2 x3 x4 x5 x6 x7 x14 h1 => ∃ b, b < k * 1000000 ∧ wnI491 a tot h b x0 x1 x2 x3 x4 x5 x6 x7 x14 h1) (wnZ tot h) := by
        intro s0 es y1 e1
        rw [es] at e1
        subst e1
        rw [and4z hmk, show (0 : Int32) = nI 0 from rfl, nI_leI (by omega) (by omega), nI_leI (by omega) (by omega)]
        refine ⟨fun c1 => ⟨fun c2 => v64 0 ?_, fun c2 => ⟨fun c3 => v64 0 ?_, fun c3 => v64 2 ?_⟩⟩, fun c1 => v64 1 ?_⟩
        · unfold mrkM; rw [if_neg (by omega), if_neg fun q => c2 (hcm'.mp q.1)]; rfl
        · unfold mrkM; rw [if_neg (by omega), if_neg fun q => by omega]; rfl
        · unfold mrkM; rw [if_neg (by omega), if_pos ⟨hcm'.mpr (Decidable.not_not.mp c2), by omega⟩]; rfl
        · unfold mrkM; rw [if_pos (by omega)]; rfl
      rw [pk_sub (by omega), show (2048 : Int32) = nI 2048 from rfl, nI_leI (by decide) (by omega)]
      exact ⟨fun c2 => v36 _ (by rw [htl]; congr 1; omega), fun c2 => v36 _ (by rw [htl]; congr 1; omega)⟩
  · rintro m x0 x1 x2 x3 x4 x5 x6 x7 x8 x9 x10 h' ⟨fr, k, acc', j, ⟨⟨rfl, rfl, rfl, rfl, rfl, rfl, rfl, rfl, hfk, hk4, z60, F⟩, hk, hfr, hal, et⟩, X', rfl, rfl, e59, rfl, hj, B, rfl⟩
    have H' := H.fm F
    have f' := H'.1
    have k58 := fx f' 97 58 125 (by decide +kernel)
    obtain ⟨sg1, sg2, sg3, sg4⟩ := seg_cs (a := a) hfr hfk hold
    rw [V_X12_windows_97, e59, nI_leI (by omega) (by omega)]
    refine ⟨rfl, fun c y3 e3 => ?_, fun c => ?_⟩
    · refine ⟨_, ?_, fr, k, acc', 0, ⟨⟨rfl, rfl, rfl, rfl, rfl, rfl, rfl, rfl, hfk, hk4, z60, F⟩, hk, hfr, hal, et⟩, X', rfl, rfl, e59, e3, by omega, ?_, rfl⟩
      · omega
      · rw [List.take_zero, List.append_nil]
        rw [List.take_of_length_le (by omega)] at B
        exact B
    · have v136 : ∀ s0 : Int32, un s0 = (a.seg fr).getD j 0 → V_X12_windows_136 w SH 97 a.c1 (nI a.src.length) a.c3 (nI a.old.length) (nI a.t) (nI a.mk) (nI fr) (nI (a.tgt fr).length) (nI (mrkM a.old a.cm fr)) (nI j) s0 (nI j) (h'.2.1 97 58) h' (fun x0 x1 x2 x3 x4 x5 x6 x7 h1 => ∃ b, b < (k - 1) * 1000000 + (900000 - j) ∧ wnI3 a tot h b x0 x1 x2 x3 x4 x5 x6 x7 h1) (fun x0 x1 x2 x3 x4 x5 x6 x7 x8 x9 x10 h1 => ∃ b, b < (k - 1) * 1000000 + (900000 - j) ∧ wnI97 a tot h b x0 x1 x2 x3 x4 x5 x6 x7 x8 x9 x10 h1) (fun x0 x1 x2 x3 x4 x5 x6 x7 x8 x9 x10 h1 => ∃ b, b < (k - 1) * 1000000 + (900000 - j) ∧ wnI146 a tot h b x0 x1 x2 x3 x4 x5 x6 x7 x8 x9 x10 h1) (fun x0 x1 x2 x3 x4 x5 x6 x7 x10 x12 x14 h1 => ∃ b, b < (k - 1) * 1000000 + (900000 - j) ∧ wnI397 a tot h b x0 x1 x2 x3 x4 x5 x6 x7 x10 x12 x14 h1) (fun x0 x1 x2 x3 x4 x5 x6 x7 x14 h1 => ∃ b, b < (k - 1) * 1000000 + (900000 - j) ∧ wnI429 a tot h b x0 x1 x2 x3 x4 x5 x6 x7 x14 h1) (fun x0 x1 x2 x3 x4 x5 x6 x7 x14 h1 => ∃ b, b < (k - 1) * 1000000 + (900000 - j) ∧ wnI458 a tot h b x0 x1 x2 x3 x4 x5 x6 x7 x14 h1) (fun x0 x1 x2 x3 x4 x5 x6 x7 x14 h1 => ∃ b, b < (k - 1) * 1000000 + (900000 - j) ∧ wnI491 a tot h b x0 x1 x2 x3 x4 x5 x6 x7 x14 h1) (wnZ tot h) := by
        intro s0 es
        refine ⟨16000, by rw [k58]; rfl, vp_in_nI (by omega) (by decide), fun h4 e4 y6 e6 => ?_⟩
        rw [k58, nI_clamp (by omega)] at e4
        rw [nI_1] at e6
        have F4 : Fm [] [125] [] h' h4 := by rw [e4]; exact Fm.rf.putC (by decide) (by simp)
        refine ⟨_, ?_, fr, k, acc', j + 1, ⟨⟨rfl, rfl, rfl, rfl, rfl, rfl, rfl, rfl, hfk, hk4, by rw [F4.2.2.2 60 (by simp)]; exact z60, F.tr (F4.mono (by simp) (by simp) (by simp))⟩, hk, hfr, hal, et⟩, X'.fm F4 (by simp) (by simp), rfl, rfl, by rw [F4.2.2.2 59 (by simp)]; exact e59, e6, by omega, ?_, rfl⟩
        · omega
        · have hl : ((a.seg fr).take j).length = j := by rw [List.length_take]; omega
          have := ByV.push B s0
          rw [hl, ← e4, es] at this
          rw [List.take_add_one, List.getElem?_eq_getElem (by omega)]
          rw [List.getD_eq_getElem?_getD, List.getElem?_eq_getElem (by omega)] at this
          exact this
      rw [show (1 : Int32) = nI 1 from rfl, nI_eq (by omega) (by decide)]
      refine ⟨fun c1 => ⟨N1, s1, ?_, ?_⟩, fun c1 => ⟨N3, s3, ?_, ?_⟩⟩
      · have h2 : mrkM a.old a.cm fr = 2 ∧ 2048 ≤ fr := by
          rcases sg1 with ⟨_, q⟩ | q | q
          · rw [q] at c; simp at c
          · omega
          · omega
        have := (sg4 h2.1).2
        rw [show (2048 : Int32) = nI 2048 from rfl, pk_sub h2.2, nI_add]
        exact vp_in_nI (by omega) (by omega)
      · have h2 : mrkM a.old a.cm fr = 2 ∧ 2048 ≤ fr := by
          rcases sg1 with ⟨_, q⟩ | q | q
          · rw [q] at c; simp at c
          · omega
          · omega
        have h3 := sg4 h2.1
        rw [show (2048 : Int32) = nI 2048 from rfl, pk_sub h2.2, nI_add, nI_clamp (by omega)]
        refine v136 _ ?_
        rw [b8_by (F.by_ B1 d1 i1) (by omega), h3.1, List.getD_eq_getElem?_getD, List.getD_eq_getElem?_getD, List.getElem?_take, if_pos (by omega), List.getElem?_drop]
      · have := sg3 c1
        rw [this] at c
        exact vp_in_nI (by omega) (by omega)
      · have h3 := sg3 c1
        rw [nI_clamp (by omega)]
        refine v136 _ ?_
        rw [h3] at c ⊢
        rw [b8_by (F.by_ B3 d3 i3) (by omega)]
  · rintro m x0 x1 x2 x3 x4 x5 x6 x7 x8 x9 x10 h' ⟨fr, k, acc', j, ⟨⟨rfl, rfl, rfl, rfl, rfl, rfl, rfl, rfl, hfk, hk4, z60, F⟩, hk, hfr, hal, et⟩, X', rfl, rfl, e59, rfl, hj, B, rfl⟩
    have H' := H.fm F
    have f' := H'.1
    have k58 := fx f' 97 58 125 (by decide +kernel)
    have htl := tgt_len (a := a) (fr := fr)
    obtain ⟨sg1, sg2, sg3, sg4⟩ := seg_cs (a := a) hfr hfk hold
    rw [V_X12_windows_146, nI_leI (by omega) (by omega)]
    refine ⟨fun c => ⟨rfl, ?_⟩, fun c => ⟨rfl, N1, s1, ?_, 16000, by rw [k58]; rfl, ?_, fun h24 e24 y26 e26 => ?_⟩⟩
    · rw [List.take_of_length_le (by omega)] at B
      exact M_wn146 H ⟨⟨rfl, rfl, rfl, rfl, rfl, rfl, rfl, rfl, hfk, hk4, z60, F⟩, hk, hfr, hal, et⟩ X' e59 B (by omega)
    · rw [nI_add]; exact vp_in_nI (by omega) (by omega)
    · rw [e59, nI_add]; exact vp_in_nI (by omega) (by decide)
    · rw [k58, e59, nI_add, nI_clamp (by omega), nI_add, nI_clamp (by omega)] at e24
      rw [nI_1] at e26
      have F4 : Fm [] [125] [] h' h24 := by rw [e24]; exact Fm.rf.putC (by decide) (by simp)
      refine ⟨_, ?_, fr, k, acc', j + 1, ⟨⟨rfl, rfl, rfl, rfl, rfl, rfl, rfl, rfl, hfk, hk4, by rw [F4.2.2.2 60 (by simp)]; exact z60, F.tr (F4.mono (by simp) (by simp) (by simp))⟩, hk, hfr, hal, et⟩, X'.fm F4 (by simp) (by simp), rfl, rfl, by rw [F4.2.2.2 59 (by simp)]; exact e59, e26, by omega, ?_, rfl⟩
      · omega
      · have hl : (a.seg fr ++ (a.tgt fr).take j).length = (a.seg fr).length + j := by rw [List.length_append, List.length_take]; omega
        have hb : un (b8 (h'.1 a.c1 (fr + j))) = (a.tgt fr).getD j 0 := by
          rw [b8_by (F.by_ B1 d1 i1) (by omega)]
          show _ = ((a.src.drop fr).take 2048).getD j 0
          rw [List.getD_eq_getElem?_getD, List.getD_eq_getElem?_getD, List.getElem?_take, if_pos (by omega), List.getElem?_drop]
        have := ByV.push B (b8 (h'.1 a.c1 (fr + j)))
        rw [hl, ← e24, hb] at this
        rw [List.take_add_one, List.getElem?_eq_getElem (by omega), ← List.append_assoc]
        rw [List.getD_eq_getElem?_getD, List.getElem?_eq_getElem (by omega)] at this
        exact this
  · rintro m x0 x1 x2 x3 x4 x5 x6 x7 x10 x12 x14 h' ⟨fr, k, cs, done, n, W, rfl, rfl, hn, hx, rfl⟩
    have fit := W.fit
    obtain ⟨acc', ⟨⟨rfl, rfl, rfl, rfl, rfl, rfl, rfl, rfl, hfk, hk4, z60, F⟩, hk, hfr, hal, et⟩, hcs, P, Y, ed, el⟩ := id W
    have f' := F.fin f
    have v426 : (if a.sm = true then lowL (lN (adl (a.tgt fr))) n else []) = [] → V_X12_windows_426 w SH 97 a.c1 (nI a.src.length) a.c3 (nI a.old.length) (nI a.t) (nI a.mk) (nI fr) h' (fun x0 x1 x2 x3 x4 x5 x6 x7 h1 => ∃ b, b < (k - 1) * 1000000 + (700000 + n) ∧ wnI3 a tot h b x0 x1 x2 x3 x4 x5 x6 x7 h1) (fun x0 x1 x2 x3 x4 x5 x6 x7 x8 x9 x10 h1 => ∃ b, b < (k - 1) * 1000000 + (700000 + n) ∧ wnI97 a tot h b x0 x1 x2 x3 x4 x5 x6 x7 x8 x9 x10 h1) (fun x0 x1 x2 x3 x4 x5 x6 x7 x8 x9 x10 h1 => ∃ b, b < (k - 1) * 1000000 + (700000 + n) ∧ wnI146 a tot h b x0 x1 x2 x3 x4 x5 x6 x7 x8 x9 x10 h1) (fun x0 x1 x2 x3 x4 x5 x6 x7 x10 x12 x14 h1 => ∃ b, b < (k - 1) * 1000000 + (700000 + n) ∧ wnI397 a tot h b x0 x1 x2 x3 x4 x5 x6 x7 x10 x12 x14 h1) (fun x0 x1 x2 x3 x4 x5 x6 x7 x14 h1 => ∃ b, b < (k - 1) * 1000000 + (700000 + n) ∧ wnI429 a tot h b x0 x1 x2 x3 x4 x5 x6 x7 x14 h1) (fun x0 x1 x2 x3 x4 x5 x6 x7 x14 h1 => ∃ b, b < (k - 1) * 1000000 + (700000 + n) ∧ wnI458 a tot h b x0 x1 x2 x3 x4 x5 x6 x7 x14 h1) (fun x0 x1 x2 x3 x4 x5 x6 x7 x14 h1 => ∃ b, b < (k - 1) * 1000000 + (700000 + n) ∧ wnI491 a tot h b x0 x1 x2 x3 x4 x5 x6 x7 x14 h1) (wnZ tot h) := by
      intro e y1 e1
      rw [e, List.nil_append] at W
      exact ⟨_, by omega, fr, k, cs, done, 0, W, e1, by omega, rfl⟩
    rcases hx with ⟨rfl, hn1⟩ | ⟨rfl, rfl⟩
    rotate_left
    · refine ⟨fun _ => v426 (by cases a.sm <;> rfl), fun c => absurd (by decide) c⟩
    obtain ⟨q, rfl⟩ : ∃ q, n = q + 1 := ⟨n - 1, by omega⟩
    rw [show q + 1 - 1 = q by omega]
    refine ⟨fun c => absurd c (nI_pos (by omega)), fun _ => ⟨fun c => v426 ?_, fun c => ⟨rfl, _, M_say f' Y (by omega) _, fun h7 hp7 y8 e8 => ?_⟩⟩⟩
    · by_cases hs : a.sm = true
      · rw [if_pos hs] at c; exact absurd c (by decide)
      · rw [if_neg hs]
    · have hs : a.sm = true := by
        by_cases hs : a.sm = true
        · exact hs
        · rw [if_neg hs] at c; exact absurd rfl c
      obtain ⟨Y7, F7⟩ := hp7
      rw [sar_un _ q (by omega)] at Y7
      have W' : wnP a tot h 97 a.c1 (nI a.src.length) a.c3 (nI a.old.length) (nI a.t) (nI a.mk) (nI fr) fr k cs done (lb (lN (adl (a.tgt fr))) q :: (lowL (lN (adl (a.tgt fr))) q ++ (a.dat fr ++ (cs ++ a.adr fr)))) h' := by
        rw [if_pos hs] at W; exact W
      refine ⟨_, ?_, fr, k, cs, done ++ [lb (lN (adl (a.tgt fr))) q], q, ?_, rfl, rfl, by omega, ?_, rfl⟩
      · omega
      · rw [if_pos hs]; exact W'.say Y7 F7
      · cases q with
        | zero => exact Or.inr ⟨by rw [e8]; decide, rfl⟩
        | succ q => exact Or.inl ⟨by rw [e8, addm1]; exact nI_pred q, by omega⟩
  · rintro m x0 x1 x2 x3 x4 x5 x6 x7 x14 h' ⟨fr, k, cs, done, j, W, rfl, hj, rfl⟩
    have fit := W.fit
    obtain ⟨acc', ⟨⟨rfl, rfl, rfl, rfl, rfl, rfl, rfl, rfl, hfk, hk4, z60, F⟩, hk, hfr, hal, et⟩, hcs, ⟨D, C, A⟩, Y, ed, el, hdl, hcl, hadl⟩ := id W
    have f' := F.fin f
    have k47 := fx f' 97 47 118 (by decide +kernel)
    rw [V_X12_windows_429, D.1, nI_leI (by omega) (by omega)]
    refine ⟨rfl, fun c y3 e3 => ?_, fun c => ⟨30000, by rw [k47]; rfl, ?_, _, M_say f' Y ?_ _, fun h11 hp11 y12 e12 => ?_⟩⟩
    · rw [List.drop_eq_nil_of_le (by omega), List.nil_append] at W
      exact ⟨_, by omega, fr, k, cs, done, 0, W, e3, by omega, rfl⟩
    · exact vp_in_nI (by omega) (by decide)
    · rw [drop_c (by omega), List.cons_append] at fit
      rw [List.length_cons] at fit
      omega
    · obtain ⟨Y11, F11⟩ := hp11
      rw [nI_1] at e12
      rw [k47, nI_clamp (by omega), un_b8, D.2 j (by omega), getD_ge (by omega)] at Y11
      rw [drop_c (by omega), List.cons_append] at W
      exact ⟨_, by omega, fr, k, cs, _, j + 1, W.say Y11 F11, e12, by omega, rfl⟩
  · rintro m x0 x1 x2 x3 x4 x5 x6 x7 x14 h' ⟨fr, k, cs, done, j, W, rfl, hj, rfl⟩
    have fit := W.fit
    obtain ⟨acc', ⟨⟨rfl, rfl, rfl, rfl, rfl, rfl, rfl, rfl, hfk, hk4, z60, F⟩, hk, hfr, hal, et⟩, hcs, ⟨D, C, A⟩, Y, ed, el, hdl, hcl, hadl⟩ := id W
    have f' := F.fin f
    have k47 := fx f' 97 47 118 (by decide +kernel)
    rw [V_X12_windows_458, C.1, nI_leI (by omega) (by omega)]
    refine ⟨rfl, fun c y3 e3 => ?_, fun c => ⟨30000, by rw [k47]; rfl, ?_, _, M_say f' Y ?_ _, fun h11 hp11 y12 e12 => ?_⟩⟩
    · rw [List.drop_eq_nil_of_le (by omega), List.nil_append] at W
      exact ⟨_, by omega, fr, k, cs, done, 0, W, e3, by omega, rfl⟩
    · rw [show (10000 : Int32) = nI 10000 from rfl, nI_add]; exact vp_in_nI (by omega) (by decide)
    · rw [drop_c (by omega), List.cons_append] at fit
      rw [List.length_cons] at fit
      omega
    · obtain ⟨Y11, F11⟩ := hp11
      rw [nI_1] at e12
      rw [k47, show (10000 : Int32) = nI 10000 from rfl, nI_add, nI_clamp (by omega), un_b8, C.2 j (by omega), getD_ge (by omega)] at Y11
      rw [drop_c (by omega), List.cons_append] at W
      exact ⟨_, by omega, fr, k, cs, _, j + 1, W.say Y11 F11, e12, by omega, rfl⟩
  · rintro m x0 x1 x2 x3 x4 x5 x6 x7 x14 h' ⟨fr, k, cs, done, j, W, rfl, hj, rfl⟩
    have fit := W.fit
    obtain ⟨acc', ⟨⟨rfl, rfl, rfl, rfl, rfl, rfl, rfl, rfl, hfk, hk4, z60, F⟩, hk, hfr, hal, et⟩, hcs, ⟨D, C, A⟩, Y, ed, el, hdl, hcl, hadl⟩ := id W
    have f' := F.fin f
    have k47 := fx f' 97 47 118 (by decide +kernel)
    rw [V_X12_windows_491, A.1, nI_leI (by omega) (by omega)]
    refine ⟨rfl, fun c y3 e3 => ?_, fun c => ⟨30000, by rw [k47]; rfl, ?_, _, M_say f' Y ?_ _, fun h11 hp11 y12 e12 => ?_⟩⟩
    · rw [List.drop_eq_nil_of_le (by omega), List.append_nil] at ed
      rw [show (2048 : Int32) = nI 2048 from rfl, nI_add] at e3
      have e4 := (wnW.win ⟨⟨rfl, rfl, rfl, rfl, rfl, rfl, rfl, rfl, hfk, hk4, z60, F⟩, hk, hfr, hal, et⟩).2 cs hcs
      have hwl : (a.win fr cs).length ≤ 7200 := winB_len hdl hcl hadl
      rw [ed] at Y
      exact ⟨_, by omega, fr + 2048, k - 1, _, ⟨rfl, rfl, rfl, rfl, rfl, rfl, rfl, e3, by omega, by omega, z60, F⟩, Y, by rw [List.length_append]; omega, e4, rfl⟩
    · rw [show (20000 : Int32) = nI 20000 from rfl, nI_add]; exact vp_in_nI (by omega) (by decide)
    · rw [drop_c (by omega)] at fit
      rw [List.length_cons] at fit
      omega
    · obtain ⟨Y11, F11⟩ := hp11
      rw [nI_1] at e12
      rw [k47, show (20000 : Int32) = nI 20000 from rfl, nI_add, nI_clamp (by omega), un_b8, A.2 j (by omega), getD_ge (by omega)] at Y11
      rw [drop_c (by omega)] at W
      exact ⟨_, by omega, fr, k, cs, _, j + 1, W.say Y11 F11, e12, by omega, rfl⟩
