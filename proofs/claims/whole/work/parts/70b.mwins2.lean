/-! the reference makes its windows: all of them (my own) -/
abbrev WnK : List Nat := [43, 48, 49, 50, 51, 59, 60]
abbrev WnC : List Nat := [115, 118, 119, 120, 121, 122, 123, 124, 125]
def segM (src old : List Nat) (cm : Bool) (fr : Nat) : List Nat := if 0 < old.length then old else if cm = true ∧ 0 < fr then (src.drop (fr - 2048)).take 2048 else []
def tgtM (src : List Nat) (fr : Nat) : List Nat := (src.drop fr).take 2048
def mrkM (old : List Nat) (cm : Bool) (fr : Nat) : Nat := if 0 < old.length then 1 else if cm = true ∧ 0 < fr then 2 else 0
def plcM (old : List Nat) (fr : Nat) : Nat := if 0 < old.length then 0 else fr - 2048
/-- a given making of windows: table, source, old bytes, sums, came, the cells of source and old bytes, the table's number, the marks -/
abbrev WnA : Type := Tb × List Nat × List Nat × Bool × Bool × Nat × Nat × Nat × Nat
abbrev WnA.T (a : WnA) : Tb := a.1
abbrev WnA.src (a : WnA) : List Nat := a.2.1
abbrev WnA.old (a : WnA) : List Nat := a.2.2.1
abbrev WnA.sm (a : WnA) : Bool := a.2.2.2.1
abbrev WnA.cm (a : WnA) : Bool := a.2.2.2.2.1
abbrev WnA.c1 (a : WnA) : Nat := a.2.2.2.2.2.1
abbrev WnA.c3 (a : WnA) : Nat := a.2.2.2.2.2.2.1
abbrev WnA.t (a : WnA) : Nat := a.2.2.2.2.2.2.2.1
abbrev WnA.mk (a : WnA) : Nat := a.2.2.2.2.2.2.2.2
def WnA.seg (a : WnA) (fr : Nat) : List Nat := segM a.src a.old a.cm fr
def WnA.tgt (a : WnA) (fr : Nat) : List Nat := tgtM a.src fr
def WnA.steps (a : WnA) (fr : Nat) : List Sp3 := stepsP (a.seg fr ++ a.tgt fr) (a.tgt fr).length (a.seg fr).length []
def WnA.dat (a : WnA) (fr : Nat) : List Nat := (dataP (a.seg fr ++ a.tgt fr) (a.seg fr).length (a.steps fr)).2
def WnA.adr (a : WnA) (fr : Nat) : List Nat := (modesP a.T.2.1 a.T.2.2 (a.seg fr).length (a.steps fr)).ad
def WnA.win (a : WnA) (fr : Nat) (cs : List Nat) : List Nat := winB (a.seg fr) (a.tgt fr) (mrkM a.old a.cm fr) (plcM a.old fr) a.sm (a.dat fr) cs (a.adr fr)
def wnB (a : WnA) (h : Hp) (x0 x1 : Nat) (x2 : Int32) (x3 : Nat) (x4 x5 x6 x7 : Int32) (fr k : Nat) (h' : Hp) : Prop := x0 = 97 ∧ x1 = a.c1 ∧ x2 = nI a.src.length ∧ x3 = a.c3 ∧ x4 = nI a.old.length ∧ x5 = nI a.t ∧ x6 = nI a.mk ∧ x7 = nI fr ∧ fr = (4 - k) * 2048 ∧ k ≤ 4 ∧ h'.1 97 60 = 0 ∧ Fm WnK WnC [] h h'
def wnI3 (a : WnA) (tot : Option (List Nat)) (h : Hp) (m x0 x1 : Nat) (x2 : Int32) (x3 : Nat) (x4 x5 x6 x7 : Int32) (h' : Hp) : Prop := ∃ fr k acc, wnB a h x0 x1 x2 x3 x4 x5 x6 x7 fr k h' ∧ FlV h' acc ∧ acc.length ≤ 4000 + (4 - k) * 7200 ∧ winsM a.T a.src a.old a.sm a.cm k fr acc = tot ∧ m = k * 1000000
/-- inside a window -/
def wnW (a : WnA) (tot : Option (List Nat)) (h : Hp) (x0 x1 : Nat) (x2 : Int32) (x3 : Nat) (x4 x5 x6 x7 : Int32) (fr k : Nat) (acc : List Nat) (h' : Hp) : Prop := wnB a h x0 x1 x2 x3 x4 x5 x6 x7 fr k h' ∧ 1 ≤ k ∧ fr < a.src.length ∧ acc.length ≤ 4000 + (4 - k) * 7200 ∧ winsM a.T a.src a.old a.sm a.cm k fr acc = tot
def wnI97 (a : WnA) (tot : Option (List Nat)) (h : Hp) (m x0 x1 : Nat) (x2 : Int32) (x3 : Nat) (x4 x5 x6 x7 x8 x9 x10 : Int32) (h' : Hp) : Prop := ∃ fr k acc j, wnW a tot h x0 x1 x2 x3 x4 x5 x6 x7 fr k acc h' ∧ FlV h' acc ∧ x8 = nI (a.tgt fr).length ∧ x9 = nI (mrkM a.old a.cm fr) ∧ h'.1 97 59 = nI (a.seg fr).length ∧ x10 = nI j ∧ j ≤ (a.seg fr).length ∧ ByV h' 125 ((a.seg fr).take j) ∧ m = (k - 1) * 1000000 + (900000 - j)
def wnI146 (a : WnA) (tot : Option (List Nat)) (h : Hp) (m x0 x1 : Nat) (x2 : Int32) (x3 : Nat) (x4 x5 x6 x7 x8 x9 x10 : Int32) (h' : Hp) : Prop := ∃ fr k acc j, wnW a tot h x0 x1 x2 x3 x4 x5 x6 x7 fr k acc h' ∧ FlV h' acc ∧ x8 = nI (a.tgt fr).length ∧ x9 = nI (mrkM a.old a.cm fr) ∧ h'.1 97 59 = nI (a.seg fr).length ∧ x10 = nI j ∧ j ≤ (a.tgt fr).length ∧ ByV h' 125 (a.seg fr ++ (a.tgt fr).take j) ∧ m = (k - 1) * 1000000 + (800000 - j)
/-- while the parts are said: what is said, what is still to say -/
def wnP (a : WnA) (tot : Option (List Nat)) (h : Hp) (x0 x1 : Nat) (x2 : Int32) (x3 : Nat) (x4 x5 x6 x7 : Int32) (fr k : Nat) (cs done rest : List Nat) (h' : Hp) : Prop := ∃ acc, wnW a tot h x0 x1 x2 x3 x4 x5 x6 x7 fr k acc h' ∧ winCs a.T (a.seg fr) (a.tgt fr) = some cs ∧ ptV h' (a.dat fr) cs (a.adr fr) ∧ FlV h' done ∧ done ++ rest = acc ++ a.win fr cs ∧ (acc ++ a.win fr cs).length ≤ 39000 ∧ (a.dat fr).length ≤ 2048 ∧ cs.length ≤ 3000 ∧ (a.adr fr).length ≤ 2000
def wnI397 (a : WnA) (tot : Option (List Nat)) (h : Hp) (m x0 x1 : Nat) (x2 : Int32) (x3 : Nat) (x4 x5 x6 x7 x10 : Int32) (x12 : Int64) (x14 : Int32) (h' : Hp) : Prop := ∃ fr k cs done n, wnP a tot h x0 x1 x2 x3 x4 x5 x6 x7 fr k cs done ((if a.sm = true then lowL (lN (adl (a.tgt fr))) n else []) ++ (a.dat fr ++ (cs ++ a.adr fr))) h' ∧ x10 = (if a.sm = true then 1 else 0) ∧ x12 = lN (adl (a.tgt fr)) ∧ n ≤ 4 ∧ (x14 = nI (n - 1) ∧ 1 ≤ n ∨ x14 = -1 ∧ n = 0) ∧ m = (k - 1) * 1000000 + (700000 + n)
def wnI429 (a : WnA) (tot : Option (List Nat)) (h : Hp) (m x0 x1 : Nat) (x2 : Int32) (x3 : Nat) (x4 x5 x6 x7 x14 : Int32) (h' : Hp) : Prop := ∃ fr k cs done j, wnP a tot h x0 x1 x2 x3 x4 x5 x6 x7 fr k cs done ((a.dat fr).drop j ++ (cs ++ a.adr fr)) h' ∧ x14 = nI j ∧ j ≤ (a.dat fr).length ∧ m = (k - 1) * 1000000 + (600000 - j)
def wnI458 (a : WnA) (tot : Option (List Nat)) (h : Hp) (m x0 x1 : Nat) (x2 : Int32) (x3 : Nat) (x4 x5 x6 x7 x14 : Int32) (h' : Hp) : Prop := ∃ fr k cs done j, wnP a tot h x0 x1 x2 x3 x4 x5 x6 x7 fr k cs done (cs.drop j ++ a.adr fr) h' ∧ x14 = nI j ∧ j ≤ cs.length ∧ m = (k - 1) * 1000000 + (500000 - j)
def wnI491 (a : WnA) (tot : Option (List Nat)) (h : Hp) (m x0 x1 : Nat) (x2 : Int32) (x3 : Nat) (x4 x5 x6 x7 x14 : Int32) (h' : Hp) : Prop := ∃ fr k cs done j, wnP a tot h x0 x1 x2 x3 x4 x5 x6 x7 fr k cs done ((a.adr fr).drop j) h' ∧ x14 = nI j ∧ j ≤ (a.adr fr).length ∧ m = (k - 1) * 1000000 + (400000 - j)
def wnZ (tot : Option (List Nat)) (h h1 : Hp) : Prop := (match tot with
  | none => h1.1 97 60 = 1
  | some l => h1.1 97 60 = 0 ∧ FlV h1 l ∧ l.length ≤ 33000) ∧ Fm WnK WnC [] h h1
theorem wnW.win {a : WnA} {tot : Option (List Nat)} {h h' : Hp} {x0 x1 : Nat} {x2 : Int32} {x3 : Nat} {x4 x5 x6 x7 : Int32} {fr k : Nat} {acc : List Nat} (X : wnW a tot h x0 x1 x2 x3 x4 x5 x6 x7 fr k acc h') : (winCs a.T (a.seg fr) (a.tgt fr) = none → tot = none) ∧ ∀ cs, winCs a.T (a.seg fr) (a.tgt fr) = some cs → winsM a.T a.src a.old a.sm a.cm (k - 1) (fr + 2048) (acc ++ a.win fr cs) = tot := by
  obtain ⟨-, hk, hfr, -, et⟩ := X
  rw [show k = (k - 1) + 1 by omega, winsM, if_pos hfr] at et
  refine ⟨fun hn => ?_, fun cs hc => ?_⟩
  · have : winM a.T (if 0 < a.old.length then a.old else if a.cm = true ∧ 0 < fr then (a.src.drop (fr - 2048)).take 2048 else []) ((a.src.drop fr).take 2048) (if 0 < a.old.length then 1 else if a.cm = true ∧ 0 < fr then 2 else 0) (if 0 < a.old.length then 0 else fr - 2048) a.sm = none := winM_none hn
    rw [this] at et
    exact et.symm
  · have : winM a.T (if 0 < a.old.length then a.old else if a.cm = true ∧ 0 < fr then (a.src.drop (fr - 2048)).take 2048 else []) ((a.src.drop fr).take 2048) (if 0 < a.old.length then 1 else if a.cm = true ∧ 0 < fr then 2 else 0) (if 0 < a.old.length then 0 else fr - 2048) a.sm = some (a.win fr cs) := winM_some hc
    rw [this] at et
    exact et
theorem wnP.say {a : WnA} {tot : Option (List Nat)} {h h' h1 : Hp} {x0 x1 : Nat} {x2 : Int32} {x3 : Nat} {x4 x5 x6 x7 : Int32} {fr k : Nat} {cs done rest : List Nat} {b : Nat} (X : wnP a tot h x0 x1 x2 x3 x4 x5 x6 x7 fr k cs done (b :: rest) h') (Y : FlV h1 (done ++ [b])) (F : Fm [43] [115] [] h' h1) : wnP a tot h x0 x1 x2 x3 x4 x5 x6 x7 fr k cs (done ++ [b]) rest h1 := by
  obtain ⟨acc, ⟨⟨b1, b2, b3, b4, b5, b6, b7, b8, b9, b10, b11, b12⟩, w2⟩, q1, q2, q3, q4, q5⟩ := X
  refine ⟨acc, ⟨⟨b1, b2, b3, b4, b5, b6, b7, b8, b9, b10, by rw [F.2.2.2 60 (by simp)]; exact b11, b12.tr (F.mono (by simp) (by simp) (by simp))⟩, w2⟩, q1, q2.fm F, Y, ?_, q5⟩
  rw [List.append_assoc]; exact q4
theorem wnP.fit {a : WnA} {tot : Option (List Nat)} {h h' : Hp} {x0 x1 : Nat} {x2 : Int32} {x3 : Nat} {x4 x5 x6 x7 : Int32} {fr k : Nat} {cs done rest : List Nat} (X : wnP a tot h x0 x1 x2 x3 x4 x5 x6 x7 fr k cs done rest h') : done.length + rest.length ≤ 39000 := by
  obtain ⟨acc, -, -, -, -, q4, q5, -⟩ := X
  rw [← q4, List.length_append] at q5
  exact q5
theorem tgt_len {a : WnA} {fr : Nat} : (a.tgt fr).length = min 2048 (a.src.length - fr) := by
  show ((a.src.drop fr).take 2048).length = _
  simp
theorem seg_cs {a : WnA} {fr k : Nat} (hfr : fr < a.src.length) (e : fr = (4 - k) * 2048) (ho : a.old.length ≤ 4000) : (mrkM a.old a.cm fr = 0 ∧ a.seg fr = [] ∨ mrkM a.old a.cm fr = 1 ∧ 0 < (a.seg fr).length ∧ plcM a.old fr = 0 ∨ mrkM a.old a.cm fr = 2 ∧ 0 < (a.seg fr).length ∧ 2048 ≤ fr ∧ plcM a.old fr = fr - 2048) ∧ (a.seg fr).length ≤ 4000 ∧ (mrkM a.old a.cm fr = 1 → a.seg fr = a.old) ∧ (mrkM a.old a.cm fr = 2 → a.seg fr = (a.src.drop (fr - 2048)).take 2048 ∧ (a.seg fr).length = 2048) := by
  have es : a.seg fr = segM a.src a.old a.cm fr := rfl
  rw [es]
  unfold segM mrkM plcM
  by_cases h1 : 0 < a.old.length
  · simp only [if_pos h1]
    exact ⟨Or.inr (Or.inl ⟨trivial, h1, trivial⟩), ho, fun _ => trivial, fun q => absurd q (by decide)⟩
  · simp only [if_neg h1]
    by_cases h2 : a.cm = true ∧ 0 < fr
    · simp only [if_pos h2]
      have hl : ((a.src.drop (fr - 2048)).take 2048).length = 2048 := by simp; omega
      exact ⟨Or.inr (Or.inr ⟨trivial, by omega, by omega, trivial⟩), by omega, fun q => absurd q (by decide), fun _ => ⟨trivial, hl⟩⟩
    · simp only [if_neg h2]
      exact ⟨Or.inl ⟨trivial, trivial⟩, by simp, fun q => absurd q (by decide), fun q => absurd q (by decide)⟩
/-- what the cells hold throughout -/
def wnH (a : WnA) (N1 N3 : Nat) (h : Hp) : Prop := Fin h ∧ EntV h a.t a.T ∧ a.t < 4 ∧ shAt SH a.c1 = some (.inl (0, N1)) ∧ a.src.length ≤ N1 ∧ N1 < 2 ^ 30 ∧ ByV h a.c1 a.src ∧ a.c1 ≠ 97 ∧ a.c1 ∉ WnC ∧ shAt SH a.c3 = some (.inl (0, N3)) ∧ a.old.length ≤ N3 ∧ N3 < 2 ^ 30 ∧ ByV h a.c3 a.old ∧ a.c3 ≠ 97 ∧ a.c3 ∉ WnC ∧ a.src.length ≤ 6000 ∧ a.old.length ≤ 4000 ∧ a.mk < 8 ∧ a.sm = decide (a.mk % 2 = 1) ∧ a.cm = decide (4 ≤ a.mk)
theorem wnH.fm {a : WnA} {N1 N3 : Nat} {h h1 : Hp} (X : wnH a N1 N3 h) (F : Fm WnK WnC [] h h1) : wnH a N1 N3 h1 := by
  obtain ⟨q1, q2, q3, q4, q5, q6, q7, q8, q9, q10, q11, q12, q13, q14, q15, q16⟩ := X
  exact ⟨F.fin q1, q2.fm F (by simp) (by simp) (by simp), q3, q4, q5, q6, F.by_ q7 q8 q9, q8, q9, q10, q11, q12, F.by_ q13 q14 q15, q14, q15, q16⟩
/-- the space is laid: the steps, the modes, the parts, the head -/
theorem M_wn146 {w : Wd} {a : WnA} {N1 N3 : Nat} {tot : Option (List Nat)} {h h' : Hp} {fr k : Nat} {acc : List Nat} {M : Nat} {L97 L146 : Nat → Nat → Int32 → Nat → Int32 → Int32 → Int32 → Int32 → Int32 → Int32 → Int32 → Hp → Prop} {L3 : Nat → Nat → Int32 → Nat → Int32 → Int32 → Int32 → Int32 → Hp → Prop} {L429 L458 L491 : Nat → Nat → Int32 → Nat → Int32 → Int32 → Int32 → Int32 → Int32 → Hp → Prop} (H : wnH a N1 N3 h) (W : wnW a tot h 97 a.c1 (nI a.src.length) a.c3 (nI a.old.length) (nI a.t) (nI a.mk) (nI fr) fr k acc h') (X : FlV h' acc) (h59 : h'.1 97 59 = nI (a.seg fr).length) (B : ByV h' 125 (a.seg fr ++ a.tgt fr)) (hM : (k - 1) * 1000000 + 700004 < M) : ∃ P3 : Hp → Prop, C_X12_findSteps w SH 97 (nI (a.tgt fr).length) h' P3 ∧ ∀ h6, P3 h6 → ∃ P7 : Hp → Prop, C_X12_findModes w SH 97 (nI a.t) h6 P7 ∧ ∀ h10, P7 h10 → ∃ P11 : Hp → Prop, C_X12_sayParts w SH 97 (nI a.t) h10 P11 ∧ ∀ h14, P11 h14 → (h14.1 97 60 = 0 → ((nI a.mk &&& 1 ≤ 0 → V_X12_windows_216 w SH 97 a.c1 (nI a.src.length) a.c3 (nI a.old.length) (nI a.t) (nI a.mk) (nI fr) (nI (a.tgt fr).length) (nI (mrkM a.old a.cm fr)) 0 h14 L3 L97 L146 (fun x0 x1 x2 x3 x4 x5 x6 x7 x10 x12 x14 h1 => ∃ b, b < M ∧ wnI397 a tot h b x0 x1 x2 x3 x4 x5 x6 x7 x10 x12 x14 h1) L429 L458 L491 (wnZ tot h)) ∧ (¬ nI a.mk &&& 1 ≤ 0 → V_X12_windows_216 w SH 97 a.c1 (nI a.src.length) a.c3 (nI a.old.length) (nI a.t) (nI a.mk) (nI fr) (nI (a.tgt fr).length) (nI (mrkM a.old a.cm fr)) 1 h14 L3 L97 L146 (fun x0 x1 x2 x3 x4 x5 x6 x7 x10 x12 x14 h1 => ∃ b, b < M ∧ wnI397 a tot h b x0 x1 x2 x3 x4 x5 x6 x7 x10 x12 x14 h1) L429 L458 L491 (wnZ tot h)))) ∧ (¬ h14.1 97 60 = 0 → wnZ tot h h14) := by
  obtain ⟨⟨-, -, -, -, -, -, -, -, hfk, hk4, h60, F⟩, hk, hfr, hal, et⟩ := id W
  have ww := wnW.win W
  have H' := H.fm F
  obtain ⟨f', V', ht, -, -, -, -, -, -, -, -, -, -, -, -, hsrc, hold, hmk, hsm, -⟩ := H'
  obtain ⟨sg1, sg2, -, -⟩ := seg_cs (a := a) hfr hfk hold
  have htl := tgt_len (a := a) (fr := fr)
  have hsp : (a.seg fr ++ a.tgt fr).length = (a.seg fr).length + (a.tgt fr).length := List.length_append
  have S' : SpV h' (a.seg fr ++ a.tgt fr) := ⟨B, by omega⟩
  obtain ⟨I, hsS⟩ := stepsP_StI (sp := a.seg fr ++ a.tgt fr) (beg := (a.seg fr).length) (by omega) (k := (a.tgt fr).length) (p := (a.seg fr).length) StI.nil (by show _ = _ + 0; omega) (by omega) (by omega)
  have hA := stepsP_adr (sp := a.seg fr ++ a.tgt fr) (beg := (a.seg fr).length) (by omega) (k := (a.tgt fr).length) (p := (a.seg fr).length) StI.nil adrOk.nil (by show _ = _ + 0; omega)
  have est : stepsP (a.seg fr ++ a.tgt fr) (a.tgt fr).length (a.seg fr).length [] = a.steps fr := rfl
  rw [est] at I hsS hA
  have hN := V'.2.2.2.1
  have hS := V'.2.2.2.2.1
  have hll := I.len (by omega)
  have hmo := modesP_ok (N := a.T.2.1) (S := a.T.2.2) (beg := (a.seg fr).length) (L := a.steps fr) I.adr (by omega)
  have hml := modesP_len a.T.2.1 a.T.2.2 (a.seg fr).length (a.steps fr)
  have hsml : Sml (a.steps fr) (modesP a.T.2.1 a.T.2.2 (a.seg fr).length (a.steps fr)).md := by
    intro i hi
    have hok := I.get hi
    have hms := mem_sum (L := a.steps fr) (x := (a.steps fr).getD i (0, 0, 0)) (by rw [List.getD_eq_getElem?_getD, List.getElem?_eq_getElem hi]; exact List.getElem_mem _)
    refine ⟨by rcases hok.1 with q | q <;> omega, by omega, ?_⟩
    rw [List.getD_eq_getElem?_getD, List.getElem?_eq_getElem (by omega)]
    have := hmo.2 _ (List.getElem_mem (l := (modesP a.T.2.1 a.T.2.2 (a.seg fr).length (a.steps fr)).md) (n := i) (by omega))
    show (modesP a.T.2.1 a.T.2.2 (a.seg fr).length (a.steps fr)).md[i] < _
    omega
  have fs := M_findSteps (w := w) (sp := a.seg fr ++ a.tgt fr) (beg := (a.seg fr).length) f' S' h59 (by omega) (by omega)
  rw [show (a.seg fr ++ a.tgt fr).length - (a.seg fr).length = (a.tgt fr).length by omega, est] at fs
  refine ⟨_, fs, fun h6 hp6 => ?_⟩
  obtain ⟨X6, F6⟩ := hp6
  have f6 := F6.fin f'
  have V6 := V'.fm F6 (by simp) (by simp) (by simp)
  refine ⟨_, M_findModes f6 X6 I hA (by omega) hll ht V6.2.1 V6.2.2.1 hN hS (by rw [F6.2.2.2 59 (by simp)]; exact h59), fun h10 hp10 => ?_⟩
  obtain ⟨X10, A10, F10⟩ := hp10
  have f10 := F10.fin f6
  have V10 := V6.fm F10 (by simp) (by simp) (by simp)
  have S10 := (S'.fm F6 (by simp)).fm F10 (by simp)
  refine ⟨_, M_sayParts f10 ht V10 S10 X10 I A10 (by rw [F10.2.2.2 59 (by simp), F6.2.2.2 59 (by simp)]; exact h59) (by rw [F10.2.2.2 60 (by simp), F6.2.2.2 60 (by simp)]; exact h60) hsml (by omega) (by omega), fun h14 hp14 => ?_⟩
  have ecs : codesM a.T (movesP (a.steps fr) (modesP a.T.2.1 a.T.2.2 (a.seg fr).length (a.steps fr)).md) (a.steps fr).length 0 [] = winCs a.T (a.seg fr) (a.tgt fr) := rfl
  have edt : (dataP (a.seg fr ++ a.tgt fr) (a.seg fr).length (a.steps fr)).2 = a.dat fr := rfl
  have ead : (modesP a.T.2.1 a.T.2.2 (a.seg fr).length (a.steps fr)).ad = a.adr fr := rfl
  obtain ⟨hp14, F14⟩ := hp14
  have F10' : Fm [50, 51] (FK ++ FJ) [] h' h10 := (F6.mono (by simp) (by simp) (by simp)).tr (F10.mono (by simp) (by simp) (by simp))
  have G14 : Fm WnK WnC [] h h14 := (F.tr (F10'.mono (by simp) (by simp) (by simp))).tr (F14.mono (by simp) (by simp) (by simp))
  have hcl := fun cs q => codesM_len (T := a.T) (M := movesP (a.steps fr) (modesP a.T.2.1 a.T.2.2 (a.seg fr).length (a.steps fr)).md) (fun i hi => by
    rw [movesP_len] at hi
    rw [movesP_get hi]
    have hms := mem_sum (L := a.steps fr) (x := (a.steps fr).getD i (0, 0, 0)) (by rw [List.getD_eq_getElem?_getD, List.getElem?_eq_getElem hi]; exact List.getElem_mem _)
    show ((a.steps fr).getD i (0, 0, 0)).2.1 < 16384
    omega) (k := (a.steps fr).length) (i := 0) (acc := []) (cs := cs) q
  have hdl := dataP_len (sp := a.seg fr ++ a.tgt fr) (L := a.steps fr) (p := (a.seg fr).length) I.sizes
  rw [ecs, edt, ead] at hp14
  rw [edt] at hdl
  rw [ead] at hmo
  rw [movesP_len] at hcl
  cases hcs : winCs a.T (a.seg fr) (a.tgt fr) with
  | none =>
    rw [hcs] at hp14
    have hp14 : h14.1 97 60 = 1 := hp14
    have e := ww.1 hcs
    refine ⟨fun c => absurd (hp14.symm.trans c) (by decide), fun _ => ?_⟩
    rw [e]
    exact ⟨hp14, G14⟩
  | some cs =>
    rw [hcs] at hp14
    obtain ⟨z60, C14, D14, A14⟩ := hp14
    refine ⟨fun _ => ?_, fun c => absurd z60 c⟩
    have hcl' := hcl cs (ecs.trans hcs)
    rw [List.length_nil] at hcl'
    have X14 : FlV h14 acc := (X.fm F10' (by simp) (by simp)).fm F14 (by simp) (by simp)
    -- 43 is not touched
    have f14 := G14.fin H.1
    have S14 := S10.fm F14 (by simp)
    have e59 : h14.1 97 59 = nI (a.seg fr).length := by rw [F14.2.2.2 59 (by simp), F10'.2.2.2 59 (by simp)]; exact h59
    have hwl : (a.win fr cs).length ≤ 7200 := winB_len (by omega) (by omega) (by omega)
    have go : ∀ s0 : Int32, s0 = (if a.sm = true then 1 else 0) → V_X12_windows_216 w SH 97 a.c1 (nI a.src.length) a.c3 (nI a.old.length) (nI a.t) (nI a.mk) (nI fr) (nI (a.tgt fr).length) (nI (mrkM a.old a.cm fr)) s0 h14 L3 L97 L146 (fun x0 x1 x2 x3 x4 x5 x6 x7 x10 x12 x14 h1 => ∃ b, b < M ∧ wnI397 a tot h b x0 x1 x2 x3 x4 x5 x6 x7 x10 x12 x14 h1) L429 L458 L491 (wnZ tot h) := by
      intro s0 hs0
      refine M_wn216 (seg := a.seg fr) (tgt := a.tgt fr) (d := a.dat fr) (cs := cs) (ad := a.adr fr) (place := plcM a.old fr) (sm := a.sm) f14 X14 ⟨D14, C14, A14⟩ S14 e59 hs0 (by omega) (by omega) (by omega) (by omega) (by omega) sg1 fun h2 X2 F2 => ?_
      have F2' : Fm WnK WnC [] h h2 := G14.tr (F2.mono (by simp) (by simp) (by simp))
      refine ⟨_, hM, fr, k, cs, _, 4, ⟨acc, ⟨⟨rfl, rfl, rfl, rfl, rfl, rfl, rfl, rfl, hfk, hk4, by rw [F2.2.2.2 60 (by simp)]; exact z60, F2'⟩, hk, hfr, hal, et⟩, hcs, ptV.fm ⟨D14, C14, A14⟩ F2, X2, ?_, by rw [List.length_append]; omega, by omega, by omega, by omega⟩, hs0, rfl, by omega, Or.inl ⟨rfl, by omega⟩, rfl⟩
      rw [List.append_assoc]
      rfl
    rw [and1z hmk]
    refine ⟨fun c => go 0 ?_, fun c => go 1 ?_⟩
    · rw [hsm, decide_eq_false c]; rfl
    · rw [hsm, decide_eq_true (Decidable.not_not.mp c)]; rfl
