/-! the reference: open (my own) -/
def OpEndM (h : Hp) (s : St) (r : Int32) (h1 : Hp) : Prop := r = (openF s).1 ∧ MS h1 (openF s).2 ∧ Ag MCells h h1
theorem Taken.mf {b : Nat} {h h1 : Hp} {a : Nat} (K : Taken a b h h1) (hb : b = 1 ∨ b = 3) : MFr h h1 := ⟨fun c hc => K.1.2.2 c (by simp at hc; simp; omega), fun c _ => by rw [K.1.2.1], fun c k _ => by rw [K.1.1], fun k _ => by rw [K.1.2.2 97 (by decide)], fun t T ht V => K.other V (by omega)⟩
/-- the own file's windows begin -/
theorem MP.begin {h h1 : Hp} {e : Nat} {src old : List Nat} {T : Tb} {s : Ost} (X : MP h e src T s) (r4 : h.2.1 97 4 = 100) (r20 : h.2.1 97 20 = 105) (i5 : h.1 97 5 = nI old.length) (B : ByV h 100 old) (hl : old.length ≤ 4000) (hob : ∀ b ∈ old, b < 256) (e1 : h1 = wI (wR (wI (wR h 97 16 100) 97 17 (nI old.length)) 97 22 105) 97 23 0) : MH h1 1 105 e true src old T s ∧ MFr h h1 := by
  obtain ⟨x1, x2, x3, x4, x5, x6, x7, x8, x9, x10, x11, x12⟩ := X
  have ci : ∀ c, c ≠ 97 → h1.1 c = h.1 c := by
    intro c hc
    rw [e1, wI_cell hc]
    show (wI (wR h 97 16 100) 97 17 (nI old.length)).1 c = _
    rw [wI_cell hc]; rfl
  have ck : ∀ k, k ≠ 17 → k ≠ 23 → h1.1 97 k = h.1 97 k := by
    intro k a b
    rw [e1, wI_idx b]
    show (wI (wR h 97 16 100) 97 17 (nI old.length)).1 97 k = _
    rw [wI_idx a]; rfl
  have rr : ∀ c k, (c, k) ≠ (97, 16) → (c, k) ≠ (97, 22) → h1.2.1 c k = h.2.1 c k := by
    intro c k a b
    rw [e1]
    show (wR (wI (wR h 97 16 100) 97 17 (nI old.length)) 97 22 105).2.1 c k = _
    rw [wR_cellx b]
    show (wR h 97 16 100).2.1 c k = _
    rw [wR_cellx a]
  have lj : h1.2.2 = h.2.2 := by rw [e1]; rfl
  have f1 : Fin h1 := fun z hz => by
    rw [rr z.1 z.2.1 (fun a => (show ∀ z ∈ FINS, (z.1, z.2.1) ≠ (97, 16) by decide +kernel) z hz a) (fun a => (show ∀ z ∈ FINS, (z.1, z.2.1) ≠ (97, 22) by decide +kernel) z hz a)]
    exact x1.1 z hz
  have VV : ∀ t T, EntV h t T → EntV h1 t T := fun t T V => V.of (fun k _ => by rw [ci 101 (by decide)]) (by rw [ci 102 (by decide)]) (by rw [ci 103 (by decide)])
  refine ⟨MH.of ⟨⟨f1, by rw [rr 97 13 (by decide) (by decide)]; exact x1.2.1, x1.2.2.1.of (ci 98 (by decide)), x1.2.2.2⟩, ⟨by decide, VV 1 _ x2⟩, by rw [ck 14 (by decide) (by decide)]; exact x5.1, by rw [ck 15 (by decide) (by decide)]; exact x4.1, ?_, by rw [ck 18 (by decide) (by decide)]; exact x4.2.1, by rw [ck 19 (by decide) (by decide)]; exact x4.2.2, ?_, by rw [ck 29 (by decide) (by decide), x8, x10.2.2.2.2.2]; rfl, Or.inl ⟨?_, hl, B.of (ci 100 (by decide))⟩, ⟨Or.inl rfl, ?_⟩, ?_, ?_, ?_, ?_, ?_, ?_, x5.2, ?_, ?_, ?_, x11, ⟨by rw [ck 6 (by decide) (by decide)]; exact x12.1, x12.2.1, fun q => by rw [ck 7 (by decide) (by decide)]; exact x12.2.2 q⟩, hob⟩, ⟨fun c hc => ci c (fun a => hc (by simp [a])), fun c _ => by rw [lj], fun c k hc => rr c k (fun a => hc (by simp [a])) (fun a => hc (by simp [a])), fun k hk => ck k (fun a => by simp [a] at hk) (fun a => by simp [a] at hk), fun t T _ V => VV t T V⟩⟩
  · rw [e1, wI_idx (by decide)]
    show (wI (wR h 97 16 100) 97 17 (nI old.length)).1 97 17 = _
    rw [wI_same]
  · rw [e1, wI_same, x10.2.2.1]; rfl
  · rw [e1]
    show (wR (wI (wR h 97 16 100) 97 17 (nI old.length)) 97 22 105).2.1 97 16 = _
    rw [wR_cellx (by decide)]
    show (wR h 97 16 100).2.1 97 16 = _
    rw [wR_samex]
  · rw [e1]
    show (wR (wI (wR h 97 16 100) 97 17 (nI old.length)) 97 22 105).2.1 97 22 = _
    rw [wR_samex]
  · rw [x10.2.2.1]; exact fun j hj => absurd hj (by simp)
  · rw [x10.2.2.1]; exact ⟨by simp, fun b hb => by cases hb⟩
  · intro i hi
    have := x2.2.2.2.1
    rw [lj, x6 i (by omega), x10.2.2.2.1]; rfl
  · intro i hi
    have := x2.2.2.2.2.1
    rw [lj, x7 i (by omega), x10.2.2.2.2.1]; rfl
  · intro j hj
    rw [ci 110 (by decide)]; exact x9 j hj
  · rw [x10.2.1]
    have a := x10.1
    unfold ActV at a ⊢
    rw [ck 31 (by decide) (by decide), ci 111 (by decide), ci 112 (by decide), ci 113 (by decide), ci 114 (by decide)]
    exact a
  · rw [x10.2.2.2.1]; exact fun _ => (by show (0 : Nat) < 16000; decide)
  · rw [x10.2.2.2.2.1]; exact fun _ => (by show (0 : Nat) < 16000; decide)
  · rw [x10.2.2.2.2.2]; omega
/-- what stands when the windows are through -/
def MZ (h hA : Hp) (row came old : List Nat) (g : Tb) : Prop := Fin hA ∧ (hA.1 97 1 = nI row.length ∧ ByV hA 98 row ∧ row.length ≤ 8000) ∧ (hA.1 97 3 = nI came.length ∧ ByV hA 99 came ∧ came.length ≤ 8000) ∧ (hA.1 97 5 = nI old.length ∧ ByV hA 100 old ∧ old.length ≤ 4000) ∧ EntV hA 0 (UBy, 4, 3) ∧ EntV hA 2 g ∧ ByV hA 104 UBy ∧ hA.1 97 8 = -1 ∧ Ag MCells h hA
theorem MZ.fin {h hA h2 : Hp} {row came old : List Nat} {g : Tb} (Z : MZ h hA row came old g) (M : MFr hA h2) {e : Nat} {T : Tb} {s : Ost} (X : MH h2 1 105 e true row old T s) : Fin h2 ∧ MA h2 row came old ∧ MO h2 g (T, s.tl, s.ac, s.nr, s.sm, -1) ∧ Ag MCells h h2 := by
  obtain ⟨z1, z2, z3, z4, z5, z6, z7, z8, z9⟩ := Z
  refine ⟨M.fin z1, ⟨⟨by rw [M.2.2.2.1 1 (by simp)]; exact z2.1, z2.2.1.of (M.1 98 (by decide)), z2.2.2⟩, ⟨by rw [M.2.2.2.1 3 (by simp)]; exact z3.1, z3.2.1.of (M.1 99 (by decide)), z3.2.2⟩, ⟨by rw [M.2.2.2.1 5 (by simp)]; exact z4.1, z4.2.1.of (M.1 100 (by decide)), z4.2.2⟩⟩, ⟨M.2.2.2.2 0 _ (Or.inl rfl) z5, M.2.2.2.2 2 _ (Or.inr rfl) z6, X.t.2, z7.of (M.1 104 (by decide)), X.tl, X.ac, X.nr, X.sm, by rw [M.2.2.2.1 8 (by simp)]; exact z8⟩, z9.tr fun c hc => ?_⟩
  have nc : ¬ (97 ≤ c ∧ c ≤ 125) := fun q => hc (mem_M q.1 q.2)
  exact ⟨M.1 c (by simp; omega), funext fun k => M.2.2.1 c k (by simp; omega), M.2.1 c (by simp; omega)⟩
noncomputable def N7 (hA : Hp) (row old : List Nat) (m x0 : Nat) (h2 : Hp) : Prop := x0 = 97 ∧ ∃ (hb : Hp) (tot : Ost) (p' m' : Nat), m = 10000 + m' ∧ MFr hA hb ∧ tot = (openP old row).2.sfa p' ∧ WI hb 1 105 row.length true row old (openP old row).1 tot m' h2
noncomputable def N9 (h : Hp) (row came old : List Nat) (g : Tb) (m x0 : Nat) (x2 : Int32) (h2 : Hp) : Prop := x0 = 97 ∧ (openP old row).2.ft = 0 ∧ ∃ k, x2 = nI k ∧ k ≤ (openP old row).2.out.length ∧ (openP old row).2.out.length ≤ 8000 ∧ m = (openP old row).2.out.length - k ∧ Fin h2 ∧ (h2.1 97 1 = nI row.length ∧ ByV h2 98 row ∧ row.length ≤ 8000) ∧ (h2.1 97 5 = nI old.length ∧ ByV h2 100 old ∧ old.length ≤ 4000) ∧ MO h2 g ((openP old row).1, (openP old row).2.tl, (openP old row).2.ac, (openP old row).2.nr, (openP old row).2.sm, -1) ∧ Ag MCells h h2 ∧ h2.1 97 23 = nI (openP old row).2.out.length ∧ ByV h2 105 (openP old row).2.out ∧ ByV h2 99 ((openP old row).2.out.take k)
theorem M_o197 {w : Wd} {h h2 : Hp} {row came old : List Nat} {g : Tb} {o : OI} {L54 : Nat → Int32 → Hp → Prop} {L147 : Nat → Hp → Prop} {m x0 : Nat} {x2 : Int32} (I : N9 h row came old g m x0 x2 h2) : V_X12_open_197 w SH x0 x2 h2 L54 L147 (fun x0 x2 h3 => ∃ a, a < m ∧ N9 h row came old g a x0 x2 h3) (OpEndM h (row, came, old, g, o)) := by
  obtain ⟨rfl, h0, k, rfl, hk, hl, rfl, f, a1, a5, mo, ag, i23, B, C⟩ := I
  have k20 := fx f 97 20 105 (by decide +kernel)
  have k2 := fx f 97 2 99 (by decide +kernel)
  rw [V_X12_open_197, i23, nI_leI (by omega) (by omega), k20, k2, nI_clamp (by omega)]
  refine ⟨rfl, fun c7 h3 e3 => ?_, fun c7 => ⟨8000, rfl, vp_in_nI (by omega) (by decide), 8000, rfl, vp_in_nI (by omega) (by decide), fun h11 e11 y13 e13 => ?_⟩⟩
  · have hk2 : k = (openP old row).2.out.length := by omega
    rw [hk2, List.take_length] at C
    have eF : openF (row, came, old, g, o) = (nI (openP old row).2.out.length, (row, (openP old row).2.out, old, g, ((openP old row).1, (openP old row).2.tl, (openP old row).2.ac, (openP old row).2.nr, (openP old row).2.sm, -1))) := by
      unfold openF
      simp only []
      rw [if_pos h0]
    unfold OpEndM
    rw [eF]
    have F3 : Fr [97] h2 h3 := by rw [e3]; exact Fr.rf.put (by simp)
    refine ⟨by rw [e3, wI_same], ⟨f.fr F3, ⟨⟨by rw [e3, wI_idx (by decide)]; exact a1.1, a1.2.1.of (F3.2.2 98 (by decide)), a1.2.2⟩, ⟨by rw [e3, wI_same], C.of (F3.2.2 99 (by decide)), hl⟩, ⟨by rw [e3, wI_idx (by decide)]; exact a5.1, a5.2.1.of (F3.2.2 100 (by decide)), a5.2.2⟩⟩, mo.cong (fun c c1 c2 => ⟨F3.2.2 c (by simp; omega), by rw [F3.2.1]⟩) (by rw [e3, wI_idx (by decide)]) (by rw [e3, wI_idx (by decide)])⟩, ag.tr (F3.ag fun c hc => mem_M (by simp at hc; omega) (by simp at hc; omega))⟩
  · have F11 : Fr [99] h2 h11 := by rw [e11]; exact Fr.rf.put (by simp)
    have c97 : h11.1 97 = h2.1 97 := F11.2.2 97 (by decide)
    have C11 : ByV h11 99 ((openP old row).2.out.take (k + 1)) := by
      have p := C.push (b8 (h2.1 105 k))
      rw [List.length_take, Nat.min_eq_left hk, b8_by B (by omega)] at p
      have := take_snoc (openP old row).2.out 0 k (by omega)
      rw [List.drop_zero, Nat.zero_add] at this
      rw [this, e11]; exact p
    refine ⟨(openP old row).2.out.length - (k + 1), by omega, rfl, h0, k + 1, by rw [e13, nI_1], by omega, hl, rfl, f.fr F11, ⟨by rw [c97]; exact a1.1, a1.2.1.of (F11.2.2 98 (by decide)), a1.2.2⟩, ⟨by rw [c97]; exact a5.1, a5.2.1.of (F11.2.2 100 (by decide)), a5.2.2⟩, mo.cong (fun c c1 c2 => ⟨F11.2.2 c (by simp; omega), by rw [F11.2.1]⟩) (by rw [c97]) (by rw [c97]), ag.tr (F11.ag fun c hc => mem_M (by simp at hc; omega) (by simp at hc; omega)), by rw [c97]; exact i23, B.of (F11.2.2 105 (by decide)), C11⟩
theorem M_o147 {w : Wd} {h hA h2 : Hp} {row came old : List Nat} {g : Tb} {o : OI} {L54 : Nat → Int32 → Hp → Prop} {L147 : Nat → Hp → Prop} {L197 : Nat → Int32 → Hp → Prop} (Z : MZ h hA row came old g) {m x0 : Nat} (hL7 : ∀ a h3, a < m → N7 hA row old a 97 h3 → L147 97 h3) (hL9 : ∀ a x2 h3, a < m → N9 h row came old g a 97 x2 h3 → L197 97 x2 h3) (I : N7 hA row old m x0 h2) : V_X12_open_147 w SH x0 h2 L54 L147 L197 (OpEndM h (row, came, old, g, o)) := by
  obtain ⟨rfl, hb, tot, p', m', rfl, Mb, et, I⟩ := I
  have v172 : (¬ h2.1 97 6 = 0 ∨ h2.1 97 15 ≤ h2.1 97 14) → V_X12_open_172 w SH 97 h2 L54 L147 L197 (OpEndM h (row, came, old, g, o)) := by
    intro hs
    obtain ⟨⟨pp, oo, X, k⟩, F⟩ := I.stop hs
    have M2 : MFr hA h2 := Mb.tr (F.mf (by decide) (by decide) (by decide))
    obtain ⟨f2, ma, mo, ag⟩ := Z.fin M2 X
    have A := X.fa
    have A : Fa h2 tot.ft tot.pl := A
    have hft : tot.ft = (openP old row).2.ft := by rw [et]
    have hpl : tot.pl = (openP old row).2.pl := by rw [et]
    have hto : tot.out = (openP old row).2.out := by rw [et]
    have mo : MO h2 g ((openP old row).1, tot.tl, tot.ac, tot.nr, tot.sm, -1) := mo
    rw [et] at mo
    have mo : MO h2 g ((openP old row).1, (openP old row).2.tl, (openP old row).2.ac, (openP old row).2.nr, (openP old row).2.sm, -1) := mo
    refine ⟨rfl, fun c y3 e3 => ?_, fun c h5 e5 => ?_⟩
    · have q0 := A.le.mp c
      obtain ⟨k1, k2⟩ := k q0
      have hol := X.ol.1
      have hol : oo.length ≤ 8000 := hol
      have i23 : h2.1 97 23 = nI oo.length := X.i23
      have B := X.o
      have B : ByV h2 105 oo := B
      rw [k2, hto] at hol i23 B
      exact hL9 ((openP old row).2.out.length - 0) _ _ (by omega) ⟨rfl, hft.symm.trans q0, 0, e3, by omega, hol, rfl, f2, ma.1, ma.2.2, mo, ag, i23, B, by rw [List.take_zero]; exact fun j hj => absurd hj (by simp)⟩
    · have hf : (openP old row).2.ft ≠ 0 := fun q => c (A.le.mpr (hft.trans q))
      have i7 : h2.1 97 7 = nI (openP old row).2.pl := by rw [← hpl]; exact A.2.2 (by rw [hft]; exact hf)
      rw [i7] at e5
      have eF : openF (row, came, old, g, o) = (-10 - nI (openP old row).2.ft, (row, came, old, g, ((openP old row).1, (openP old row).2.tl, (openP old row).2.ac, (openP old row).2.nr, (openP old row).2.sm, nI (openP old row).2.pl))) := by
        unfold openF
        simp only []
        rw [if_neg hf]
      unfold OpEndM
      rw [eF]
      have F5 : Fr [97] h2 h5 := by rw [e5]; exact Fr.rf.put (by simp)
      have c5 : ∀ k, k ≠ 8 → h5.1 97 k = h2.1 97 k := fun k hk => by rw [e5, wI_idx hk]
      obtain ⟨o1, o2, o3, o4, o5, o6, o7, o8, o9⟩ := mo
      have E5 : ∀ t T, EntV h2 t T → EntV h5 t T := fun t T V => V.of (fun k _ => by rw [F5.2.2 101 (by decide)]) (by rw [F5.2.2 102 (by decide)]) (by rw [F5.2.2 103 (by decide)])
      refine ⟨by rw [c5 6 (by decide), A.1, hft], ⟨f2.fr F5, ⟨⟨by rw [c5 1 (by decide)]; exact ma.1.1, ma.1.2.1.of (F5.2.2 98 (by decide)), ma.1.2.2⟩, ⟨by rw [c5 3 (by decide)]; exact ma.2.1.1, ma.2.1.2.1.of (F5.2.2 99 (by decide)), ma.2.1.2.2⟩, ⟨by rw [c5 5 (by decide)]; exact ma.2.2.1, ma.2.2.2.1.of (F5.2.2 100 (by decide)), ma.2.2.2.2⟩⟩, ⟨E5 _ _ o1, E5 _ _ o2, E5 _ _ o3, o4.of (F5.2.2 104 (by decide)), fun j hj => by rw [F5.2.2 110 (by decide)]; exact o5 j hj, ?_, fun i hi => by rw [F5.2.1]; exact o7 i hi, fun i hi => by rw [F5.2.1]; exact o8 i hi, by rw [e5, wI_same]⟩⟩, ag.tr (F5.ag fun c hc => mem_M (by simp at hc; omega) (by simp at hc; omega))⟩
      unfold ActV at o6 ⊢
      rw [c5 31 (by decide), F5.2.2 111 (by decide), F5.2.2 112 (by decide), F5.2.2 113 (by decide), F5.2.2 114 (by decide)]
      exact o6
  refine ⟨rfl, fun c => v172 (Or.inl c), fun c => ⟨fun c2 => v172 (Or.inr c2), fun c2 => ?_⟩⟩
  obtain ⟨P, c1, k1⟩ := I.go (w := w) c c2
  refine ⟨P, c1, fun h7 hp => ?_⟩
  obtain ⟨a, ha, I7⟩ := k1 h7 hp
  exact hL7 (10000 + a) _ (by omega) ⟨rfl, hb, tot, p', a, rfl, Mb, et, I7⟩
