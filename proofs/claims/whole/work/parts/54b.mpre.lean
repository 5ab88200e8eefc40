/-! the reference: an opening's first state; a file that is not the own one tells nothing (my own) -/
theorem actP_tl {c : Wc} (ho : c.own = false) {kind told mode : Nat} {s s' : Wst} (h : actP c kind told mode s = .inr s') : s'.tl = s.tl ∧ s'.ac = s.ac := by
  have t1 : ∀ (tl : Nat → Nat) (k n : Nat), thrT c.own tl k n = tl := fun tl k n => by rw [ho]; rfl
  have t2 : ∀ (ac : AcL) (k n : Nat) (a : Int32) (m : Nat), thrA c.own ac k n a m = ac := fun ac k n a m => by rw [ho]; unfold thrA; rw [if_neg (by simp)]
  unfold actP at h
  split at h
  · injection h with h; subst h; exact ⟨rfl, rfl⟩
  split at h
  · cases h
  split at h
  · cases h
  split at h
  · split at h
    · cases h
    split at h
    · cases h
    · injection h with h; subst h; exact ⟨t1 _ _ _, t2 _ _ _ _ _⟩
  split at h
  · split at h
    · cases h
    · injection h with h; subst h; exact ⟨t1 _ _ _, t2 _ _ _ _ _⟩
  · split at h
    · cases h
    · injection h with h; subst h; exact ⟨t1 _ _ _, t2 _ _ _ _ _⟩
theorem codeP_tl {c : Wc} (ho : c.own = false) (s : Wst) : (codeP c s).2.tl = s.tl ∧ (codeP c s).2.ac = s.ac := by
  have hp : (preC c s).tl = s.tl := by
    show (if tE c.T (c.src.getD s.ca 0) 0 ≠ 0 ∧ tE c.T (c.src.getD s.ca 0) 3 ≠ 0 then cntP c.own s.tl 4 1 else s.tl) = s.tl
    rw [ho]
    split <;> rfl
  have hc : codeP c s = (match actP c (tE c.T (c.src.getD s.ca 0) 0) (tE c.T (c.src.getD s.ca 0) 1) (tE c.T (c.src.getD s.ca 0) 2) (preC c s) with
        | .inl f => (f, preC c s)
        | .inr s2 => match actP c (tE c.T (c.src.getD s.ca 0) 3) (tE c.T (c.src.getD s.ca 0) 4) (tE c.T (c.src.getD s.ca 0) 5) s2 with
          | .inl f => (f, s2)
          | .inr s3 => (0, s3)) := rfl
  rw [hc]
  split
  · exact ⟨hp, rfl⟩
  · rename_i s2 h2
    have q2 := actP_tl ho h2
    split
    · exact ⟨q2.1.trans hp, q2.2⟩
    · rename_i s3 h3
      have q3 := actP_tl ho h3
      exact ⟨(q3.1.trans q2.1).trans hp, q3.2.trans q2.2⟩
theorem codesP_tl {c : Wc} (ho : c.own = false) : ∀ (n : Nat) (s : Wst), (codesP c n s).2.2.tl = s.tl ∧ (codesP c n s).2.2.ac = s.ac
  | 0, s => ⟨rfl, rfl⟩
  | n + 1, s => by
    rw [codesP]
    split
    · exact ⟨rfl, rfl⟩
    split
    · have q := codeP_tl ho s
      have r := codesP_tl ho n (codeP c s).2
      exact ⟨r.1.trans q.1, r.2.trans q.2⟩
    · exact codeP_tl ho s
theorem runP_tl {c : Wc} (ho : c.own = false) (sm : Bool) (p : Nat) (s : Wst) : (runP c sm p s).2.2.tl = s.tl ∧ (runP c sm p s).2.2.ac = s.ac := by
  have q := codesP_tl ho (c.cE - s.ca) s
  unfold runP
  simp only []
  split
  · exact q
  split
  · exact q
  split
  · exact q
  · exact q
theorem windowP_tl (T : Tb) (base src : List Nat) (e : Nat) (s : Ost) : (windowP false T base src e s).tl = s.tl ∧ (windowP false T base src e s).ac = s.ac := by
  unfold windowP
  simp only []
  split
  · exact ⟨rfl, rfl⟩
  split
  · exact ⟨rfl, rfl⟩
  split
  · exact ⟨rfl, rfl⟩
  · exact runP_tl rfl _ _ _
theorem winsP_tl (T : Tb) (base src : List Nat) (e : Nat) : ∀ (n : Nat) (s : Ost), (winsP false T base src e n s).tl = s.tl ∧ (winsP false T base src e n s).ac = s.ac
  | 0, s => ⟨rfl, rfl⟩
  | n + 1, s => by
    rw [winsP]
    split
    · exact ⟨rfl, rfl⟩
    · have q := windowP_tl T base src e s
      have r := winsP_tl T base src e n (windowP false T base src e s)
      exact ⟨r.1.trans q.1, r.2.trans q.2⟩
theorem bodyP_tl (T : Tb) (base src : List Nat) (e b : Nat) (s : Ost) : (bodyP false T base src e b s).tl = s.tl ∧ (bodyP false T base src e b s).ac = s.ac := by
  unfold bodyP
  split
  · split
    · exact ⟨rfl, rfl⟩
    · exact winsP_tl _ _ _ _ _ _
  · exact winsP_tl _ _ _ _ _ _
theorem subP_tl (src : List Nat) (p e : Nat) : (subP src p e).tl = (fun _ => 0) ∧ (subP src p e).ac = [] := by
  unfold subP
  split
  · exact ⟨rfl, rfl⟩
  · exact bodyP_tl _ _ _ _ _ _
/-- the own file's state before its windows -/
def MP (h : Hp) (e : Nat) (src : List Nat) (T : Tb) (s : Ost) : Prop := Sr h src ∧ EntV h 1 T ∧ EntV h 0 (UBy, 4, 3) ∧ (h.1 97 15 = nI e ∧ h.1 97 18 = nI 1 ∧ h.1 97 19 = 1) ∧ (h.1 97 14 = nI s.fa ∧ s.fa ≤ e ∧ e ≤ src.length) ∧ (∀ i, i < 32 → h.2.2 108 i = 0) ∧ (∀ i, i < 4096 → h.2.2 109 i = 0) ∧ h.1 97 29 = 0 ∧ (∀ j, j < 8 → h.1 110 j = nI (s.tl j)) ∧ (ActV h [] ∧ s.ac = [] ∧ s.out = [] ∧ s.nr = (fun _ => 0) ∧ s.sm = (fun _ => 0) ∧ s.nx = 0) ∧ GoodT T ∧ Fa h s.ft s.pl
/-- what an opening leaves as it was -/
def MFr (h h1 : Hp) : Prop := (∀ c, c ∉ [97, 101, 102, 103, 105, 106, 107, 110, 111, 112, 113, 114] → h1.1 c = h.1 c) ∧ (∀ c, c ∉ [108, 109] → h1.2.2 c = h.2.2 c) ∧ (∀ c k, (c, k) ∉ [(97, 13), (97, 16), (97, 22)] → h1.2.1 c k = h.2.1 c k) ∧ (∀ k, k ∈ [1, 3, 5, 8] → h1.1 97 k = h.1 97 k) ∧ (∀ t T, t = 0 ∨ t = 2 → EntV h t T → EntV h1 t T)
theorem MFr.rf {h : Hp} : MFr h h := ⟨fun _ _ => rfl, fun _ _ => rfl, fun _ _ _ => rfl, fun _ _ => rfl, fun _ _ _ q => q⟩
theorem MFr.tr {h h1 h2 : Hp} (a : MFr h h1) (b : MFr h1 h2) : MFr h h2 := ⟨fun c hc => (b.1 c hc).trans (a.1 c hc), fun c hc => (b.2.1 c hc).trans (a.2.1 c hc), fun c k hc => (b.2.2.1 c k hc).trans (a.2.2.1 c k hc), fun k hk => (b.2.2.2.1 k hk).trans (a.2.2.2.1 k hk), fun t T ht q => b.2.2.2.2 t T ht (a.2.2.2.2 t T ht q)⟩
theorem MFr.fin {h h1 : Hp} (a : MFr h h1) (f : Fin h) : Fin h1 := fun q hq => by
  rw [a.2.2.1 q.1 q.2.1 ((show ∀ q ∈ FINS, (q.1, q.2.1) ∉ [(97, 13), (97, 16), (97, 22)] by decide +kernel) q hq)]; exact f q hq
theorem Fm.mf {K S L : List Nat} {h h1 : Hp} (F : Fm K S L h h1) (hK : ∀ k, k ∈ [1, 3, 5, 8] → k ∉ K) (hS : ∀ c, c ∈ S → c ∈ [105, 106, 107, 110, 111, 112, 113, 114]) (hL : ∀ c, c ∈ L → c ∈ [108, 109]) : MFr h h1 := by
  have n1 : ∀ c, c ∉ [97, 101, 102, 103, 105, 106, 107, 110, 111, 112, 113, 114] → c ≠ 97 ∧ c ∉ S := fun c hc => ⟨fun q => hc (by simp [q]), fun q => hc (by have := hS c q; simp at this; simp; omega)⟩
  have n2 : ∀ c, c = 101 ∨ c = 102 ∨ c = 103 → c ∉ S := fun c hc q => by have := hS c q; simp at this; omega
  exact ⟨fun c hc => F.2.2.1 c (n1 c hc).1 (n1 c hc).2, fun c hc => F.2.1 c fun q => hc (hL c q), fun c k _ => by rw [F.1], fun k hk => F.2.2.2 k (hK k hk), fun t T _ V => V.fm F (n2 _ (by simp)) (n2 _ (by simp)) (n2 _ (by simp))⟩
theorem MP.hb {h h1 : Hp} {e : Nat} {src : List Nat} {T : Tb} {s : Ost} (X : MP h e src T s) (F : Fm [6, 7, 14, 36, 37] [] [] h h1) {f q p : Nat} (A : Fa h1 f q) (V : h1.1 97 14 = nI p) (hp : p ≤ e) : MP h1 e src T ((s.sfa p).bad f q) := by
  obtain ⟨x1, x2, x3, x4, x5, x6, x7, x8, x9, x10, x11, x12⟩ := X
  exact ⟨x1.fm F (by decide), x2.fm F (by decide) (by decide) (by decide), x3.fm F (by decide) (by decide) (by decide), ⟨by rw [F.2.2.2 15 (by decide)]; exact x4.1, by rw [F.2.2.2 18 (by decide)]; exact x4.2.1, by rw [F.2.2.2 19 (by decide)]; exact x4.2.2⟩, ⟨V, hp, x5.2.2⟩, by rw [F.2.1 108 (by decide)]; exact x6, by rw [F.2.1 109 (by decide)]; exact x7, by rw [F.2.2.2 29 (by decide)]; exact x8, by rw [F.2.2.1 110 (by decide) (by decide)]; exact x9, ⟨x10.1.fm F (by decide) (by decide) (by decide) (by decide) (by decide), x10.2⟩, x11, A⟩
/-- windows, one after another -/
def WI (h : Hp) (t tc e : Nat) (own : Bool) (src base : List Nat) (T : Tb) (tot : Ost) (m : Nat) (h2 : Hp) : Prop := ∃ (s : Ost) (p n : Nat) (o : List Nat), MH h2 t tc e own src base T ((s.sfa p).sout o) ∧ (s.ft = 0 → p = s.fa ∧ o = s.out ∧ e - s.fa ≤ n) ∧ winsP own T base src e n s = tot ∧ m = (if s.ft = 0 then e - s.fa + 1 else 0) ∧ Fm WK WSm AL h h2
def WX (h : Hp) (t tc e : Nat) (own : Bool) (src base : List Nat) (T : Tb) (tot : Ost) (h2 : Hp) : Prop := (∃ p o, MH h2 t tc e own src base T ((tot.sfa p).sout o) ∧ (tot.ft = 0 → p = tot.fa ∧ o = tot.out)) ∧ Fm WK WSm AL h h2
theorem WI.fst {h h1 : Hp} {t tc e : Nat} {own : Bool} {src base : List Nat} {T : Tb} {s : Ost} (X : MH h1 t tc e own src base T s) (F : Fm WK WSm AL h h1) : WI h t tc e own src base T (winsP own T base src e (e - s.fa) s) (if s.ft = 0 then e - s.fa + 1 else 0) h1 := ⟨s, s.fa, e - s.fa, s.out, X, fun _ => ⟨rfl, rfl, Nat.le_refl _⟩, rfl, rfl, F⟩
theorem WI.stop {h h2 : Hp} {t tc e m : Nat} {own : Bool} {src base : List Nat} {T : Tb} {tot : Ost} (I : WI h t tc e own src base T tot m h2) (hs : ¬ h2.1 97 6 = 0 ∨ h2.1 97 15 ≤ h2.1 97 14) : WX h t tc e own src base T tot h2 := by
  obtain ⟨s, p, n, o, X, h0, et, -, F⟩ := I
  have A := X.fa
  have A : Fa h2 s.ft s.pl := A
  have he := X.e
  have he : p ≤ e ∧ e ≤ src.length := he
  have hls := X.r.2.2.2.1
  have hst : s.ft ≠ 0 ∨ e ≤ s.fa := by
    by_cases q : s.ft = 0
    · right
      have i14 : h2.1 97 14 = nI p := X.i14
      have k := hs.resolve_left fun c => c (A.eq.mpr q)
      rw [X.i15, i14, nI_leI (by omega) (by omega)] at k
      have := (h0 q).1
      omega
    · exact Or.inl q
  rw [winsP_stop hst] at et
  subst et
  exact ⟨⟨p, o, X, fun q => ⟨(h0 q).1, (h0 q).2.1⟩⟩, F⟩
theorem WI.go {w : Wd} {h h2 : Hp} {t tc e m : Nat} {own : Bool} {src base : List Nat} {T : Tb} {tot : Ost} (I : WI h t tc e own src base T tot m h2) (h6 : h2.1 97 6 = 0) (h15 : ¬ h2.1 97 15 ≤ h2.1 97 14) : ∃ P : Hp → Prop, C_X12_window w SH 97 h2 P ∧ ∀ h7, P h7 → ∃ a, a < m ∧ WI h t tc e own src base T tot a h7 := by
  obtain ⟨s, p, n, o, X, h0, et, rfl, F⟩ := I
  have A := X.fa
  have A : Fa h2 s.ft s.pl := A
  have q := A.eq.mp h6
  obtain ⟨rfl, rfl, hn⟩ := h0 q
  have X : MH h2 t tc e own src base T s := X
  have he := X.e
  have hls := X.r.2.2.2.1
  rw [X.i15, X.i14, nI_leI (by omega) (by omega)] at h15
  refine ⟨_, M_window X q (by omega), fun h7 hp => ?_⟩
  obtain ⟨⟨p', o', X7, k7⟩, F7⟩ := hp
  have hn1 : n = (n - 1) + 1 := by omega
  rw [hn1, winsP, if_neg (by omega)] at et
  have hfa := windowP_fa (own := own) (T := T) (base := base) (src := src) (e := e) (s := s) (by omega)
  refine ⟨_, ?_, windowP own T base src e s, p', n - 1, o', X7, fun q2 => ⟨(k7 q2).1, (k7 q2).2, ?_⟩, et, rfl, F.tr F7⟩
  · rw [if_pos q]
    split
    · rename_i q2
      have := hfa q2
      omega
    · omega
  · have := hfa q2
    omega
