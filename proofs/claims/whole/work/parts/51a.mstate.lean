/-! the reference: its state (printed by wip/whole/genmr.py) -/
theorem EntV.fm {h h1 : Hp} {t : Nat} {T : Tb} {K S L : List Nat} (V : EntV h t T) (F : Fm K S L h h1) (a : 101 ∉ S) (b : 102 ∉ S) (c : 103 ∉ S) : EntV h1 t T := V.of (fun k _ => by rw [F.2.2.1 101 (by decide) a]) (by rw [F.2.2.1 102 (by decide) b]) (by rw [F.2.2.1 103 (by decide) c])
theorem ActV.fm {h h1 : Hp} {ac : AcL} {K S L : List Nat} (V : ActV h ac) (F : Fm K S L h h1) (k : 31 ∉ K) (a : 111 ∉ S) (b : 112 ∉ S) (c : 113 ∉ S) (d : 114 ∉ S) : ActV h1 ac := by
  unfold ActV at V ⊢
  rw [F.2.2.2 31 k, F.2.2.1 111 (by decide) a, F.2.2.1 112 (by decide) b, F.2.2.1 113 (by decide) c, F.2.2.1 114 (by decide) d]
  exact V
def MR (h : Hp) (t : Nat) (c : Wc) (s : Wst) : Prop := (Sr h c.src) ∧ (t < 4 ∧ EntV h t c.T) ∧ (h.1 97 14 = nI s.ca) ∧ (h.1 97 18 = nI t) ∧ (h.1 97 19 = (if c.own = true then 1 else 0)) ∧ (h.1 97 25 = nI c.ss) ∧ (h.1 97 26 = nI s.sp.length) ∧ (h.1 97 29 = nI s.nx) ∧ (h.1 97 38 = nI s.da) ∧ (h.1 97 39 = nI c.dE) ∧ (h.1 97 40 = nI s.aa) ∧ (h.1 97 41 = nI c.aE) ∧ (ByV h 107 s.sp) ∧ (∀ i, i < c.T.2.1 → h.2.2 108 i = lN (s.nr i)) ∧ (∀ i, i < 256 * c.T.2.2 → h.2.2 109 i = lN (s.sm i)) ∧ (∀ j, j < 8 → h.1 110 j = nI (s.tl j)) ∧ (ActV h s.ac) ∧ (WcOk c) ∧ (WOk c s)
theorem MR.of {h : Hp} {t : Nat} {c : Wc} {s : Wst} (X : (Sr h c.src) ∧ (t < 4 ∧ EntV h t c.T) ∧ (h.1 97 14 = nI s.ca) ∧ (h.1 97 18 = nI t) ∧ (h.1 97 19 = (if c.own = true then 1 else 0)) ∧ (h.1 97 25 = nI c.ss) ∧ (h.1 97 26 = nI s.sp.length) ∧ (h.1 97 29 = nI s.nx) ∧ (h.1 97 38 = nI s.da) ∧ (h.1 97 39 = nI c.dE) ∧ (h.1 97 40 = nI s.aa) ∧ (h.1 97 41 = nI c.aE) ∧ (ByV h 107 s.sp) ∧ (∀ i, i < c.T.2.1 → h.2.2 108 i = lN (s.nr i)) ∧ (∀ i, i < 256 * c.T.2.2 → h.2.2 109 i = lN (s.sm i)) ∧ (∀ j, j < 8 → h.1 110 j = nI (s.tl j)) ∧ (ActV h s.ac) ∧ (WcOk c) ∧ (WOk c s)) : MR h t c s := X
theorem MR.r {h : Hp} {t : Nat} {c : Wc} {s : Wst} (X : MR h t c s) : Sr h c.src := X.1
theorem MR.t {h : Hp} {t : Nat} {c : Wc} {s : Wst} (X : MR h t c s) : t < 4 ∧ EntV h t c.T := X.2.1
theorem MR.i14 {h : Hp} {t : Nat} {c : Wc} {s : Wst} (X : MR h t c s) : h.1 97 14 = nI s.ca := X.2.2.1
theorem MR.i18 {h : Hp} {t : Nat} {c : Wc} {s : Wst} (X : MR h t c s) : h.1 97 18 = nI t := X.2.2.2.1
theorem MR.i19 {h : Hp} {t : Nat} {c : Wc} {s : Wst} (X : MR h t c s) : h.1 97 19 = (if c.own = true then 1 else 0) := X.2.2.2.2.1
theorem MR.i25 {h : Hp} {t : Nat} {c : Wc} {s : Wst} (X : MR h t c s) : h.1 97 25 = nI c.ss := X.2.2.2.2.2.1
theorem MR.i26 {h : Hp} {t : Nat} {c : Wc} {s : Wst} (X : MR h t c s) : h.1 97 26 = nI s.sp.length := X.2.2.2.2.2.2.1
theorem MR.i29 {h : Hp} {t : Nat} {c : Wc} {s : Wst} (X : MR h t c s) : h.1 97 29 = nI s.nx := X.2.2.2.2.2.2.2.1
theorem MR.i38 {h : Hp} {t : Nat} {c : Wc} {s : Wst} (X : MR h t c s) : h.1 97 38 = nI s.da := X.2.2.2.2.2.2.2.2.1
theorem MR.i39 {h : Hp} {t : Nat} {c : Wc} {s : Wst} (X : MR h t c s) : h.1 97 39 = nI c.dE := X.2.2.2.2.2.2.2.2.2.1
theorem MR.i40 {h : Hp} {t : Nat} {c : Wc} {s : Wst} (X : MR h t c s) : h.1 97 40 = nI s.aa := X.2.2.2.2.2.2.2.2.2.2.1
theorem MR.i41 {h : Hp} {t : Nat} {c : Wc} {s : Wst} (X : MR h t c s) : h.1 97 41 = nI c.aE := X.2.2.2.2.2.2.2.2.2.2.2.1
theorem MR.sp {h : Hp} {t : Nat} {c : Wc} {s : Wst} (X : MR h t c s) : ByV h 107 s.sp := X.2.2.2.2.2.2.2.2.2.2.2.2.1
theorem MR.nr {h : Hp} {t : Nat} {c : Wc} {s : Wst} (X : MR h t c s) : ∀ i, i < c.T.2.1 → h.2.2 108 i = lN (s.nr i) := X.2.2.2.2.2.2.2.2.2.2.2.2.2.1
theorem MR.sm {h : Hp} {t : Nat} {c : Wc} {s : Wst} (X : MR h t c s) : ∀ i, i < 256 * c.T.2.2 → h.2.2 109 i = lN (s.sm i) := X.2.2.2.2.2.2.2.2.2.2.2.2.2.2.1
theorem MR.tl {h : Hp} {t : Nat} {c : Wc} {s : Wst} (X : MR h t c s) : ∀ j, j < 8 → h.1 110 j = nI (s.tl j) := X.2.2.2.2.2.2.2.2.2.2.2.2.2.2.2.1
theorem MR.ac {h : Hp} {t : Nat} {c : Wc} {s : Wst} (X : MR h t c s) : ActV h s.ac := X.2.2.2.2.2.2.2.2.2.2.2.2.2.2.2.2.1
theorem MR.C {h : Hp} {t : Nat} {c : Wc} {s : Wst} (X : MR h t c s) : WcOk c := X.2.2.2.2.2.2.2.2.2.2.2.2.2.2.2.2.2.1
theorem MR.W {h : Hp} {t : Nat} {c : Wc} {s : Wst} (X : MR h t c s) : WOk c s := X.2.2.2.2.2.2.2.2.2.2.2.2.2.2.2.2.2.2
theorem MR.nop {h h1 : Hp} {t : Nat} {c : Wc} {s : Wst}  (X : MR h t c s) (F : Fm [6, 7, 36, 37] [] [] h h1)  : MR h1 t c s := MR.of ⟨
    (X.r.fm F (by decide)),
    (⟨X.t.1, X.t.2.fm F (by decide) (by decide) (by decide)⟩),
    (by rw [F.2.2.2 14 (by decide)]; exact X.i14),
    (by rw [F.2.2.2 18 (by decide)]; exact X.i18),
    (by rw [F.2.2.2 19 (by decide)]; exact X.i19),
    (by rw [F.2.2.2 25 (by decide)]; exact X.i25),
    (by rw [F.2.2.2 26 (by decide)]; exact X.i26),
    (by rw [F.2.2.2 29 (by decide)]; exact X.i29),
    (by rw [F.2.2.2 38 (by decide)]; exact X.i38),
    (by rw [F.2.2.2 39 (by decide)]; exact X.i39),
    (by rw [F.2.2.2 40 (by decide)]; exact X.i40),
    (by rw [F.2.2.2 41 (by decide)]; exact X.i41),
    (F.by_ X.sp (by decide) (by decide)),
    (by rw [F.2.1 108 (by decide)]; exact X.nr),
    (by rw [F.2.1 109 (by decide)]; exact X.sm),
    (by rw [F.2.2.1 110 (by decide) (by decide)]; exact X.tl),
    (X.ac.fm F (by decide) (by decide) (by decide) (by decide) (by decide)),
    (X.C),
    (X.W)
  ⟩
theorem MR.ca {h h1 : Hp} {t : Nat} {c : Wc} {s : Wst} {q : Nat} (X : MR h t c s) (F : Fm [14, 36, 37] [] [] h h1) (V : h1.1 97 14 = nI q) (hq : q ≤ c.cE) : MR h1 t c (s.sca q) := MR.of ⟨
    (X.r.fm F (by decide)),
    (⟨X.t.1, X.t.2.fm F (by decide) (by decide) (by decide)⟩),
    (V),
    (by rw [F.2.2.2 18 (by decide)]; exact X.i18),
    (by rw [F.2.2.2 19 (by decide)]; exact X.i19),
    (by rw [F.2.2.2 25 (by decide)]; exact X.i25),
    (by rw [F.2.2.2 26 (by decide)]; exact X.i26),
    (by rw [F.2.2.2 29 (by decide)]; exact X.i29),
    (by rw [F.2.2.2 38 (by decide)]; exact X.i38),
    (by rw [F.2.2.2 39 (by decide)]; exact X.i39),
    (by rw [F.2.2.2 40 (by decide)]; exact X.i40),
    (by rw [F.2.2.2 41 (by decide)]; exact X.i41),
    (F.by_ X.sp (by decide) (by decide)),
    (by rw [F.2.1 108 (by decide)]; exact X.nr),
    (by rw [F.2.1 109 (by decide)]; exact X.sm),
    (by rw [F.2.2.1 110 (by decide) (by decide)]; exact X.tl),
    (X.ac.fm F (by decide) (by decide) (by decide) (by decide) (by decide)),
    (X.C),
    (WOk.of ⟨hq, X.W.da, X.W.aa, X.W.s1, X.W.s2, X.W.nr, X.W.sm, X.W.nx, X.W.ac, X.W.by_⟩)
  ⟩
theorem MR.aa {h h1 : Hp} {t : Nat} {c : Wc} {s : Wst} {q : Nat} (X : MR h t c s) (F : Fm [14, 36, 37, 40] [] [] h h1) (V : h1.1 97 14 = nI s.ca) (U : h1.1 97 40 = nI q) (hq : q ≤ c.aE) : MR h1 t c (s.saa q) := MR.of ⟨
    (X.r.fm F (by decide)),
    (⟨X.t.1, X.t.2.fm F (by decide) (by decide) (by decide)⟩),
    (V),
    (by rw [F.2.2.2 18 (by decide)]; exact X.i18),
    (by rw [F.2.2.2 19 (by decide)]; exact X.i19),
    (by rw [F.2.2.2 25 (by decide)]; exact X.i25),
    (by rw [F.2.2.2 26 (by decide)]; exact X.i26),
    (by rw [F.2.2.2 29 (by decide)]; exact X.i29),
    (by rw [F.2.2.2 38 (by decide)]; exact X.i38),
    (by rw [F.2.2.2 39 (by decide)]; exact X.i39),
    (U),
    (by rw [F.2.2.2 41 (by decide)]; exact X.i41),
    (F.by_ X.sp (by decide) (by decide)),
    (by rw [F.2.1 108 (by decide)]; exact X.nr),
    (by rw [F.2.1 109 (by decide)]; exact X.sm),
    (by rw [F.2.2.1 110 (by decide) (by decide)]; exact X.tl),
    (X.ac.fm F (by decide) (by decide) (by decide) (by decide) (by decide)),
    (X.C),
    (WOk.of ⟨X.W.ca, X.W.da, hq, X.W.s1, X.W.s2, X.W.nr, X.W.sm, X.W.nx, X.W.ac, X.W.by_⟩)
  ⟩
theorem MR.da {h h1 : Hp} {t : Nat} {c : Wc} {s : Wst} {q : Nat} (X : MR h t c s) (F : Fm [38] [] [] h h1) (V : h1.1 97 38 = nI q) (hq : q ≤ c.dE) : MR h1 t c (s.sda q) := MR.of ⟨
    (X.r.fm F (by decide)),
    (⟨X.t.1, X.t.2.fm F (by decide) (by decide) (by decide)⟩),
    (by rw [F.2.2.2 14 (by decide)]; exact X.i14),
    (by rw [F.2.2.2 18 (by decide)]; exact X.i18),
    (by rw [F.2.2.2 19 (by decide)]; exact X.i19),
    (by rw [F.2.2.2 25 (by decide)]; exact X.i25),
    (by rw [F.2.2.2 26 (by decide)]; exact X.i26),
    (by rw [F.2.2.2 29 (by decide)]; exact X.i29),
    (V),
    (by rw [F.2.2.2 39 (by decide)]; exact X.i39),
    (by rw [F.2.2.2 40 (by decide)]; exact X.i40),
    (by rw [F.2.2.2 41 (by decide)]; exact X.i41),
    (F.by_ X.sp (by decide) (by decide)),
    (by rw [F.2.1 108 (by decide)]; exact X.nr),
    (by rw [F.2.1 109 (by decide)]; exact X.sm),
    (by rw [F.2.2.1 110 (by decide) (by decide)]; exact X.tl),
    (X.ac.fm F (by decide) (by decide) (by decide) (by decide) (by decide)),
    (X.C),
    (WOk.of ⟨X.W.ca, hq, X.W.aa, X.W.s1, X.W.s2, X.W.nr, X.W.sm, X.W.nx, X.W.ac, X.W.by_⟩)
  ⟩
theorem MR.kp {h h1 : Hp} {t : Nat} {c : Wc} {s : Wst} {nr sm : Nat → Nat} {nx : Nat} (X : MR h t c s) (F : Fm [29] [] [108, 109] h h1) (V : h1.1 97 29 = nI nx) (N : ∀ i, i < c.T.2.1 → h1.2.2 108 i = lN (nr i)) (S : ∀ i, i < 256 * c.T.2.2 → h1.2.2 109 i = lN (sm i)) (W : WOk c (((s.snr nr).ssm sm).snx nx)) : MR h1 t c (((s.snr nr).ssm sm).snx nx) := MR.of ⟨
    (X.r.fm F (by decide)),
    (⟨X.t.1, X.t.2.fm F (by decide) (by decide) (by decide)⟩),
    (by rw [F.2.2.2 14 (by decide)]; exact X.i14),
    (by rw [F.2.2.2 18 (by decide)]; exact X.i18),
    (by rw [F.2.2.2 19 (by decide)]; exact X.i19),
    (by rw [F.2.2.2 25 (by decide)]; exact X.i25),
    (by rw [F.2.2.2 26 (by decide)]; exact X.i26),
    (V),
    (by rw [F.2.2.2 38 (by decide)]; exact X.i38),
    (by rw [F.2.2.2 39 (by decide)]; exact X.i39),
    (by rw [F.2.2.2 40 (by decide)]; exact X.i40),
    (by rw [F.2.2.2 41 (by decide)]; exact X.i41),
    (F.by_ X.sp (by decide) (by decide)),
    (N),
    (S),
    (by rw [F.2.2.1 110 (by decide) (by decide)]; exact X.tl),
    (X.ac.fm F (by decide) (by decide) (by decide) (by decide) (by decide)),
    (X.C),
    (W)
  ⟩
theorem MR.ps {h h1 : Hp} {t : Nat} {c : Wc} {s : Wst} {l : List Nat} (X : MR h t c s) (F : Fm [26] [107] [] h h1) (V : h1.1 97 26 = nI l.length) (B : ByV h1 107 l) (W : WOk c (s.ssp l)) : MR h1 t c (s.ssp l) := MR.of ⟨
    (X.r.fm F (by decide)),
    (⟨X.t.1, X.t.2.fm F (by decide) (by decide) (by decide)⟩),
    (by rw [F.2.2.2 14 (by decide)]; exact X.i14),
    (by rw [F.2.2.2 18 (by decide)]; exact X.i18),
    (by rw [F.2.2.2 19 (by decide)]; exact X.i19),
    (by rw [F.2.2.2 25 (by decide)]; exact X.i25),
    (V),
    (by rw [F.2.2.2 29 (by decide)]; exact X.i29),
    (by rw [F.2.2.2 38 (by decide)]; exact X.i38),
    (by rw [F.2.2.2 39 (by decide)]; exact X.i39),
    (by rw [F.2.2.2 40 (by decide)]; exact X.i40),
    (by rw [F.2.2.2 41 (by decide)]; exact X.i41),
    (B),
    (by rw [F.2.1 108 (by decide)]; exact X.nr),
    (by rw [F.2.1 109 (by decide)]; exact X.sm),
    (by rw [F.2.2.1 110 (by decide) (by decide)]; exact X.tl),
    (X.ac.fm F (by decide) (by decide) (by decide) (by decide) (by decide)),
    (X.C),
    (W)
  ⟩
theorem MR.lg {h h1 : Hp} {t : Nat} {c : Wc} {s : Wst} {tl : Nat → Nat} {ac : AcL} (X : MR h t c s) (F : Fm [31] [110, 111, 112, 113, 114] [] h h1) (V : ∀ j, j < 8 → h1.1 110 j = nI (tl j)) (A : ActV h1 ac) : MR h1 t c ((s.stl tl).sac ac) := MR.of ⟨
    (X.r.fm F (by decide)),
    (⟨X.t.1, X.t.2.fm F (by decide) (by decide) (by decide)⟩),
    (by rw [F.2.2.2 14 (by decide)]; exact X.i14),
    (by rw [F.2.2.2 18 (by decide)]; exact X.i18),
    (by rw [F.2.2.2 19 (by decide)]; exact X.i19),
    (by rw [F.2.2.2 25 (by decide)]; exact X.i25),
    (by rw [F.2.2.2 26 (by decide)]; exact X.i26),
    (by rw [F.2.2.2 29 (by decide)]; exact X.i29),
    (by rw [F.2.2.2 38 (by decide)]; exact X.i38),
    (by rw [F.2.2.2 39 (by decide)]; exact X.i39),
    (by rw [F.2.2.2 40 (by decide)]; exact X.i40),
    (by rw [F.2.2.2 41 (by decide)]; exact X.i41),
    (F.by_ X.sp (by decide) (by decide)),
    (by rw [F.2.1 108 (by decide)]; exact X.nr),
    (by rw [F.2.1 109 (by decide)]; exact X.sm),
    (V),
    (A),
    (X.C),
    (WOk.of ⟨X.W.ca, X.W.da, X.W.aa, X.W.s1, X.W.s2, X.W.nr, X.W.sm, X.W.nx, A.2.1, X.W.by_⟩)
  ⟩
/-- the reference between two steps -/
def MH (h : Hp) (t tc e : Nat) (own : Bool) (src base : List Nat) (T : Tb) (s : Ost) : Prop := (Sr h src) ∧ (t < 4 ∧ EntV h t T) ∧ (h.1 97 14 = nI s.fa) ∧ (h.1 97 15 = nI e) ∧ (h.1 97 17 = nI base.length) ∧ (h.1 97 18 = nI t) ∧ (h.1 97 19 = (if own = true then 1 else 0)) ∧ (h.1 97 23 = nI s.out.length) ∧ (h.1 97 29 = nI s.nx) ∧ ((h.2.1 97 16 = 100 ∧ base.length ≤ 4000 ∧ ByV h 100 base) ∨ (h.2.1 97 16 = 104 ∧ base.length ≤ 1536 ∧ ByV h 104 base)) ∧ ((tc = 105 ∨ tc = 106) ∧ h.2.1 97 22 = tc) ∧ (ByV h tc s.out) ∧ (s.out.length ≤ 8000 ∧ ∀ b ∈ s.out, b < 256) ∧ (∀ i, i < T.2.1 → h.2.2 108 i = lN (s.nr i)) ∧ (∀ i, i < 256 * T.2.2 → h.2.2 109 i = lN (s.sm i)) ∧ (∀ j, j < 8 → h.1 110 j = nI (s.tl j)) ∧ (ActV h s.ac) ∧ (s.fa ≤ e ∧ e ≤ src.length) ∧ (∀ i, s.nr i < 16000) ∧ (∀ i, s.sm i < 16000) ∧ (s.nx < T.2.1 ∨ (T.2.1 = 0 ∧ s.nx = 0)) ∧ (GoodT T) ∧ (Fa h s.ft s.pl) ∧ (∀ b ∈ base, b < 256)
theorem MH.of {h : Hp} {t tc e : Nat} {own : Bool} {src base : List Nat} {T : Tb} {s : Ost} (X : (Sr h src) ∧ (t < 4 ∧ EntV h t T) ∧ (h.1 97 14 = nI s.fa) ∧ (h.1 97 15 = nI e) ∧ (h.1 97 17 = nI base.length) ∧ (h.1 97 18 = nI t) ∧ (h.1 97 19 = (if own = true then 1 else 0)) ∧ (h.1 97 23 = nI s.out.length) ∧ (h.1 97 29 = nI s.nx) ∧ ((h.2.1 97 16 = 100 ∧ base.length ≤ 4000 ∧ ByV h 100 base) ∨ (h.2.1 97 16 = 104 ∧ base.length ≤ 1536 ∧ ByV h 104 base)) ∧ ((tc = 105 ∨ tc = 106) ∧ h.2.1 97 22 = tc) ∧ (ByV h tc s.out) ∧ (s.out.length ≤ 8000 ∧ ∀ b ∈ s.out, b < 256) ∧ (∀ i, i < T.2.1 → h.2.2 108 i = lN (s.nr i)) ∧ (∀ i, i < 256 * T.2.2 → h.2.2 109 i = lN (s.sm i)) ∧ (∀ j, j < 8 → h.1 110 j = nI (s.tl j)) ∧ (ActV h s.ac) ∧ (s.fa ≤ e ∧ e ≤ src.length) ∧ (∀ i, s.nr i < 16000) ∧ (∀ i, s.sm i < 16000) ∧ (s.nx < T.2.1 ∨ (T.2.1 = 0 ∧ s.nx = 0)) ∧ (GoodT T) ∧ (Fa h s.ft s.pl) ∧ (∀ b ∈ base, b < 256)) : MH h t tc e own src base T s := X
theorem MH.r {h : Hp} {t tc e : Nat} {own : Bool} {src base : List Nat} {T : Tb} {s : Ost} (X : MH h t tc e own src base T s) : Sr h src := X.1
theorem MH.t {h : Hp} {t tc e : Nat} {own : Bool} {src base : List Nat} {T : Tb} {s : Ost} (X : MH h t tc e own src base T s) : t < 4 ∧ EntV h t T := X.2.1
theorem MH.i14 {h : Hp} {t tc e : Nat} {own : Bool} {src base : List Nat} {T : Tb} {s : Ost} (X : MH h t tc e own src base T s) : h.1 97 14 = nI s.fa := X.2.2.1
theorem MH.i15 {h : Hp} {t tc e : Nat} {own : Bool} {src base : List Nat} {T : Tb} {s : Ost} (X : MH h t tc e own src base T s) : h.1 97 15 = nI e := X.2.2.2.1
theorem MH.i17 {h : Hp} {t tc e : Nat} {own : Bool} {src base : List Nat} {T : Tb} {s : Ost} (X : MH h t tc e own src base T s) : h.1 97 17 = nI base.length := X.2.2.2.2.1
theorem MH.i18 {h : Hp} {t tc e : Nat} {own : Bool} {src base : List Nat} {T : Tb} {s : Ost} (X : MH h t tc e own src base T s) : h.1 97 18 = nI t := X.2.2.2.2.2.1
theorem MH.i19 {h : Hp} {t tc e : Nat} {own : Bool} {src base : List Nat} {T : Tb} {s : Ost} (X : MH h t tc e own src base T s) : h.1 97 19 = (if own = true then 1 else 0) := X.2.2.2.2.2.2.1
theorem MH.i23 {h : Hp} {t tc e : Nat} {own : Bool} {src base : List Nat} {T : Tb} {s : Ost} (X : MH h t tc e own src base T s) : h.1 97 23 = nI s.out.length := X.2.2.2.2.2.2.2.1
theorem MH.i29 {h : Hp} {t tc e : Nat} {own : Bool} {src base : List Nat} {T : Tb} {s : Ost} (X : MH h t tc e own src base T s) : h.1 97 29 = nI s.nx := X.2.2.2.2.2.2.2.2.1
theorem MH.c16 {h : Hp} {t tc e : Nat} {own : Bool} {src base : List Nat} {T : Tb} {s : Ost} (X : MH h t tc e own src base T s) : (h.2.1 97 16 = 100 ∧ base.length ≤ 4000 ∧ ByV h 100 base) ∨ (h.2.1 97 16 = 104 ∧ base.length ≤ 1536 ∧ ByV h 104 base) := X.2.2.2.2.2.2.2.2.2.1
theorem MH.c22 {h : Hp} {t tc e : Nat} {own : Bool} {src base : List Nat} {T : Tb} {s : Ost} (X : MH h t tc e own src base T s) : (tc = 105 ∨ tc = 106) ∧ h.2.1 97 22 = tc := X.2.2.2.2.2.2.2.2.2.2.1
theorem MH.o {h : Hp} {t tc e : Nat} {own : Bool} {src base : List Nat} {T : Tb} {s : Ost} (X : MH h t tc e own src base T s) : ByV h tc s.out := X.2.2.2.2.2.2.2.2.2.2.2.1
theorem MH.ol {h : Hp} {t tc e : Nat} {own : Bool} {src base : List Nat} {T : Tb} {s : Ost} (X : MH h t tc e own src base T s) : s.out.length ≤ 8000 ∧ ∀ b ∈ s.out, b < 256 := X.2.2.2.2.2.2.2.2.2.2.2.2.1
theorem MH.nr {h : Hp} {t tc e : Nat} {own : Bool} {src base : List Nat} {T : Tb} {s : Ost} (X : MH h t tc e own src base T s) : ∀ i, i < T.2.1 → h.2.2 108 i = lN (s.nr i) := X.2.2.2.2.2.2.2.2.2.2.2.2.2.1
theorem MH.sm {h : Hp} {t tc e : Nat} {own : Bool} {src base : List Nat} {T : Tb} {s : Ost} (X : MH h t tc e own src base T s) : ∀ i, i < 256 * T.2.2 → h.2.2 109 i = lN (s.sm i) := X.2.2.2.2.2.2.2.2.2.2.2.2.2.2.1
theorem MH.tl {h : Hp} {t tc e : Nat} {own : Bool} {src base : List Nat} {T : Tb} {s : Ost} (X : MH h t tc e own src base T s) : ∀ j, j < 8 → h.1 110 j = nI (s.tl j) := X.2.2.2.2.2.2.2.2.2.2.2.2.2.2.2.1
theorem MH.ac {h : Hp} {t tc e : Nat} {own : Bool} {src base : List Nat} {T : Tb} {s : Ost} (X : MH h t tc e own src base T s) : ActV h s.ac := X.2.2.2.2.2.2.2.2.2.2.2.2.2.2.2.2.1
theorem MH.e {h : Hp} {t tc e : Nat} {own : Bool} {src base : List Nat} {T : Tb} {s : Ost} (X : MH h t tc e own src base T s) : s.fa ≤ e ∧ e ≤ src.length := X.2.2.2.2.2.2.2.2.2.2.2.2.2.2.2.2.2.1
theorem MH.hn {h : Hp} {t tc e : Nat} {own : Bool} {src base : List Nat} {T : Tb} {s : Ost} (X : MH h t tc e own src base T s) : ∀ i, s.nr i < 16000 := X.2.2.2.2.2.2.2.2.2.2.2.2.2.2.2.2.2.2.1
theorem MH.hs {h : Hp} {t tc e : Nat} {own : Bool} {src base : List Nat} {T : Tb} {s : Ost} (X : MH h t tc e own src base T s) : ∀ i, s.sm i < 16000 := X.2.2.2.2.2.2.2.2.2.2.2.2.2.2.2.2.2.2.2.1
theorem MH.nx {h : Hp} {t tc e : Nat} {own : Bool} {src base : List Nat} {T : Tb} {s : Ost} (X : MH h t tc e own src base T s) : s.nx < T.2.1 ∨ (T.2.1 = 0 ∧ s.nx = 0) := X.2.2.2.2.2.2.2.2.2.2.2.2.2.2.2.2.2.2.2.2.1
theorem MH.g {h : Hp} {t tc e : Nat} {own : Bool} {src base : List Nat} {T : Tb} {s : Ost} (X : MH h t tc e own src base T s) : GoodT T := X.2.2.2.2.2.2.2.2.2.2.2.2.2.2.2.2.2.2.2.2.2.1
theorem MH.fa {h : Hp} {t tc e : Nat} {own : Bool} {src base : List Nat} {T : Tb} {s : Ost} (X : MH h t tc e own src base T s) : Fa h s.ft s.pl := X.2.2.2.2.2.2.2.2.2.2.2.2.2.2.2.2.2.2.2.2.2.2.1
theorem MH.bb {h : Hp} {t tc e : Nat} {own : Bool} {src base : List Nat} {T : Tb} {s : Ost} (X : MH h t tc e own src base T s) : ∀ b ∈ base, b < 256 := X.2.2.2.2.2.2.2.2.2.2.2.2.2.2.2.2.2.2.2.2.2.2.2
theorem MH.at {h h1 : Hp} {t tc e : Nat} {own : Bool} {src base : List Nat} {T : Tb} {s : Ost} {q : Nat} (X : MH h t tc e own src base T s) (F : Fm [14, 36, 37] [] [] h h1) (V : h1.1 97 14 = nI q) (hq : q ≤ e) : MH h1 t tc e own src base T (s.sfa q) := MH.of ⟨
    (X.r.fm F (by decide)),
    (⟨X.t.1, X.t.2.fm F (by decide) (by decide) (by decide)⟩),
    (V),
    (by rw [F.2.2.2 15 (by decide)]; exact X.i15),
    (by rw [F.2.2.2 17 (by decide)]; exact X.i17),
    (by rw [F.2.2.2 18 (by decide)]; exact X.i18),
    (by rw [F.2.2.2 19 (by decide)]; exact X.i19),
    (by rw [F.2.2.2 23 (by decide)]; exact X.i23),
    (by rw [F.2.2.2 29 (by decide)]; exact X.i29),
    (by rw [F.1]; exact X.c16.imp (fun q => ⟨q.1, q.2.1, F.by_ q.2.2 (by decide) (by decide)⟩) (fun q => ⟨q.1, q.2.1, F.by_ q.2.2 (by decide) (by decide)⟩)),
    (by rw [F.1]; exact X.c22),
    (F.by_ X.o (by have := X.c22.1; omega) (by have := X.c22.1; simp <;> omega)),
    (X.ol),
    (by rw [F.2.1 108 (by decide)]; exact X.nr),
    (by rw [F.2.1 109 (by decide)]; exact X.sm),
    (by rw [F.2.2.1 110 (by decide) (by decide)]; exact X.tl),
    (X.ac.fm F (by decide) (by decide) (by decide) (by decide) (by decide)),
    (⟨hq, X.e.2⟩),
    (X.hn),
    (X.hs),
    (X.nx),
    (X.g),
    (X.fa.fm F (by decide) (by decide)),
    (X.bb)
  ⟩
theorem MH.bad {h h1 : Hp} {t tc e : Nat} {own : Bool} {src base : List Nat} {T : Tb} {s : Ost} {f q : Nat} (X : MH h t tc e own src base T s) (F : Fm [6, 7] [] [] h h1) (V : Fa h1 f q) : MH h1 t tc e own src base T (s.bad f q) := MH.of ⟨
    (X.r.fm F (by decide)),
    (⟨X.t.1, X.t.2.fm F (by decide) (by decide) (by decide)⟩),
    (by rw [F.2.2.2 14 (by decide)]; exact X.i14),
    (by rw [F.2.2.2 15 (by decide)]; exact X.i15),
    (by rw [F.2.2.2 17 (by decide)]; exact X.i17),
    (by rw [F.2.2.2 18 (by decide)]; exact X.i18),
    (by rw [F.2.2.2 19 (by decide)]; exact X.i19),
    (by rw [F.2.2.2 23 (by decide)]; exact X.i23),
    (by rw [F.2.2.2 29 (by decide)]; exact X.i29),
    (by rw [F.1]; exact X.c16.imp (fun q => ⟨q.1, q.2.1, F.by_ q.2.2 (by decide) (by decide)⟩) (fun q => ⟨q.1, q.2.1, F.by_ q.2.2 (by decide) (by decide)⟩)),
    (by rw [F.1]; exact X.c22),
    (F.by_ X.o (by have := X.c22.1; omega) (by have := X.c22.1; simp <;> omega)),
    (X.ol),
    (by rw [F.2.1 108 (by decide)]; exact X.nr),
    (by rw [F.2.1 109 (by decide)]; exact X.sm),
    (by rw [F.2.2.1 110 (by decide) (by decide)]; exact X.tl),
    (X.ac.fm F (by decide) (by decide) (by decide) (by decide) (by decide)),
    (X.e),
    (X.hn),
    (X.hs),
    (X.nx),
    (X.g),
    (V),
    (X.bb)
  ⟩
theorem MH.tell {h h1 : Hp} {t tc e : Nat} {own : Bool} {src base : List Nat} {T : Tb} {s : Ost} {tl : Nat → Nat} (X : MH h t tc e own src base T s) (F : Fm [] [110] [] h h1) (V : ∀ j, j < 8 → h1.1 110 j = nI (tl j)) : MH h1 t tc e own src base T (s.stl tl) := MH.of ⟨
    (X.r.fm F (by decide)),
    (⟨X.t.1, X.t.2.fm F (by decide) (by decide) (by decide)⟩),
    (by rw [F.2.2.2 14 (by decide)]; exact X.i14),
    (by rw [F.2.2.2 15 (by decide)]; exact X.i15),
    (by rw [F.2.2.2 17 (by decide)]; exact X.i17),
    (by rw [F.2.2.2 18 (by decide)]; exact X.i18),
    (by rw [F.2.2.2 19 (by decide)]; exact X.i19),
    (by rw [F.2.2.2 23 (by decide)]; exact X.i23),
    (by rw [F.2.2.2 29 (by decide)]; exact X.i29),
    (by rw [F.1]; exact X.c16.imp (fun q => ⟨q.1, q.2.1, F.by_ q.2.2 (by decide) (by decide)⟩) (fun q => ⟨q.1, q.2.1, F.by_ q.2.2 (by decide) (by decide)⟩)),
    (by rw [F.1]; exact X.c22),
    (F.by_ X.o (by have := X.c22.1; omega) (by have := X.c22.1; simp <;> omega)),
    (X.ol),
    (by rw [F.2.1 108 (by decide)]; exact X.nr),
    (by rw [F.2.1 109 (by decide)]; exact X.sm),
    (V),
    (X.ac.fm F (by decide) (by decide) (by decide) (by decide) (by decide)),
    (X.e),
    (X.hn),
    (X.hs),
    (X.nx),
    (X.g),
    (X.fa.fm F (by decide) (by decide)),
    (X.bb)
  ⟩
theorem MH.seg {h h1 : Hp} {t tc e : Nat} {own : Bool} {src base : List Nat} {T : Tb} {s : Ost}  (X : MH h t tc e own src base T s) (F : Fm [25, 26] [107] [] h h1)  : MH h1 t tc e own src base T s := MH.of ⟨
    (X.r.fm F (by decide)),
    (⟨X.t.1, X.t.2.fm F (by decide) (by decide) (by decide)⟩),
    (by rw [F.2.2.2 14 (by decide)]; exact X.i14),
    (by rw [F.2.2.2 15 (by decide)]; exact X.i15),
    (by rw [F.2.2.2 17 (by decide)]; exact X.i17),
    (by rw [F.2.2.2 18 (by decide)]; exact X.i18),
    (by rw [F.2.2.2 19 (by decide)]; exact X.i19),
    (by rw [F.2.2.2 23 (by decide)]; exact X.i23),
    (by rw [F.2.2.2 29 (by decide)]; exact X.i29),
    (by rw [F.1]; exact X.c16.imp (fun q => ⟨q.1, q.2.1, F.by_ q.2.2 (by decide) (by decide)⟩) (fun q => ⟨q.1, q.2.1, F.by_ q.2.2 (by decide) (by decide)⟩)),
    (by rw [F.1]; exact X.c22),
    (F.by_ X.o (by have := X.c22.1; omega) (by have := X.c22.1; simp <;> omega)),
    (X.ol),
    (by rw [F.2.1 108 (by decide)]; exact X.nr),
    (by rw [F.2.1 109 (by decide)]; exact X.sm),
    (by rw [F.2.2.1 110 (by decide) (by decide)]; exact X.tl),
    (X.ac.fm F (by decide) (by decide) (by decide) (by decide) (by decide)),
    (X.e),
    (X.hn),
    (X.hs),
    (X.nx),
    (X.g),
    (X.fa.fm F (by decide) (by decide)),
    (X.bb)
  ⟩
theorem MH.out {h h1 : Hp} {t tc e : Nat} {own : Bool} {src base : List Nat} {T : Tb} {s : Ost} {l : List Nat} (X : MH h t tc e own src base T s) (F : Fm [23] [105, 106] [] h h1) (V : h1.1 97 23 = nI l.length) (B : ByV h1 tc l) (hl : l.length ≤ 8000 ∧ ∀ b ∈ l, b < 256) : MH h1 t tc e own src base T (s.sout l) := MH.of ⟨
    (X.r.fm F (by decide)),
    (⟨X.t.1, X.t.2.fm F (by decide) (by decide) (by decide)⟩),
    (by rw [F.2.2.2 14 (by decide)]; exact X.i14),
    (by rw [F.2.2.2 15 (by decide)]; exact X.i15),
    (by rw [F.2.2.2 17 (by decide)]; exact X.i17),
    (by rw [F.2.2.2 18 (by decide)]; exact X.i18),
    (by rw [F.2.2.2 19 (by decide)]; exact X.i19),
    (V),
    (by rw [F.2.2.2 29 (by decide)]; exact X.i29),
    (by rw [F.1]; exact X.c16.imp (fun q => ⟨q.1, q.2.1, F.by_ q.2.2 (by decide) (by decide)⟩) (fun q => ⟨q.1, q.2.1, F.by_ q.2.2 (by decide) (by decide)⟩)),
    (by rw [F.1]; exact X.c22),
    (B),
    (hl),
    (by rw [F.2.1 108 (by decide)]; exact X.nr),
    (by rw [F.2.1 109 (by decide)]; exact X.sm),
    (by rw [F.2.2.1 110 (by decide) (by decide)]; exact X.tl),
    (X.ac.fm F (by decide) (by decide) (by decide) (by decide) (by decide)),
    (X.e),
    (X.hn),
    (X.hs),
    (X.nx),
    (X.g),
    (X.fa.fm F (by decide) (by decide)),
    (X.bb)
  ⟩

