/-! PURE: an opening, as class and reference both do it (my own) -/
/-- a BIG number: the bytes from p on, below e; k more of them -/
def bigGo (src : List Nat) (e : Nat) : Nat → Nat → Nat → Sum Bool (Nat × Nat)
  | 0, _, _ => .inl false
  | k + 1, p, v => if e ≤ p then .inl true else if src.getD p 0 < 128 then (if 4294967295 < v * 128 + src.getD p 0 % 128 then .inl false else .inr (v * 128 + src.getD p 0 % 128, p + 1)) else bigGo src e k (p + 1) (v * 128 + src.getD p 0 % 128)
def bigP (src : List Nat) (e p : Nat) : Sum Bool (Nat × Nat) := bigGo src e 5 p 0
theorem bigGo_ok {src : List Nat} {e : Nat} : ∀ {k p v n q : Nat}, bigGo src e k p v = .inr (n, q) → p < q ∧ q ≤ e ∧ n ≤ 4294967295
  | 0, _, _, _, _, h => by simp [bigGo] at h
  | k + 1, p, v, n, q, h => by
    unfold bigGo at h
    by_cases h1 : e ≤ p
    · simp [h1] at h
    rw [if_neg h1] at h
    by_cases h2 : src.getD p 0 < 128
    · rw [if_pos h2] at h
      by_cases h3 : 4294967295 < v * 128 + src.getD p 0 % 128
      · rw [if_pos h3] at h; cases h
      · rw [if_neg h3] at h
        injection h with h
        injection h with a b
        omega
    · rw [if_neg h2] at h
      have := bigGo_ok h
      omega
theorem bigP_ok {src : List Nat} {e p n q : Nat} (h : bigP src e p = .inr (n, q)) : p < q ∧ q ≤ e ∧ n ≤ 4294967295 := bigGo_ok h
/-- a BIG number of the head or of a window: a fault and its place, or the number and where it ends -/
def hbP (src : List Nat) (e p : Nat) : Sum (Nat × Nat) (Nat × Nat) := match bigP src e p with
  | .inl true => .inl (1, e)
  | .inl false => .inl (3, p)
  | .inr x => .inr x
theorem hbP_ok {src : List Nat} {e p n q : Nat} (h : hbP src e p = .inr (n, q)) : p < q ∧ q ≤ e ∧ n ≤ 4294967295 := by
  unfold hbP at h
  split at h
  · cases h
  · cases h
  · rename_i x hx
    injection h with h
    subst h
    exact bigP_ok hx
theorem hbP_ft {src : List Nat} {e p f q : Nat} (h : hbP src e p = .inl (f, q)) : (f = 1 ∨ f = 3) ∧ (q = e ∨ q = p) := by
  unfold hbP at h
  split at h
  · injection h with h; injection h with a b; omega
  · injection h with h; injection h with a b; omega
  · cases h
def updN (f : Nat → Nat) (k v : Nat) : Nat → Nat := fun j => if j = k then v else f j
abbrev AcL : Type := List (Nat × Nat × Int32 × Nat)
/-- what does not change while a window's codes are run -/
abbrev Wc : Type := List Nat × Nat × Nat × Nat × Nat × Nat × Tb × Bool
abbrev Wc.src (s : Wc) : List Nat := s.1
abbrev Wc.dE (s : Wc) : Nat := s.2.1
abbrev Wc.cE (s : Wc) : Nat := s.2.2.1
abbrev Wc.aE (s : Wc) : Nat := s.2.2.2.1
abbrev Wc.ss (s : Wc) : Nat := s.2.2.2.2.1
abbrev Wc.tz (s : Wc) : Nat := s.2.2.2.2.2.1
abbrev Wc.T (s : Wc) : Tb := s.2.2.2.2.2.2.1
abbrev Wc.own (s : Wc) : Bool := s.2.2.2.2.2.2.2
abbrev Wc.ssrc (s : Wc) (x : List Nat) : Wc := (x, s.2)
abbrev Wc.sdE (s : Wc) (x : Nat) : Wc := (s.1, x, s.2.2)
abbrev Wc.scE (s : Wc) (x : Nat) : Wc := (s.1, s.2.1, x, s.2.2.2)
abbrev Wc.saE (s : Wc) (x : Nat) : Wc := (s.1, s.2.1, s.2.2.1, x, s.2.2.2.2)
abbrev Wc.sss (s : Wc) (x : Nat) : Wc := (s.1, s.2.1, s.2.2.1, s.2.2.2.1, x, s.2.2.2.2.2)
abbrev Wc.stz (s : Wc) (x : Nat) : Wc := (s.1, s.2.1, s.2.2.1, s.2.2.2.1, s.2.2.2.2.1, x, s.2.2.2.2.2.2)
abbrev Wc.sT (s : Wc) (x : Tb) : Wc := (s.1, s.2.1, s.2.2.1, s.2.2.2.1, s.2.2.2.2.1, s.2.2.2.2.2.1, x, s.2.2.2.2.2.2.2)
abbrev Wc.sown (s : Wc) (x : Bool) : Wc := (s.1, s.2.1, s.2.2.1, s.2.2.2.1, s.2.2.2.2.1, s.2.2.2.2.2.1, s.2.2.2.2.2.2.1, x)
abbrev Wst : Type := Nat × Nat × Nat × List Nat × (Nat → Nat) × (Nat → Nat) × Nat × (Nat → Nat) × AcL
abbrev Wst.ca (s : Wst) : Nat := s.1
abbrev Wst.da (s : Wst) : Nat := s.2.1
abbrev Wst.aa (s : Wst) : Nat := s.2.2.1
abbrev Wst.sp (s : Wst) : List Nat := s.2.2.2.1
abbrev Wst.nr (s : Wst) : Nat → Nat := s.2.2.2.2.1
abbrev Wst.sm (s : Wst) : Nat → Nat := s.2.2.2.2.2.1
abbrev Wst.nx (s : Wst) : Nat := s.2.2.2.2.2.2.1
abbrev Wst.tl (s : Wst) : Nat → Nat := s.2.2.2.2.2.2.2.1
abbrev Wst.ac (s : Wst) : AcL := s.2.2.2.2.2.2.2.2
abbrev Wst.sca (s : Wst) (x : Nat) : Wst := (x, s.2)
abbrev Wst.sda (s : Wst) (x : Nat) : Wst := (s.1, x, s.2.2)
abbrev Wst.saa (s : Wst) (x : Nat) : Wst := (s.1, s.2.1, x, s.2.2.2)
abbrev Wst.ssp (s : Wst) (x : List Nat) : Wst := (s.1, s.2.1, s.2.2.1, x, s.2.2.2.2)
abbrev Wst.snr (s : Wst) (x : Nat → Nat) : Wst := (s.1, s.2.1, s.2.2.1, s.2.2.2.1, x, s.2.2.2.2.2)
abbrev Wst.ssm (s : Wst) (x : Nat → Nat) : Wst := (s.1, s.2.1, s.2.2.1, s.2.2.2.1, s.2.2.2.2.1, x, s.2.2.2.2.2.2)
abbrev Wst.snx (s : Wst) (x : Nat) : Wst := (s.1, s.2.1, s.2.2.1, s.2.2.2.1, s.2.2.2.2.1, s.2.2.2.2.2.1, x, s.2.2.2.2.2.2.2)
abbrev Wst.stl (s : Wst) (x : Nat → Nat) : Wst := (s.1, s.2.1, s.2.2.1, s.2.2.2.1, s.2.2.2.2.1, s.2.2.2.2.2.1, s.2.2.2.2.2.2.1, x, s.2.2.2.2.2.2.2.2)
abbrev Wst.sac (s : Wst) (x : AcL) : Wst := (s.1, s.2.1, s.2.2.1, s.2.2.2.1, s.2.2.2.2.1, s.2.2.2.2.2.1, s.2.2.2.2.2.2.1, s.2.2.2.2.2.2.2.1, x)
def cntP (own : Bool) (tl : Nat → Nat) (k n : Nat) : Nat → Nat := if own = true then updN tl k (tl k + n) else tl
def thrT (own : Bool) (tl : Nat → Nat) (kind n : Nat) : Nat → Nat := cntP own (cntP own tl kind 1) 5 n
def thrA (own : Bool) (ac : AcL) (kind n : Nat) (a : Int32) (m : Nat) : AcL := if own = true ∧ ac.length < 2000 then ac ++ [(kind, n, a, m)] else ac
def keepN (N : Nat) (nr : Nat → Nat) (nx a : Nat) : Nat → Nat := if 0 < N then updN nr nx a else nr
def keepX (N nx : Nat) : Nat := if 0 < N then (nx + 1) % N else nx
def keepS (S : Nat) (sm : Nat → Nat) (a : Nat) : Nat → Nat := if 0 < S then updN sm (a % (256 * S)) a else sm
def copyL (a : Nat) : Nat → List Nat → List Nat
  | 0, l => l
  | n + 1, l => copyL (a + 1) n (l ++ [l.getD a 0])
theorem copyL_len (a : Nat) : ∀ (n : Nat) (l : List Nat), (copyL a n l).length = l.length + n
  | 0, l => rfl
  | n + 1, l => by rw [copyL, copyL_len]; simp; omega
def adrP (c : Wc) (mode : Nat) (s : Wst) : Option (Nat × Nat) :=
  if 2 + c.T.2.1 ≤ mode then (if c.aE ≤ s.aa then none else some (s.sm (256 * (mode - 2 - c.T.2.1) + c.src.getD s.aa 0), s.aa + 1))
  else match bigP c.src c.aE s.aa with
  | .inl _ => none
  | .inr (v, q) => if mode = 0 then some (v, q) else if mode = 1 then (if v ≤ s.sp.length then some (s.sp.length - v, q) else none) else some (s.nr (mode - 2) + v, q)
/-- the size of an instruction -/
def szP (c : Wc) (told : Nat) (s : Wst) : Option (Nat × Nat) := if told = 0 then (match bigP c.src c.cE s.ca with | .inl _ => none | .inr x => some x) else some (told, s.ca)
def actP (c : Wc) (kind told mode : Nat) (s : Wst) : Sum Nat Wst :=
  if kind = 0 then .inr s else
  match szP c told s with
  | none => .inl 11
  | some (n, ca') =>
    if c.tz < s.sp.length - c.ss + n then .inl 13 else
    if kind = 3 then
      match adrP c mode s with
      | none => .inl 14
      | some (a, aa') => if s.sp.length ≤ a then .inl 14 else .inr ((((((((s.sca (ca')).saa (aa')).ssp (copyL a n s.sp)).snr (keepN c.T.2.1 s.nr s.nx a)).snx (keepX c.T.2.1 s.nx)).ssm (keepS c.T.2.2 s.sm a)).stl (thrT c.own s.tl 3 n)).sac (thrA c.own s.ac 3 n (nI a) mode))
    else if kind = 1 then
      (if c.dE - s.da < n then .inl 12 else .inr (((((s.sca (ca')).sda (s.da + n)).ssp (s.sp ++ (c.src.drop s.da).take n)).stl (thrT c.own s.tl 1 n)).sac (thrA c.own s.ac 1 n (-1) 0)))
    else
      (if c.dE ≤ s.da then .inl 12 else .inr (((((s.sca (ca')).sda (s.da + 1)).ssp (s.sp ++ List.replicate n (c.src.getD s.da 0))).stl (thrT c.own s.tl 2 n)).sac (thrA c.own s.ac 2 n (-1) 0)))
def tE (T : Tb) (i what : Nat) : Nat := T.1.getD (cellT i what) 0
def GoodT (T : Tb) : Prop := ∀ c, c < 256 → ∀ w, w = 0 ∨ w = 3 → (tE T c w = 0 ∧ tE T c (w + 1) = 0 ∧ tE T c (w + 2) = 0) ∨ ((tE T c w = 1 ∨ tE T c w = 2) ∧ tE T c (w + 2) = 0) ∨ (tE T c w = 3 ∧ tE T c (w + 2) < 2 + T.2.1 + T.2.2)
/-- one code: the fault (0: none), and what is then -/
def codeP (c : Wc) (s : Wst) : Nat × Wst :=
  let b := c.src.getD s.ca 0
  let s1 : Wst := ((s.sca (s.ca + 1)).stl (if tE c.T b 0 ≠ 0 ∧ tE c.T b 3 ≠ 0 then cntP c.own s.tl 4 1 else s.tl))
  match actP c (tE c.T b 0) (tE c.T b 1) (tE c.T b 2) s1 with
  | .inl f => (f, s1)
  | .inr s2 => match actP c (tE c.T b 3) (tE c.T b 4) (tE c.T b 5) s2 with
    | .inl f => (f, s2)
    | .inr s3 => (0, s3)
def codesP (c : Wc) : Nat → Wst → Nat × Nat × Wst
  | 0, s => (0, 0, s)
  | k + 1, s => if c.cE ≤ s.ca then (0, 0, s) else if (codeP c s).1 = 0 then codesP c k (codeP c s).2 else ((codeP c s).1, s.ca, (codeP c s).2)
def WOk (c : Wc) (s : Wst) : Prop := (s.ca ≤ c.cE) ∧ (s.da ≤ c.dE) ∧ (s.aa ≤ c.aE) ∧ (c.ss ≤ s.sp.length) ∧ (s.sp.length ≤ c.ss + c.tz) ∧ (∀ i, s.nr i < 16000) ∧ (∀ i, s.sm i < 16000) ∧ (s.nx < c.T.2.1 ∨ (c.T.2.1 = 0 ∧ s.nx = 0)) ∧ (s.ac.length ≤ 2000) ∧ (∀ b ∈ s.sp, b < 256)
theorem WOk.of {c : Wc} {s : Wst} (X : (s.ca ≤ c.cE) ∧ (s.da ≤ c.dE) ∧ (s.aa ≤ c.aE) ∧ (c.ss ≤ s.sp.length) ∧ (s.sp.length ≤ c.ss + c.tz) ∧ (∀ i, s.nr i < 16000) ∧ (∀ i, s.sm i < 16000) ∧ (s.nx < c.T.2.1 ∨ (c.T.2.1 = 0 ∧ s.nx = 0)) ∧ (s.ac.length ≤ 2000) ∧ (∀ b ∈ s.sp, b < 256)) : WOk c s := X
theorem WOk.ca {c : Wc} {s : Wst} (X : WOk c s) : s.ca ≤ c.cE := X.1
theorem WOk.da {c : Wc} {s : Wst} (X : WOk c s) : s.da ≤ c.dE := X.2.1
theorem WOk.aa {c : Wc} {s : Wst} (X : WOk c s) : s.aa ≤ c.aE := X.2.2.1
theorem WOk.s1 {c : Wc} {s : Wst} (X : WOk c s) : c.ss ≤ s.sp.length := X.2.2.2.1
theorem WOk.s2 {c : Wc} {s : Wst} (X : WOk c s) : s.sp.length ≤ c.ss + c.tz := X.2.2.2.2.1
theorem WOk.nr {c : Wc} {s : Wst} (X : WOk c s) : ∀ i, s.nr i < 16000 := X.2.2.2.2.2.1
theorem WOk.sm {c : Wc} {s : Wst} (X : WOk c s) : ∀ i, s.sm i < 16000 := X.2.2.2.2.2.2.1
theorem WOk.nx {c : Wc} {s : Wst} (X : WOk c s) : s.nx < c.T.2.1 ∨ (c.T.2.1 = 0 ∧ s.nx = 0) := X.2.2.2.2.2.2.2.1
theorem WOk.ac {c : Wc} {s : Wst} (X : WOk c s) : s.ac.length ≤ 2000 := X.2.2.2.2.2.2.2.2.1
theorem WOk.by_ {c : Wc} {s : Wst} (X : WOk c s) : ∀ b ∈ s.sp, b < 256 := X.2.2.2.2.2.2.2.2.2
def WcOk (c : Wc) : Prop := (c.dE ≤ c.src.length) ∧ (c.cE ≤ c.src.length) ∧ (c.aE ≤ c.src.length) ∧ (c.ss ≤ 8000) ∧ (c.tz ≤ 8000) ∧ (c.src.length ≤ 8000) ∧ (c.T.2.1 ≤ 32) ∧ (c.T.2.2 ≤ 16) ∧ (∀ b ∈ c.src, b < 256) ∧ (GoodT c.T) ∧ (c.T.1.length = 1536) ∧ (∀ b ∈ c.T.1, b < 256)
theorem WcOk.of {c : Wc} (X : (c.dE ≤ c.src.length) ∧ (c.cE ≤ c.src.length) ∧ (c.aE ≤ c.src.length) ∧ (c.ss ≤ 8000) ∧ (c.tz ≤ 8000) ∧ (c.src.length ≤ 8000) ∧ (c.T.2.1 ≤ 32) ∧ (c.T.2.2 ≤ 16) ∧ (∀ b ∈ c.src, b < 256) ∧ (GoodT c.T) ∧ (c.T.1.length = 1536) ∧ (∀ b ∈ c.T.1, b < 256)) : WcOk c := X
theorem WcOk.d {c : Wc} (X : WcOk c) : c.dE ≤ c.src.length := X.1
theorem WcOk.c_ {c : Wc} (X : WcOk c) : c.cE ≤ c.src.length := X.2.1
theorem WcOk.a {c : Wc} (X : WcOk c) : c.aE ≤ c.src.length := X.2.2.1
theorem WcOk.s {c : Wc} (X : WcOk c) : c.ss ≤ 8000 := X.2.2.2.1
theorem WcOk.z {c : Wc} (X : WcOk c) : c.tz ≤ 8000 := X.2.2.2.2.1
theorem WcOk.l {c : Wc} (X : WcOk c) : c.src.length ≤ 8000 := X.2.2.2.2.2.1
theorem WcOk.n {c : Wc} (X : WcOk c) : c.T.2.1 ≤ 32 := X.2.2.2.2.2.2.1
theorem WcOk.m {c : Wc} (X : WcOk c) : c.T.2.2 ≤ 16 := X.2.2.2.2.2.2.2.1
theorem WcOk.b {c : Wc} (X : WcOk c) : ∀ b ∈ c.src, b < 256 := X.2.2.2.2.2.2.2.2.1
theorem WcOk.g {c : Wc} (X : WcOk c) : GoodT c.T := X.2.2.2.2.2.2.2.2.2.1
theorem WcOk.t {c : Wc} (X : WcOk c) : c.T.1.length = 1536 := X.2.2.2.2.2.2.2.2.2.2.1
theorem WcOk.tb {c : Wc} (X : WcOk c) : ∀ b ∈ c.T.1, b < 256 := X.2.2.2.2.2.2.2.2.2.2.2
theorem getD_lt {l : List Nat} (h : ∀ b ∈ l, b < 256) (j : Nat) : l.getD j 0 < 256 := by
  rw [List.getD_eq_getElem?_getD]
  by_cases hj : j < l.length
  · rw [List.getElem?_eq_getElem hj]; exact h _ (List.getElem_mem hj)
  · rw [List.getElem?_eq_none (by omega)]; decide
theorem copyL_by (a : Nat) : ∀ (n : Nat) (l : List Nat), (∀ b ∈ l, b < 256) → ∀ b ∈ copyL a n l, b < 256
  | 0, l, h => h
  | n + 1, l, h => by
    refine copyL_by (a + 1) n _ fun b hb => ?_
    rcases List.mem_append.mp hb with q | q
    · exact h b q
    · rw [List.mem_singleton.mp q]; exact getD_lt h a
theorem thrA_len {own : Bool} {ac : AcL} {kind n : Nat} {a : Int32} {m : Nat} (h : ac.length ≤ 2000) : (thrA own ac kind n a m).length ≤ 2000 := by
  unfold thrA
  split
  · simp; omega
  · exact h
theorem szP_ok {c : Wc} {told : Nat} {s : Wst} {n q : Nat} (h : szP c told s = some (n, q)) (hs : s.ca ≤ c.cE) : s.ca ≤ q ∧ q ≤ c.cE := by
  unfold szP at h
  split at h
  · split at h
    · cases h
    · rename_i x hx
      injection h with h
      subst h
      have := bigP_ok hx
      omega
  · injection h with h; injection h with a b; omega
theorem adrP_ok {c : Wc} {mode : Nat} {s : Wst} {a q : Nat} (h : adrP c mode s = some (a, q)) (hs : s.aa ≤ c.aE) : q ≤ c.aE := by
  unfold adrP at h
  split at h
  · split at h
    · cases h
    · injection h with h; injection h with a b; omega
  · split at h
    · cases h
    · rename_i v q' hx
      have := bigP_ok hx
      split at h
      · injection h with h; injection h with a b; omega
      · split at h
        · split at h
          · injection h with h; injection h with a b; omega
          · cases h
        · injection h with h; injection h with a b; omega
theorem keepX_ok {N nx : Nat} (h : nx < N ∨ (N = 0 ∧ nx = 0)) : keepX N nx < N ∨ (N = 0 ∧ keepX N nx = 0) := by
  unfold keepX
  by_cases h0 : 0 < N
  · rw [if_pos h0]; exact Or.inl (Nat.mod_lt _ h0)
  · rw [if_neg h0]; omega
theorem updN_lt {f : Nat → Nat} {k v B : Nat} (h : ∀ i, f i < B) (hv : v < B) : ∀ i, updN f k v i < B := fun i => by
  unfold updN
  split
  · exact hv
  · exact h i
theorem actP_ok {c : Wc} (C : WcOk c) {kind told mode : Nat} {s s' : Wst} (O : WOk c s) (h : actP c kind told mode s = .inr s') : WOk c s' ∧ s.ca ≤ s'.ca := by
  unfold actP at h
  by_cases h0 : kind = 0
  · rw [if_pos h0] at h; injection h with h; subst h; exact ⟨O, Nat.le_refl _⟩
  rw [if_neg h0] at h
  split at h
  · cases h
  rename_i n q hz
  have hq := szP_ok hz O.ca
  by_cases h1 : c.tz < s.sp.length - c.ss + n
  · rw [if_pos h1] at h; cases h
  rw [if_neg h1] at h
  have o1 := O.s1
  have o2 := O.s2
  by_cases h3 : kind = 3
  · rw [if_pos h3] at h
    split at h
    · cases h
    rename_i a q' ha
    have hq' := adrP_ok ha O.aa
    by_cases h4 : s.sp.length ≤ a
    · rw [if_pos h4] at h; cases h
    rw [if_neg h4] at h
    injection h with h
    subst h
    have zs := C.s
    have zz := C.z
    have hal : a < 16000 := by omega
    refine ⟨WOk.of ⟨hq.2, O.da, hq', ?_, ?_, ?_, ?_, keepX_ok O.nx, thrA_len O.ac, copyL_by _ _ _ O.by_⟩, hq.1⟩
    · show c.ss ≤ (copyL a n s.sp).length
      rw [copyL_len]; omega
    · show (copyL a n s.sp).length ≤ _
      rw [copyL_len]; omega
    · show ∀ i, keepN _ _ _ _ i < 16000
      unfold keepN
      split
      · exact updN_lt O.nr hal
      · exact O.nr
    · show ∀ i, keepS _ _ _ i < 16000
      unfold keepS
      split
      · exact updN_lt O.sm hal
      · exact O.sm
  rw [if_neg h3] at h
  by_cases h5 : kind = 1
  · rw [if_pos h5] at h
    by_cases h6 : c.dE - s.da < n
    · rw [if_pos h6] at h; cases h
    rw [if_neg h6] at h
    injection h with h
    subst h
    have o3 := O.da
    refine ⟨WOk.of ⟨hq.2, ?_, O.aa, ?_, ?_, O.nr, O.sm, O.nx, thrA_len O.ac, ?_⟩, hq.1⟩
    · show s.da + n ≤ c.dE
      omega
    · show _ ≤ (s.sp ++ (c.src.drop s.da).take n).length
      simp; omega
    · show (s.sp ++ (c.src.drop s.da).take n).length ≤ _
      simp; omega
    · intro b hb
      rcases List.mem_append.mp hb with q | q
      · exact O.by_ b q
      · exact C.b b (List.mem_of_mem_drop (List.mem_of_mem_take q))
  rw [if_neg h5] at h
  by_cases h6 : c.dE ≤ s.da
  · rw [if_pos h6] at h; cases h
  rw [if_neg h6] at h
  injection h with h
  subst h
  refine ⟨WOk.of ⟨hq.2, ?_, O.aa, ?_, ?_, O.nr, O.sm, O.nx, thrA_len O.ac, ?_⟩, hq.1⟩
  · show s.da + 1 ≤ c.dE
    omega
  · show _ ≤ (s.sp ++ List.replicate n _).length
    simp; omega
  · show (s.sp ++ List.replicate n _).length ≤ _
    simp; omega
  · intro b hb
    rcases List.mem_append.mp hb with q | q
    · exact O.by_ b q
    · rw [(List.mem_replicate.mp q).2]; exact getD_lt C.b _
theorem actP_ft {c : Wc} {kind told mode f : Nat} {s : Wst} (h : actP c kind told mode s = .inl f) : f = 11 ∨ f = 12 ∨ f = 13 ∨ f = 14 := by
  unfold actP at h
  split at h
  · cases h
  split at h
  · injection h with h; omega
  split at h
  · injection h with h; omega
  split at h
  · split at h
    · injection h with h; omega
    split at h
    · injection h with h; omega
    · cases h
  split at h
  · split at h
    · injection h with h; omega
    · cases h
  · split at h
    · injection h with h; omega
    · cases h
/-- the window's first state of a code's two halves -/
def preC (c : Wc) (s : Wst) : Wst := ((s.sca (s.ca + 1)).stl (if tE c.T (c.src.getD s.ca 0) 0 ≠ 0 ∧ tE c.T (c.src.getD s.ca 0) 3 ≠ 0 then cntP c.own s.tl 4 1 else s.tl))
theorem preC_ok {c : Wc} {s : Wst} (O : WOk c s) (h : s.ca < c.cE) : WOk c (preC c s) := WOk.of ⟨h, O.da, O.aa, O.s1, O.s2, O.nr, O.sm, O.nx, O.ac, O.by_⟩
theorem codeP_ok {c : Wc} (C : WcOk c) {s : Wst} (O : WOk c s) (h : s.ca < c.cE) : WOk c (codeP c s).2 ∧ s.ca < (codeP c s).2.ca ∧ ((codeP c s).1 = 0 ∨ (codeP c s).1 = 11 ∨ (codeP c s).1 = 12 ∨ (codeP c s).1 = 13 ∨ (codeP c s).1 = 14) := by
  have P := preC_ok O h
  unfold codeP
  simp only []
  rw [show (((s.sca (s.ca + 1)).stl (if tE c.T (c.src.getD s.ca 0) 0 ≠ 0 ∧ tE c.T (c.src.getD s.ca 0) 3 ≠ 0 then cntP c.own s.tl 4 1 else s.tl)) : Wst) = preC c s from rfl]
  have hp : (preC c s).ca = s.ca + 1 := rfl
  split
  · rename_i f hf
    exact ⟨P, by simp only [hp]; omega, by have := actP_ft hf; simp only; omega⟩
  · rename_i s2 h2
    have P2 := actP_ok C P h2
    split
    · rename_i f hf
      exact ⟨P2.1, by simp only; omega, by have := actP_ft hf; simp only; omega⟩
    · rename_i s3 h3
      have P3 := actP_ok C P2.1 h3
      exact ⟨P3.1, by simp only; omega, Or.inl rfl⟩
theorem codesP_end {c : Wc} {k : Nat} {s : Wst} (h : c.cE ≤ s.ca) : codesP c k s = (0, 0, s) := by
  cases k with
  | zero => rfl
  | succ k => rw [codesP, if_pos h]
theorem codesP_ok {c : Wc} (C : WcOk c) : ∀ {k : Nat} {s : Wst}, WOk c s → c.cE - s.ca ≤ k → WOk c (codesP c k s).2.2 ∧ ((codesP c k s).1 = 0 ∧ c.cE ≤ (codesP c k s).2.2.ca ∨ (codesP c k s).1 = 11 ∨ (codesP c k s).1 = 12 ∨ (codesP c k s).1 = 13 ∨ (codesP c k s).1 = 14)
  | 0, s, O, h => ⟨O, Or.inl ⟨rfl, by show c.cE ≤ s.ca; omega⟩⟩
  | k + 1, s, O, h => by
    unfold codesP
    by_cases h1 : c.cE ≤ s.ca
    · rw [if_pos h1]; exact ⟨O, Or.inl ⟨rfl, h1⟩⟩
    rw [if_neg h1]
    obtain ⟨q1, q2, q3⟩ := codeP_ok C O (by omega)
    by_cases h2 : (codeP c s).1 = 0
    · rw [if_pos h2]; exact codesP_ok C q1 (by omega)
    · rw [if_neg h2]; exact ⟨q1, Or.inr (by simp only; omega)⟩
theorem adl_lt (l : List Nat) : adl l < 2 ^ 33 := by
  have key : ∀ (l : List Nat) (q : Nat × Nat), q.1 < 65521 → q.2 < 65521 → (l.foldl adlS q).1 < 65521 ∧ (l.foldl adlS q).2 < 65521 := by
    intro l
    induction l with
    | nil => exact fun q a b => ⟨a, b⟩
    | cons x l ih => exact fun q _ _ => ih _ (Nat.mod_lt _ (by decide)) (Nat.mod_lt _ (by decide))
  have := key l (1, 0) (by decide) (by decide)
  unfold adl
  omega
def sumGo (src : List Nat) (p : Nat) : Nat → Nat
  | 0 => 0
  | k + 1 => sumGo src p k * 256 + src.getD (p + k) 0
theorem sumGo_lt {src : List Nat} (h : ∀ b ∈ src, b < 256) (p : Nat) : ∀ k, sumGo src p k < 256 ^ k
  | 0 => by simp [sumGo]
  | k + 1 => by
    have h1 := sumGo_lt h p k
    have h2 := getD_lt h (p + k)
    rw [sumGo, Nat.pow_succ]
    omega
/-- a window's codes, its end and its sum: fault, its place, what is then -/
def runP (c : Wc) (summed : Bool) (sumPlace : Nat) (s : Wst) : Nat × Nat × Wst :=
  let r := codesP c (c.cE - s.ca) s
  if r.1 ≠ 0 then r else
  if r.2.2.sp.length < c.ss + c.tz ∨ r.2.2.da < c.dE ∨ r.2.2.aa < c.aE then (15, c.cE, r.2.2) else
  if summed = true ∧ sumGo c.src sumPlace 4 ≠ adl (r.2.2.sp.drop c.ss) then (16, sumPlace, r.2.2) else r
def segP (src : List Nat) (e p b baseL outL : Nat) : Sum (Nat × Nat) (Nat × Nat × Nat) :=
  if b % 4 = 0 then .inr (0, 0, p) else
  match hbP src e p with
  | .inl f => .inl f
  | .inr (n, p1) => match hbP src e p1 with
    | .inl f => .inl f
    | .inr (q, p2) => if (if b % 2 = 1 then baseL else outL) < q + n then .inl (7, p) else .inr (n, q, p2)
def tgtP (src : List Nat) (e p outL : Nat) : Sum (Nat × Nat) (Nat × Nat) :=
  match hbP src e p with
  | .inl f => .inl f
  | .inr (n, p1) => if 8000 - outL < n then .inl (10, p) else if e < p1 + 1 then .inl (1, e) else if src.getD p1 0 ≠ 0 then .inl (9, p1) else .inr (n, p1 + 1)
/-- a window's sizes: of the target, of its three parts, and where the sum stands -/
abbrev Sz : Type := Nat × Nat × Nat × Nat × Nat
abbrev Sz.tz (s : Sz) : Nat := s.1
abbrev Sz.d (s : Sz) : Nat := s.2.1
abbrev Sz.c (s : Sz) : Nat := s.2.2.1
abbrev Sz.a (s : Sz) : Nat := s.2.2.2.1
abbrev Sz.sm (s : Sz) : Nat := s.2.2.2.2
abbrev Sz.stz (s : Sz) (x : Nat) : Sz := (x, s.2)
abbrev Sz.sd (s : Sz) (x : Nat) : Sz := (s.1, x, s.2.2)
abbrev Sz.sc (s : Sz) (x : Nat) : Sz := (s.1, s.2.1, x, s.2.2.2)
abbrev Sz.sa (s : Sz) (x : Nat) : Sz := (s.1, s.2.1, s.2.2.1, x, s.2.2.2.2)
abbrev Sz.ssm (s : Sz) (x : Nat) : Sz := (s.1, s.2.1, s.2.2.1, s.2.2.2.1, x)
def sumN (b : Nat) : Nat := if 4 ≤ b then 4 else 0
def sizP (src : List Nat) (e p b outL : Nat) : Sum (Nat × Nat) Sz :=
  match hbP src e p with
  | .inl f => .inl f
  | .inr (fo, p1) => match tgtP src e p1 outL with
    | .inl f => .inl f
    | .inr (tz, p2) => match hbP src e p2 with
      | .inl f => .inl f
      | .inr (d, p3) => match hbP src e p3 with
        | .inl f => .inl f
        | .inr (c, p4) => match hbP src e p4 with
          | .inl f => .inl f
          | .inr (a, p5) => if e < p5 + sumN b then .inl (1, e) else if fo ≠ p5 + sumN b - p1 + (d + c + a) then .inl (8, p) else if e < p5 + sumN b + (d + c + a) then .inl (1, e) else .inr ⟨tz, d, c, a, p5⟩
abbrev Ost : Type := Nat × List Nat × (Nat → Nat) × (Nat → Nat) × Nat × (Nat → Nat) × AcL × Nat × Nat
abbrev Ost.fa (s : Ost) : Nat := s.1
abbrev Ost.out (s : Ost) : List Nat := s.2.1
abbrev Ost.nr (s : Ost) : Nat → Nat := s.2.2.1
abbrev Ost.sm (s : Ost) : Nat → Nat := s.2.2.2.1
abbrev Ost.nx (s : Ost) : Nat := s.2.2.2.2.1
abbrev Ost.tl (s : Ost) : Nat → Nat := s.2.2.2.2.2.1
abbrev Ost.ac (s : Ost) : AcL := s.2.2.2.2.2.2.1
abbrev Ost.ft (s : Ost) : Nat := s.2.2.2.2.2.2.2.1
abbrev Ost.pl (s : Ost) : Nat := s.2.2.2.2.2.2.2.2
abbrev Ost.sfa (s : Ost) (x : Nat) : Ost := (x, s.2)
abbrev Ost.sout (s : Ost) (x : List Nat) : Ost := (s.1, x, s.2.2)
abbrev Ost.snr (s : Ost) (x : Nat → Nat) : Ost := (s.1, s.2.1, x, s.2.2.2)
abbrev Ost.ssm (s : Ost) (x : Nat → Nat) : Ost := (s.1, s.2.1, s.2.2.1, x, s.2.2.2.2)
abbrev Ost.snx (s : Ost) (x : Nat) : Ost := (s.1, s.2.1, s.2.2.1, s.2.2.2.1, x, s.2.2.2.2.2)
abbrev Ost.stl (s : Ost) (x : Nat → Nat) : Ost := (s.1, s.2.1, s.2.2.1, s.2.2.2.1, s.2.2.2.2.1, x, s.2.2.2.2.2.2)
abbrev Ost.sac (s : Ost) (x : AcL) : Ost := (s.1, s.2.1, s.2.2.1, s.2.2.2.1, s.2.2.2.2.1, s.2.2.2.2.2.1, x, s.2.2.2.2.2.2.2)
abbrev Ost.sft (s : Ost) (x : Nat) : Ost := (s.1, s.2.1, s.2.2.1, s.2.2.2.1, s.2.2.2.2.1, s.2.2.2.2.2.1, s.2.2.2.2.2.2.1, x, s.2.2.2.2.2.2.2.2)
abbrev Ost.spl (s : Ost) (x : Nat) : Ost := (s.1, s.2.1, s.2.2.1, s.2.2.2.1, s.2.2.2.2.1, s.2.2.2.2.2.1, s.2.2.2.2.2.2.1, s.2.2.2.2.2.2.2.1, x)
def segL (b n q : Nat) (base out : List Nat) : List Nat := if b % 4 = 0 then [] else if b % 2 = 1 then (base.drop q).take n else (out.drop q).take n
def wcP (own : Bool) (T : Tb) (src : List Nat) (b n : Nat) (z : Sz) : Wc := ⟨src, z.sm + sumN b + z.d, z.sm + sumN b + z.d + z.c, z.sm + sumN b + z.d + z.c + z.a, n, z.tz, T, own⟩
def w0P (b : Nat) (z : Sz) (seg : List Nat) (tl : Nat → Nat) (ac : AcL) : Wst := ⟨z.sm + sumN b + z.d, z.sm + sumN b, z.sm + sumN b + z.d + z.c, seg, fun _ => 0, fun _ => 0, 0, tl, ac⟩
def Ost.bad (s : Ost) (f q : Nat) : Ost := ((s.sft f).spl q)
def Ost.ran (s : Ost) (n p : Nat) (r : Nat × Nat × Wst) : Ost := ⟨p, s.out ++ r.2.2.sp.drop n, r.2.2.nr, r.2.2.sm, r.2.2.nx, r.2.2.tl, r.2.2.ac, r.1, r.2.1⟩
def windowP (own : Bool) (T : Tb) (base src : List Nat) (e : Nat) (s : Ost) : Ost :=
  let b := src.getD s.fa 0
  if 7 < b ∨ b % 4 = 3 then s.bad 6 s.fa else
  let s1 : Ost := (s.stl (cntP own s.tl 0 1))
  match segP src e (s.fa + 1) b base.length s.out.length with
  | .inl (f, q) => s1.bad f q
  | .inr (n, q, p1) => match sizP src e p1 b s.out.length with
    | .inl (f, q) => s1.bad f q
    | .inr z => s1.ran n (z.sm + sumN b + z.d + z.c + z.a) (runP (wcP own T src b n z) (decide (4 ≤ b)) z.sm (w0P b z (segL b n q base s.out) s1.tl s1.ac))
def winsP (own : Bool) (T : Tb) (base src : List Nat) (e : Nat) : Nat → Ost → Ost
  | 0, s => s
  | k + 1, s => if s.ft ≠ 0 ∨ e ≤ s.fa then s else winsP own T base src e k (windowP own T base src e s)
def headP (own : Bool) (src : List Nat) (e p : Nat) : Sum (Nat × Nat) (Nat × Nat) :=
  if e < p + 4 then .inl (1, e) else
  if ¬ (src.getD p 0 = 214 ∧ src.getD (p + 1) 0 = 195 ∧ src.getD (p + 2) 0 = 196 ∧ src.getD (p + 3) 0 = 0) then .inl (2, p) else
  if e < p + 5 then .inl (1, e) else
  if ¬ (src.getD (p + 4) 0 = 0 ∨ src.getD (p + 4) 0 = 4 ∨ own = true ∧ (src.getD (p + 4) 0 = 2 ∨ src.getD (p + 4) 0 = 6)) then .inl (4, p + 4) else .inr (src.getD (p + 4) 0, p + 5)
def apxP (src : List Nat) (e p : Nat) : Sum (Nat × Nat) (Nat × Nat) := match hbP src e p with
  | .inl f => .inl f
  | .inr (n, q) => if e < q + n then .inl (1, e) else .inr (n, q + n)
/-- what comes behind the head (and the table) -/
def bodyP (own : Bool) (T : Tb) (base src : List Nat) (e b : Nat) (s : Ost) : Ost :=
  if b = 4 ∨ b = 6 then
    match apxP src e s.fa with
    | .inl (f, q) => s.bad f q
    | .inr (n, q) => winsP own T base src e (e - q) ((s.sfa q).stl (cntP own s.tl 6 n))
  else winsP own T base src e (e - s.fa) s
def ost0 (p : Nat) (tl : Nat → Nat) : Ost := ⟨p, [], fun _ => 0, fun _ => 0, 0, tl, [], 0, 0⟩
/-- the file that is given as table, from p to e -/
noncomputable def subP (src : List Nat) (p e : Nat) : Ost := match headP false src e p with
  | .inl (f, q) => (ost0 p fun _ => 0).bad f q
  | .inr (b, q) => bodyP false (UBy, 4, 3) UBy src e b (ost0 q fun _ => 0)
def tabHP (src : List Nat) (e p : Nat) : Sum (Nat × Nat) (Nat × Nat) := match hbP src e p with
  | .inl f => .inl f
  | .inr (n, q) => if e < q + n then .inl (1, e) else if n < 2 ∨ 32 < src.getD q 0 ∨ 16 < src.getD (q + 1) 0 then .inl (5, q) else .inr (n, q)
def goodB (T : Tb) : Bool := (List.range 256).all fun c => [0, 3].all fun w => decide ((tE T c w = 0 ∧ tE T c (w + 1) = 0 ∧ tE T c (w + 2) = 0) ∨ ((tE T c w = 1 ∨ tE T c w = 2) ∧ tE T c (w + 2) = 0) ∨ (tE T c w = 3 ∧ tE T c (w + 2) < 2 + T.2.1 + T.2.2))
theorem goodB_iff (T : Tb) : goodB T = true ↔ GoodT T := by
  unfold goodB GoodT
  rw [List.all_eq_true]
  constructor
  · intro h c hc w hw
    have h1 := List.all_eq_true.mp (h c (List.mem_range.mpr hc)) w (by simp; exact hw)
    exact of_decide_eq_true h1
  · intro h c hc
    rw [List.all_eq_true]
    intro w hw
    exact decide_eq_true (h c (List.mem_range.mp hc) w (by simpa using hw))
noncomputable def openP (old src : List Nat) : Tb × Ost := match headP true src src.length 0 with
  | .inl (f, q) => ((UBy, 4, 3), (ost0 0 fun _ => 0).bad f q)
  | .inr (b, p) => if b = 2 ∨ b = 6 then (match tabHP src src.length p with
      | .inl (f, q) => ((UBy, 4, 3), (ost0 p fun _ => 0).bad f q)
      | .inr (n, q) => if (subP src (q + 2) (q + n)).ft = 0 ∧ (subP src (q + 2) (q + n)).out.length = 1536 ∧ goodB ((subP src (q + 2) (q + n)).out, src.getD q 0, src.getD (q + 1) 0) = true then (((subP src (q + 2) (q + n)).out, src.getD q 0, src.getD (q + 1) 0), bodyP true ((subP src (q + 2) (q + n)).out, src.getD q 0, src.getD (q + 1) 0) old src src.length b (ost0 (q + n) (cntP true (fun _ => 0) 7 1))) else ((UBy, 4, 3), (ost0 p fun _ => 0).bad 5 q))
    else ((UBy, 4, 3), bodyP true (UBy, 4, 3) old src src.length b (ost0 p fun _ => 0))
noncomputable def openF (s : St) : Int32 × St :=
  let r := openP s.2.2.1 s.1
  if r.2.ft = 0 then (nI r.2.out.length, (s.1, r.2.out, s.2.2.1, s.2.2.2.1, (r.1, r.2.tl, r.2.ac, r.2.nr, r.2.sm, -1)))
  else (-10 - nI r.2.ft, (s.1, s.2.1, s.2.2.1, s.2.2.2.1, (r.1, r.2.tl, r.2.ac, r.2.nr, r.2.sm, nI r.2.pl)))
