/-! PURE: a making, as class and reference both do it (my own) -/
def sameGo (sp : List Nat) (q p : Nat) : Nat → Nat → Nat
  | 0, n => n
  | k + 1, n => if sp.getD (q + n) 0 = sp.getD (p + n) 0 then sameGo sp q p k (n + 1) else n
/-- how many bytes at q are as those at p -/
def sameN (sp : List Nat) (q p : Nat) : Nat := sameGo sp q p (sp.length - p) 0
def runGo (sp : List Nat) (p : Nat) : Nat → Nat → Nat
  | 0, n => n
  | k + 1, n => if sp.getD (p + n) 0 = sp.getD p 0 then runGo sp p k (n + 1) else n
def runN (sp : List Nat) (p : Nat) : Nat := runGo sp p (sp.length - p) 0
theorem sameGo_le {sp : List Nat} {q p : Nat} : ∀ {k n : Nat}, n ≤ sameGo sp q p k n ∧ sameGo sp q p k n ≤ n + k
  | 0, n => ⟨Nat.le_refl _, Nat.le_refl _⟩
  | k + 1, n => by
    rw [sameGo]
    split
    · have := sameGo_le (sp := sp) (q := q) (p := p) (k := k) (n := n + 1); omega
    · omega
theorem runGo_le {sp : List Nat} {p : Nat} : ∀ {k n : Nat}, n ≤ runGo sp p k n ∧ runGo sp p k n ≤ n + k
  | 0, n => ⟨Nat.le_refl _, Nat.le_refl _⟩
  | k + 1, n => by
    rw [runGo]
    split
    · have := runGo_le (sp := sp) (p := p) (k := k) (n := n + 1); omega
    · omega
theorem sameGo_eq {sp : List Nat} {q p : Nat} : ∀ {k n j : Nat}, n ≤ j → j < sameGo sp q p k n → sp.getD (q + j) 0 = sp.getD (p + j) 0
  | 0, n, j, h1, h2 => by rw [sameGo] at h2; omega
  | k + 1, n, j, h1, h2 => by
    rw [sameGo] at h2
    split at h2
    · rename_i hq
      by_cases hj : j = n
      · rw [hj]; exact hq
      · exact sameGo_eq (k := k) (n := n + 1) (by omega) h2
    · omega
theorem sameN_le (sp : List Nat) (q p : Nat) : sameN sp q p ≤ sp.length - p := by
  have := (sameGo_le (sp := sp) (q := q) (p := p) (k := sp.length - p) (n := 0)).2
  unfold sameN; omega
theorem runN_le {sp : List Nat} {p : Nat} (h : p < sp.length) : 1 ≤ runN sp p ∧ runN sp p ≤ sp.length - p := by
  have h1 := (runGo_le (sp := sp) (p := p) (k := sp.length - p) (n := 0)).2
  unfold runN
  refine ⟨?_, by omega⟩
  rw [show sp.length - p = (sp.length - p - 1) + 1 by omega, runGo, Nat.add_zero, if_pos rfl]
  exact (runGo_le (n := 0 + 1)).1
/-- the places below c, the latest first: at most 16 that repeat four bytes or more; the first of the longest -/
def scan (sp : List Nat) (p : Nat) : Nat → Nat → Nat → Nat → Nat × Nat
  | 0, _, b, m => (b, m)
  | c + 1, l, b, m => if 16 ≤ l then (b, m) else if 4 ≤ sameN sp c p then scan sp p c (l + 1) (if m < sameN sp c p then c else b) (if m < sameN sp c p then sameN sp c p else m) else scan sp p c l b m
def findP (sp : List Nat) (p : Nat) : Nat × Nat := if p + 4 ≤ sp.length then scan sp p p 0 0 0 else (0, 0)
theorem scan_ok {sp : List Nat} {p B : Nat} : ∀ {c l b m : Nat}, c ≤ B → (m = 0 ∨ 4 ≤ m ∧ m ≤ sp.length - p ∧ b < B) → ((scan sp p c l b m).2 = 0 ∨ 4 ≤ (scan sp p c l b m).2 ∧ (scan sp p c l b m).2 ≤ sp.length - p ∧ (scan sp p c l b m).1 < B)
  | 0, l, b, m, _, h => h
  | c + 1, l, b, m, hc, h => by
    rw [scan]
    split
    · exact h
    split
    · rename_i h4
      have hn := sameN_le sp c p
      apply scan_ok (by omega)
      split
      · exact Or.inr ⟨h4, hn, by omega⟩
      · exact h
    · exact scan_ok (by omega) h
theorem findP_ok (sp : List Nat) (p : Nat) : (findP sp p).2 = 0 ∨ 4 ≤ (findP sp p).2 ∧ (findP sp p).2 ≤ sp.length - p ∧ (findP sp p).1 < p := by
  unfold findP
  split
  · exact scan_ok (Nat.le_refl _) (Or.inl rfl)
  · exact Or.inl rfl
/-- places of which none repeats four bytes are passed over -/
theorem scan_skip {sp : List Nat} {p : Nat} : ∀ {m c l b k : Nat}, c ≤ m → (∀ j, c ≤ j → j < m → ¬ 4 ≤ sameN sp j p) → l < 16 → scan sp p m l b k = scan sp p c l b k
  | 0, c, l, b, k, hc, _, _ => by rw [show c = 0 by omega]
  | m + 1, c, l, b, k, hc, h, hl => by
    by_cases q : c = m + 1
    · rw [q]
    · rw [scan, if_neg (by omega), if_neg (h m (by omega) (by omega))]
      exact scan_skip (by omega) (fun j h1 h2 => h j h1 (by omega)) hl
abbrev Sp3 : Type := Nat × Nat × Nat
def lastS (L : List Sp3) : Sp3 := L.getD (L.length - 1) (0, 0, 0)
/-- one byte more that is added -/
def addS (L : List Sp3) : List Sp3 := if (lastS L).1 = 1 ∧ (lastS L).2.1 < 255 then L.set (L.length - 1) (1, (lastS L).2.1 + 1, (lastS L).2.2) else L ++ [(1, 1, 0)]
def stepP (sp : List Nat) (p : Nat) (L : List Sp3) : Nat × List Sp3 :=
  if 4 ≤ runN sp p ∧ (findP sp p).2 ≤ runN sp p then (p + runN sp p, L ++ [(2, runN sp p, 0)])
  else if 0 < (findP sp p).2 then (p + (findP sp p).2, L ++ [(3, (findP sp p).2, (findP sp p).1)]) else (p + 1, addS L)
def stepsP (sp : List Nat) : Nat → Nat → List Sp3 → List Sp3
  | 0, _, L => L
  | k + 1, p, L => if p < sp.length then stepsP sp k (stepP sp p L).1 (stepP sp p L).2 else L
theorem stepP_adv {sp : List Nat} {p : Nat} {L : List Sp3} (h : p < sp.length) : p < (stepP sp p L).1 ∧ (stepP sp p L).1 ≤ sp.length := by
  have h1 := runN_le h
  have h2 := findP_ok sp p
  unfold stepP
  split
  · simp only; omega
  split
  · simp only; omega
  · simp only; omega
theorem stepsP_end {sp : List Nat} {k p : Nat} {L : List Sp3} (h : sp.length ≤ p) : stepsP sp k p L = L := by
  cases k with
  | zero => rfl
  | succ k => rw [stepsP, if_neg (by omega)]
theorem stepsP_fuel {sp : List Nat} {k p : Nat} {L : List Sp3} (hk : sp.length - p ≤ k) (h : p < sp.length) : stepsP sp k p L = stepsP sp (k - 1) (stepP sp p L).1 (stepP sp p L).2 := by
  rw [show k = (k - 1) + 1 by omega, stepsP, if_pos h]
  rfl
/-! modes -/
def nearGo (nr : Nat → Nat) (a : Nat) : Nat → Nat → Nat × Nat → Nat × Nat
  | 0, _, q => q
  | j + 1, k, q => nearGo nr a j (k + 1) (if nr k ≤ a ∧ bigLen (a - nr k) < bigLen q.2 then (2 + k, a - nr k) else q)
def self0 (a here : Nat) : Nat × Nat := if bigLen (here - a) < bigLen a then (1, here - a) else (0, a)
/-- the mode of an address, and its bytes -/
def tellP (N S : Nat) (nr sm : Nat → Nat) (a here : Nat) : Nat × List Nat :=
  if 0 < S ∧ sm (a % (256 * S)) = a ∧ 1 < bigLen (nearGo nr a N 0 (self0 a here)).2 then (2 + N + a % (256 * S) / 256, [a % 256]) else ((nearGo nr a N 0 (self0 a here)).1, bigB (nearGo nr a N 0 (self0 a here)).2)
abbrev Mst : Type := Nat × List Nat × List Nat × (Nat → Nat) × (Nat → Nat) × Nat
abbrev Mst.p (s : Mst) : Nat := s.1
abbrev Mst.md (s : Mst) : List Nat := s.2.1
abbrev Mst.ad (s : Mst) : List Nat := s.2.2.1
abbrev Mst.nr (s : Mst) : Nat → Nat := s.2.2.2.1
abbrev Mst.sm (s : Mst) : Nat → Nat := s.2.2.2.2.1
abbrev Mst.nx (s : Mst) : Nat := s.2.2.2.2.2
def mst0 (p : Nat) : Mst := (p, [], [], fun _ => 0, fun _ => 0, 0)
def mstep (N S : Nat) (s : Mst) (x : Sp3) : Mst :=
  if x.1 = 3 then (s.p + x.2.1, s.md ++ [(tellP N S s.nr s.sm x.2.2 s.p).1], s.ad ++ (tellP N S s.nr s.sm x.2.2 s.p).2, keepN N s.nr s.nx x.2.2, keepS S s.sm x.2.2, keepX N s.nx)
  else (s.p + x.2.1, s.md ++ [0], s.ad, s.nr, s.sm, s.nx)
def modesP (N S p : Nat) (L : List Sp3) : Mst := L.foldl (mstep N S) (mst0 p)
theorem modesP_snoc (N S p : Nat) (L : List Sp3) (x : Sp3) : modesP N S p (L ++ [x]) = mstep N S (modesP N S p L) x := by
  unfold modesP; rw [List.foldl_append]; rfl
theorem set_last {α : Type} (L : List α) (x : α) (h : 0 < L.length) : L.set (L.length - 1) x = L.dropLast ++ [x] := by
  rcases List.eq_nil_or_concat L with q | ⟨l, y, q⟩
  · subst q; simp at h
  · subst q; simp
theorem drop_last {α : Type} (L : List α) (d : α) (h : 0 < L.length) : L = L.dropLast ++ [L.getD (L.length - 1) d] := by
  rcases List.eq_nil_or_concat L with q | ⟨l, y, q⟩
  · subst q; simp at h
  · subst q; simp
theorem lastS_ne {L : List Sp3} (h : (lastS L).1 = 1) : 0 < L.length := by
  cases L with
  | nil => exact absurd h (by decide)
  | cons x l => simp
theorem addS_merge {L : List Sp3} (h : (lastS L).1 = 1 ∧ (lastS L).2.1 < 255) : L = L.dropLast ++ [(1, (lastS L).2.1, (lastS L).2.2)] ∧ addS L = L.dropLast ++ [(1, (lastS L).2.1 + 1, (lastS L).2.2)] := by
  have h0 := lastS_ne h.1
  constructor
  · have e : (lastS L) = (1, (lastS L).2.1, (lastS L).2.2) := by rw [← h.1]
    rw [← e]
    exact drop_last L (0, 0, 0) h0
  · unfold addS
    rw [if_pos h, set_last _ _ h0]
theorem modesP_merge {N S p : Nat} {L : List Sp3} (h : (lastS L).1 = 1 ∧ (lastS L).2.1 < 255) : modesP N S p (addS L) = ((modesP N S p L).p + 1, (modesP N S p L).2) := by
  obtain ⟨e1, e2⟩ := addS_merge h
  have e3 : modesP N S p L = mstep N S (modesP N S p L.dropLast) (1, (lastS L).2.1, (lastS L).2.2) := by
    conv => lhs; rw [e1]
    exact modesP_snoc ..
  rw [e2, modesP_snoc, e3]
  unfold mstep
  rw [if_neg (by show ¬ (1 : Nat) = 3; decide), if_neg (by show ¬ (1 : Nat) = 3; decide)]
  rfl
theorem modesP_push {N S p : Nat} {L : List Sp3} (k n a : Nat) (hk : k ≠ 3) : modesP N S p (L ++ [(k, n, a)]) = ((modesP N S p L).p + n, (modesP N S p L).md ++ [0], (modesP N S p L).2.2) := by
  rw [modesP_snoc]; unfold mstep; rw [if_neg hk]
theorem modesP_copy {N S p : Nat} {L : List Sp3} (n a : Nat) : modesP N S p (L ++ [(3, n, a)]) = ((modesP N S p L).p + n, (modesP N S p L).md ++ [(tellP N S (modesP N S p L).nr (modesP N S p L).sm a (modesP N S p L).p).1], (modesP N S p L).ad ++ (tellP N S (modesP N S p L).nr (modesP N S p L).sm a (modesP N S p L).p).2, keepN N (modesP N S p L).nr (modesP N S p L).nx a, keepS S (modesP N S p L).sm a, keepX N (modesP N S p L).nx) := by
  rw [modesP_snoc]; unfold mstep; rw [if_pos rfl]
theorem modesP_len (N S p : Nat) (L : List Sp3) : (modesP N S p L).md.length = L.length := by
  have key : ∀ (L : List Sp3) (s : Mst), (L.foldl (mstep N S) s).md.length = s.md.length + L.length := by
    intro L
    induction L with
    | nil => intro s; simp
    | cons x l ih =>
      intro s
      rw [List.foldl_cons, ih]
      have : (mstep N S s x).md.length = s.md.length + 1 := by
        unfold mstep
        split
        · show (s.md ++ [_]).length = _
          simp
        · show (s.md ++ [_]).length = _
          simp
      rw [this, List.length_cons]; omega
  have := key L (mst0 p)
  unfold modesP
  rw [this]
  simp [mst0]
/-! data -/
def dstep (sp : List Nat) (s : Nat × List Nat) (x : Sp3) : Nat × List Nat := (s.1 + x.2.1, s.2 ++ (if x.1 = 1 then (sp.drop s.1).take x.2.1 else if x.1 = 2 then [sp.getD s.1 0] else []))
def dataP (sp : List Nat) (p : Nat) (L : List Sp3) : Nat × List Nat := L.foldl (dstep sp) (p, [])
theorem dataP_snoc (sp : List Nat) (p : Nat) (L : List Sp3) (x : Sp3) : dataP sp p (L ++ [x]) = dstep sp (dataP sp p L) x := by
  unfold dataP; rw [List.foldl_append]; rfl
theorem dataP_p (sp : List Nat) (N S p : Nat) (L : List Sp3) : (dataP sp p L).1 = (modesP N S p L).p := by
  have key : ∀ (L : List Sp3) (s : Mst) (d : Nat × List Nat), d.1 = s.p → (L.foldl (dstep sp) d).1 = (L.foldl (mstep N S) s).p := by
    intro L
    induction L with
    | nil => intro s d h; exact h
    | cons x l ih =>
      intro s d h
      rw [List.foldl_cons, List.foldl_cons]
      apply ih
      show d.1 + x.2.1 = _
      unfold mstep
      split
      · show _ = s.p + x.2.1
        rw [h]
      · show _ = s.p + x.2.1
        rw [h]
  exact key L _ _ rfl
/-! codes -/
abbrev Mv : Type := Nat × Nat × Nat
/-- the moves: kind, size, mode -/
def movesP (L : List Sp3) (md : List Nat) : List Mv := (List.range L.length).map fun i => ((L.getD i (0, 0, 0)).1, (L.getD i (0, 0, 0)).2.1, md.getD i 0)
def lf (P : Nat → Bool) : Nat → Option Nat
  | 0 => none
  | j + 1 => if P (255 - j) = true then some (255 - j) else lf P j
def fstB (T : Tb) (m : Mv) (n c : Nat) : Bool := decide (tE T c 0 = m.1 ∧ tE T c 1 = n ∧ tE T c 2 = m.2.2)
def sndB (T : Tb) (m : Mv) (c : Nat) : Bool := decide (tE T c 3 = m.1 ∧ tE T c 4 = m.2.1 ∧ tE T c 5 = m.2.2)
def alnB (T : Tb) (m : Mv) (n c : Nat) : Bool := decide (tE T c 3 = 0) && fstB T m n c
def botB (T : Tb) (M : List Mv) (i c : Nat) : Bool := fstB T (M.getD i (0, 0, 0)) (M.getD i (0, 0, 0)).2.1 c && decide (i + 1 < M.length) && sndB T (M.getD (i + 1) (0, 0, 0)) c
def codeM (T : Tb) (M : List Mv) (i : Nat) : Option (List Nat × Nat) := match lf (botB T M i) 256 with
  | some c => some ([c], 2)
  | none => match lf (alnB T (M.getD i (0, 0, 0)) (M.getD i (0, 0, 0)).2.1) 256 with
    | some c => some ([c], 1)
    | none => match lf (alnB T (M.getD i (0, 0, 0)) 0) 256 with
      | some c => some (c :: bigB (M.getD i (0, 0, 0)).2.1, 1)
      | none => none
def codesM (T : Tb) (M : List Mv) : Nat → Nat → List Nat → Option (List Nat)
  | 0, _, acc => some acc
  | k + 1, i, acc => if i < M.length then (match codeM T M i with
      | none => none
      | some (b, d) => codesM T M k (i + d) (acc ++ b)) else some acc
theorem lf_lt {P : Nat → Bool} : ∀ {j c : Nat}, j ≤ 256 → lf P j = some c → c < 256 ∧ 256 - j ≤ c ∧ P c = true
  | 0, c, _, h => by cases h
  | j + 1, c, hj, h => by
    rw [lf] at h
    split at h
    · injection h with h; subst h; exact ⟨by omega, by omega, by assumption⟩
    · obtain ⟨a, b, c⟩ := lf_lt (by omega) h
      exact ⟨a, by omega, c⟩
theorem lf_none {P : Nat → Bool} : ∀ {j : Nat}, j ≤ 256 → (lf P j = none ↔ ∀ c, 256 - j ≤ c → c < 256 → P c = false)
  | 0, _ => ⟨fun _ c h1 h2 => by omega, fun _ => rfl⟩
  | j + 1, hj => by
    rw [lf]
    constructor
    · intro h c h1 h2
      split at h
      · cases h
      · rename_i q
        by_cases e : c = 255 - j
        · rw [e]; simpa using q
        · exact (lf_none (by omega)).mp h c (by omega) h2
    · intro h
      rw [if_neg (by rw [h _ (by omega) (by omega)]; decide)]
      exact (lf_none (by omega)).mpr fun c h1 h2 => h c (by omega) h2
theorem lf_skip {P : Nat → Bool} : ∀ {j i : Nat}, i ≤ j → j ≤ 256 → (∀ c, 256 - j ≤ c → c < 256 - i → P c = false) → lf P j = lf P i
  | 0, i, hi, _, _ => by rw [show i = 0 by omega]
  | j + 1, i, hi, hj, h => by
    by_cases e : i = j + 1
    · rw [e]
    · rw [lf, if_neg (by rw [h _ (by omega) (by omega)]; decide)]
      exact lf_skip (by omega) (by omega) fun c h1 h2 => h c (by omega) h2
theorem codeM_d {T : Tb} {M : List Mv} {i : Nat} {b : List Nat} {d : Nat} (h : codeM T M i = some (b, d)) : 1 ≤ d ∧ d ≤ 2 := by
  unfold codeM at h
  split at h
  · injection h with h; injection h with h1 h2; omega
  split at h
  · injection h with h; injection h with h1 h2; omega
  split at h
  · injection h with h; injection h with h1 h2; omega
  · cases h
theorem codesM_end {T : Tb} {M : List Mv} {k i : Nat} {acc : List Nat} (h : M.length ≤ i) : codesM T M k i acc = some acc := by
  cases k with
  | zero => rfl
  | succ k => rw [codesM, if_neg (by omega)]
/-! a window, and all of them -/
/-- one window: the segment, the bytes, the table, the mark of the segment, its place, whether summed -/
def winM (T : Tb) (seg tgt : List Nat) (mark place : Nat) (sm : Bool) : Option (List Nat) :=
  let sp := seg ++ tgt
  let L := stepsP sp tgt.length seg.length []
  let ms := modesP T.2.1 T.2.2 seg.length L
  let d := (dataP sp seg.length L).2
  match codesM T (movesP L ms.md) L.length 0 [] with
  | none => none
  | some cs => some ([mark + (if sm = true then 4 else 0)] ++ (if 0 < seg.length then bigB seg.length ++ bigB place else []) ++ bigB (bigLen tgt.length + 1 + bigLen d.length + bigLen cs.length + bigLen ms.ad.length + (if sm = true then 4 else 0) + (d.length + cs.length + ms.ad.length)) ++ bigB tgt.length ++ [0] ++ bigB d.length ++ bigB cs.length ++ bigB ms.ad.length ++ (if sm = true then lowL (lN (adl tgt)) 4 else []) ++ d ++ cs ++ ms.ad)
/-- the windows from `from` on: old bytes, marks -/
def winsM (T : Tb) (src old : List Nat) (sm came : Bool) : Nat → Nat → List Nat → Option (List Nat)
  | 0, _, acc => some acc
  | k + 1, fr, acc => if fr < src.length then
      (match winM T (if 0 < old.length then old else if came = true ∧ 0 < fr then (src.drop (fr - 2048)).take 2048 else []) ((src.drop fr).take 2048) (if 0 < old.length then 1 else if came = true ∧ 0 < fr then 2 else 0) (if 0 < old.length then 0 else fr - 2048) sm with
      | none => none
      | some b => winsM T src old sm came k (fr + 2048) (acc ++ b)) else some acc
def headB (b : Nat) : List Nat := [214, 195, 196, 0, b]
noncomputable def tabFile (g : Tb) : Option (List Nat) := winsM (UBy, 4, 3) g.1 UBy false false 4 0 (headB 0)
/-- what make says, but for its room -/
noncomputable def fileM (row old : List Nat) (g : Tb) (marks : Nat) : Option (List Nat) :=
  if marks / 2 % 2 = 1 then
    (match tabFile g with
    | none => none
    | some tf => winsM g row old (decide (marks % 2 = 1)) (decide (4 ≤ marks)) 4 0 (headB 2 ++ bigB (2 + tf.length) ++ [g.2.1, g.2.2] ++ tf))
  else winsM (UBy, 4, 3) row old (decide (marks % 2 = 1)) (decide (4 ≤ marks)) 4 0 (headB 0)
noncomputable def makeF (s : St) (q : Int32) : Int32 × St :=
  if q < 0 ∨ 7 < q then (-2, s) else
  if q.toNatClampNeg / 2 % 2 = 1 ∧ goodB s.2.2.2.1 = false then (-3, s) else
  if 6000 < s.1.length then (-4, s) else
  match fileM s.1 s.2.2.1 s.2.2.2.1 q.toNatClampNeg with
  | none => (-3, s)
  | some f => if 8000 < f.length then (-4, s) else (nI f.length, (s.1, f, s.2.2.1, s.2.2.2.1, s.2.2.2.2))
