theorem S_fail {w : Wd} {h : Hp} {o : Nat} (ho : shAt SH o = some (.inr 7)) (f pl : Int32) : C_X7_fail w SH o f pl h (fun v h1 => v = 0 ∧ h1 = wI (wI h o 12 f) o 13 pl) := by
  refine K_X7_fail ⟨ho, fun h2 e2 h4 e4 => ?_⟩
  subst e2; subst e4
  exact ⟨rfl, rfl⟩
def PH (V : Wst → Nat → Int32 → Prop) (r : Sum Nat Wst) (s : Wst) (cp : Nat) (pl0 : Int32) (v : Int32) : Prop := match r with
  | .inl f => v = 0 ∧ ∃ x y z, V (((s.sca x).sda y).saa z) f (nI cp)
  | .inr s' => v = 1 ∧ V s' 0 pl0
theorem take_snoc (l : List Nat) (d k : Nat) (h : d + k < l.length) : (l.drop d).take (k + 1) = (l.drop d).take k ++ [l.getD (d + k) 0] := by
  rw [List.take_add_one, List.getElem?_drop, List.getElem?_eq_getElem h, getD_at h]; rfl
theorem PH.v {V : Wst → Nat → Int32 → Prop} {r : Sum Nat Wst} {s : Wst} {cp : Nat} {pl0 v : Int32} (h : PH V r s cp pl0 v) : v = 0 ∨ v = 1 := by
  cases r with
  | inl f => exact Or.inl h.1
  | inr s' => exact Or.inr h.1
theorem sub2 (a b c : Nat) : nI a - nI b - nI c = nI a - nI (b + c) := by rw [← nI_add]; grind
theorem neg_sub {a b : Nat} (ha : a < 2 ^ 30) (hb : b < 2 ^ 30) (h : a < b) : nI a - nI b < 0 := by
  rw [Int32.lt_iff_toInt_lt, pk_sub_toInt ha hb]; simp; omega
theorem lsub_neg {a b : Nat} (ha : a < 2 ^ 62) (hb : b < 2 ^ 62) (h : a < b) : lN a - lN b < 0 := by
  rw [Int64.lt_iff_toInt_lt, Int64.toInt_sub, pf_lI (by omega), pf_lI (by omega)]
  simp
  rw [Int.bmod_eq_of_le] <;> omega
theorem lsub {a b : Nat} (h : b ≤ a) : lN a - lN b = lN (a - b) := by
  have : a = (a - b) + b := by omega
  rw [this, ← lN_add]
  simp
theorem lneg_cmp {v : Int64} (h : v < 0) : lg_cmp v 0 < 0 := (lg_cmp_lt _ _).mpr h
theorem lpos_cmp (a : Nat) (h : a < 2 ^ 63) : ¬ lg_cmp (lN a) 0 < 0 := by
  rw [show (0 : Int64) = lN 0 from rfl, lgLT h (by decide)]; omega
/-- what a copy comes to -/
def copR (c : Wc) (n mode : Nat) (s : Wst) : Sum Nat Wst := match adrP c mode s with
  | none => .inl 14
  | some (a, aa') => if s.sp.length ≤ a then .inl 14 else .inr (((((((s.saa (aa')).ssp (copyL a n s.sp)).snr (keepN c.T.2.1 s.nr s.nx a)).snx (keepX c.T.2.1 s.nx)).ssm (keepS c.T.2.2 s.sm a)).stl (thrT c.own s.tl 3 n)).sac (thrA c.own s.ac 3 n (nI a) mode))
/-- a window's state before its codes -/
def wiped (s : Wst) : Wst := (((s.snr (fun _ => 0)).ssm (fun _ => 0)).snx 0)
theorem RowV.rg {h h1 : Hp} {r a N : Nat} {bs : List Nat} {lo : Bool} {S : List Nat} {R : List (Nat × Nat)} (V : RowV SH h r a N bs lo) (F : Rg S R h h1) (hr : r ∉ S) (ha : a ∉ S) (h0 : (r, 0) ∉ R) : RowV SH h1 r a N bs lo := by
  obtain ⟨q1, q2, q3, q4, q5, q6, q7, q8⟩ := V
  exact ⟨q1, q2, by rw [F.2.1 _ _ h0]; exact q3, q4, q5, by rw [F.1 r hr]; exact q6, fun j hj => by rw [F.1 a ha]; exact q7 j hj, by rw [F.1 r hr]; exact q8⟩
theorem TabV.rg {h h1 : Hp} {t r a : Nat} {T : Tb} {S : List Nat} {R : List (Nat × Nat)} (V : TabV h t r a T) (F : Rg S R h h1) (ht : t ∉ S) (hr : r ∉ S) (ha : a ∉ S) (h0 : (t, 0) ∉ R) (h1' : (r, 0) ∉ R) : TabV h1 t r a T := by
  obtain ⟨q1, q2, q3, q4, q5, q6, q7, q8⟩ := V
  exact ⟨q1, by rw [F.2.1 _ _ h0]; exact q2, q3.rg F hr ha h1', q4, by rw [F.1 t ht]; exact q5, by rw [F.1 t ht]; exact q6, q7, q8⟩
theorem CurV.rg {h h1 : Hp} {c ra a e : Nat} {S : List Nat} {R : List (Nat × Nat)} (V : CurV h c ra a e) (F : Rg S R h h1) (hc : c ∉ S) (h0 : (c, 0) ∉ R) : CurV h1 c ra a e := ⟨V.1, by rw [F.2.1 _ _ h0]; exact V.2.1, by rw [F.1 c hc]; exact V.2.2.1, by rw [F.1 c hc]; exact V.2.2.2⟩
theorem LogW.rg {own : Bool} {h h1 : Hp} {l lc ld : Nat} {tl : Nat → Nat} {ac : AcL} {S : List Nat} {R : List (Nat × Nat)} (V : LogW own h l lc ld tl ac) (F : Rg S R h h1) (a : l ∉ S) (b : lc ∉ S) (c : ld ∉ S) : LogW own h1 l lc ld tl ac := by
  unfold LogW
  rw [F.1 l a, F.1 lc b, F.1 ld c]
  exact V
theorem CacW.rg {h h1 : Hp} {k kn ks N S : Nat} {nr sm : Nat → Nat} {nx : Nat} {Q : List Nat} {R : List (Nat × Nat)} (V : CacW h k kn ks N S nr sm nx) (F : Rg Q R h h1) (a : k ∉ Q) (b : kn ∉ Q) (c : ks ∉ Q) : CacW h1 k kn ks N S nr sm nx := by
  unfold CacW
  rw [F.1 k a, F.1 kn b, F.1 ks c]
  exact V
/-- the fields of the cell o, but K, are as they were -/
def Ok (o : Nat) (K : List Nat) (h h1 : Hp) : Prop := ∀ k, k ∉ K → h1.1 o k = h.1 o k
theorem Ok.rf {o : Nat} {K : List Nat} {h : Hp} : Ok o K h h := fun _ _ => rfl
theorem Ok.tr {o : Nat} {K : List Nat} {h h1 h2 : Hp} (a : Ok o K h h1) (b : Ok o K h1 h2) : Ok o K h h2 := fun k hk => (b k hk).trans (a k hk)
theorem Ok.mono {o : Nat} {K K' : List Nat} {h h1 : Hp} (a : Ok o K h h1) (hs : ∀ k, k ∈ K → k ∈ K') : Ok o K' h h1 := fun k hk => a k fun q => hk (hs k q)
theorem Rg.ok {o : Nat} {K S : List Nat} {R : List (Nat × Nat)} {h h1 : Hp} (a : Rg S R h h1) (ho : o ∉ S) : Ok o K h h1 := fun k _ => by rw [a.1 o ho]
theorem Fr.ok {o : Nat} {K S : List Nat} {h h1 : Hp} (a : Fr S h h1) (ho : o ∉ S) : Ok o K h h1 := fun k _ => by rw [a.2.2 o ho]
theorem S_layS {w : Wd} {h : Hp} {c rs as N : Nat} {out : List Nat} {lo : Bool} (hc : shAt SH c = some (.inr 9)) (V : RowV SH h rs as N out lo) (gr sp ss : Nat) (nc : c ≠ rs ∧ c ≠ as) : C_X9_lay w SH c gr (nI sp) (nI ss) rs h (fun h1 => (h1.2.1 c 0 = gr ∧ h1.1 c 1 = nI sp ∧ h1.1 c 2 = nI ss ∧ h1.2.1 c 3 = rs ∧ h1.1 c 4 = nI out.length) ∧ Rg [c] [(c, 0), (c, 3)] h h1) := by
  refine K_X9_lay ⟨hc, fun h2 e2 h4 e4 h6 e6 h8 e8 => ⟨V.1, ?_⟩⟩
  have G : Rg [c] [(c, 0), (c, 3)] h h8 := by
    rw [e8, e6, e4, e2]
    exact (((Rg.rf.putR (by simp)).putI (by simp)).putI (by simp)).putR (by simp)
  have V8 : RowV SH h8 rs as N out lo := V.rg G (by simp; exact nc.1.symm) (by simp; exact nc.2.symm) (by simp; exact fun e => nc.1 e.symm)
  refine ⟨_, S_length V8, fun v15 h14 hp h16 e16 => ?_⟩
  obtain ⟨rfl, rfl⟩ := hp
  subst e16
  refine ⟨⟨?_, ?_, ?_, ?_, wI_same⟩, G.putI (by simp)⟩
  · show h14.2.1 c 0 = gr
    rw [e8, wR_cellx (by simp), e6, e4, e2]
    exact wR_samex
  · rw [wI_idx (by decide), e8]
    show h6.1 c 1 = _
    rw [e6, wI_idx (by decide), e4, wI_same]
  · rw [wI_idx (by decide), e8]
    show h6.1 c 2 = _
    rw [e6, wI_same]
  · show h14.2.1 c 3 = rs
    rw [e8]; exact wR_samex
