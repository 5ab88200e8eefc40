/-! the JDK's members, new cells, final fields (my own) -/
def wA (h : Hp) (c : Nat) (f : Nat → Int32) : Hp := (fun a j => if a = c then f j else h.1 a j, h.2.1, h.2.2)
theorem cell_oA {cA : Nat → ClassId} {b c : Nat} {h : Hp} {f : Nat → Int32} : ∀ (a : Nat) (s : Sh), a ≠ c → cellE cA b (wA h c f) a s = cellE cA b h a s := fun a s ha => cellE_congr (funext fun j => by simp [wA, ha]) rfl rfl
/-- a class as a method of own makes it -/
def CL (own : String) (idx ci N : Nat) : Prop :=
  ∃ (C : String) (T : u_T) (ty0 : Nat → FieldType), cls[ci]? = some (C, T, N) ∧ (∀ x ∈ u_ws C T N, x ∈ ALLW) ∧ (∀ j, j < N → parseFieldDescriptor (T j).2.2.1 = some (ty0 j)) ∧ Cond.classLink own idx C ∈ ALLW ∧ Cond.instantiable C N ∈ ALLW ∧ Cond.initialized C ∈ ALLW ∧ (fkOf ci).length = N ∧ (∀ j, j < N → defaultValue (ty0 j) = (if (fkOf ci)[j]? = some true then Value.null else Value.int 0))
section AllocRules
variable {w : Wd} {E : GE} {cc : ByteArray} {nL pc : Nat} {own : String} {lv : List (Nat × Value)} {st : List Value} {sh : List Sh} {h : Hp} {cn sn : Nat}
theorem g_mmax (X : Cx w E cc nL own) {idx : Nat} {x y : Int32} (h1 : Cond.methodLink own idx Lib.Math.max.name ∈ ALLW) (h2 : Cond.static Lib.Math.max.name ∈ ALLW) (h3 : Cond.initialized "java/lang/Math" ∈ ALLW) (h4 : Cond.code Lib.Math.max.name Lib.Math.max.code 2 (some .int) ∈ ALLW) (hR : 1 ≤ (gR E).frames ∧ (st.map fun v => v.category).sum + 13 ≤ (gR E).locals ∧ cn ≤ (gR E).cells ∧ sn ≤ (gR E).slots) (d : decode cc pc = .ok (.invokestatic idx, 3))
    (k : G w E nL (pc + 3) lv (Value.int (if x < y then y else x) :: st) sh h cn sn) : G w E nL pc lv (Value.int y :: Value.int x :: st) sh h cn sn := fun H locs ls hP hz hS hl =>
  va_mmax X.1 X.2.1 (X.2.2.1.trans hl.1.symm) X.2.2.2.1 (X.2.2.2.2.1 _ h1) (X.2.2.2.2.1 _ h2) (X.2.2.2.2.1 _ h3) (X.2.2.2.2.1 _ h4) hR.1 hR.2.1 hR.2.2.1 hR.2.2.2 d (k H locs ls hP hz hS hl)
theorem g_mmin (X : Cx w E cc nL own) {idx : Nat} {x y : Int32} (h1 : Cond.methodLink own idx Lib.Math.min.name ∈ ALLW) (h2 : Cond.static Lib.Math.min.name ∈ ALLW) (h3 : Cond.initialized "java/lang/Math" ∈ ALLW) (h4 : Cond.code Lib.Math.min.name Lib.Math.min.code 2 (some .int) ∈ ALLW) (hR : 1 ≤ (gR E).frames ∧ (st.map fun v => v.category).sum + 13 ≤ (gR E).locals ∧ cn ≤ (gR E).cells ∧ sn ≤ (gR E).slots) (d : decode cc pc = .ok (.invokestatic idx, 3))
    (k : G w E nL (pc + 3) lv (Value.int (if y < x then y else x) :: st) sh h cn sn) : G w E nL pc lv (Value.int y :: Value.int x :: st) sh h cn sn := fun H locs ls hP hz hS hl =>
  va_mmin X.1 X.2.1 (X.2.2.1.trans hl.1.symm) X.2.2.2.1 (X.2.2.2.2.1 _ h1) (X.2.2.2.2.1 _ h2) (X.2.2.2.2.1 _ h3) (X.2.2.2.2.1 _ h4) hR.1 hR.2.1 hR.2.2.1 hR.2.2.2 d (k H locs ls hP hz hS hl)
theorem b8_cpy {f g : Nat → Int32} {a b n : Nat} : (fun j => b8 (va_cpy f g a b n j)) = va_cpy (fun j => b8 (f j)) (fun j => b8 (g j)) a b n := by
  funext j
  unfold va_cpy
  split <;> rfl
theorem g_copyb (X : Cx w E cc nL own) {idx : Nat} {r0 r1 n0 n1 : Nat} {sp dp n : Int32} (h1 : Cond.methodLink own idx arraycopyName ∈ ALLW) (h2 : Cond.native arraycopyName ∈ ALLW) (h3 : Cond.static arraycopyName ∈ ALLW) (h4 : Cond.initialized "java/lang/System" ∈ ALLW)
    (hs0 : shAt sh r0 = some (.inl (0, n0))) (hs1 : shAt sh r1 = some (.inl (0, n1))) (q1 : ¬ sp < 0) (q2 : ¬ dp < 0) (q3 : ¬ n < 0) (q4 : sp.toNatClampNeg + n.toNatClampNeg ≤ n0) (q5 : dp.toNatClampNeg + n.toNatClampNeg ≤ n1)
    (hR : 1 ≤ (gR E).frames ∧ (st.map fun v => v.category).sum + (nativeFrameWords "java/lang/System" "arraycopy" 5 + 11) ≤ (gR E).locals) (d : decode cc pc = .ok (.invokestatic idx, 3))
    (k : ∀ h1 : Hp, h1 = wA h r1 (va_cpy (h.1 r0) (h.1 r1) sp.toNatClampNeg dp.toNatClampNeg n.toNatClampNeg) → G w E nL (pc + 3) lv st sh h1 cn sn) : G w E nL pc lv (Value.int n :: Value.int dp :: rv w.2.2.2 r1 :: Value.int sp :: rv w.2.2.2 r0 :: st) sh h cn sn := by
  obtain ⟨i0, rfl, hi0⟩ := shAt_pos hs0
  obtain ⟨i1, rfl, hi1⟩ := shAt_pos hs1
  rw [rv_pos, rv_pos]
  intro H locs ls hP hz hS hl
  have he0 := wld_get (cA := w.2.2.1) (b := w.2.2.2) (h := h) hi0
  have he1 := wld_get (cA := w.2.2.1) (b := w.2.2.2) (h := h) hi1
  have hset := wld_set (cA := w.2.2.1) (b := w.2.2.2) (h := h) (h' := wA h (i1 + 1) (va_cpy (h.1 (i0 + 1)) (h.1 (i1 + 1)) sp.toNatClampNeg dp.toNatClampNeg n.toNatClampNeg)) (e := .inl (w.2.2.1 0, n1, .inl (va_cpy (fun j => b8 (h.1 (i0 + 1) j)) (fun j => b8 (h.1 (i1 + 1) j)) sp.toNatClampNeg dp.toNatClampNeg n.toNatClampNeg))) hi1 (by
    rw [← b8_cpy]
    show Sum.inl (w.2.2.1 0, n1, Sum.inl _) = _
    congr 4
    funext j
    simp [wA]) cell_oA
  exact va_copyi (D := w.2.1) (ty := .byte) (f := fun j => b8 (h.1 (i0 + 1) j)) (g := fun j => b8 (h.1 (i1 + 1) j)) X.1 X.2.1 (X.2.2.1.trans hl.1.symm) X.2.2.2.1 (X.2.2.2.2.1 _ h1) (X.2.2.2.2.1 _ h2) (X.2.2.2.2.1 _ h3) (X.2.2.2.2.1 _ h4) X.2.2.2.2.2.1 hP wld_D hS i0 i1 0 0 he0 he1 rfl rfl rfl q1 q2 q3 q4 q5 (fun j _ => pk_fb _) hR.1 hR.2 d (fun H1 locs1 hP1 _ hS1 => k _ rfl H1 locs1 ls (by rw [← hset]; exact hP1) hz hS1 hl)
theorem g_objInit (X : Cx w E cc nL own) {idx r : Nat} {s0 : Sh} (h1 : Cond.methodLink own idx Lib.objectInit ∈ ALLW) (h2 : Cond.instanceMethod Lib.objectInit ∈ ALLW) (h3 : Cond.code Lib.objectInit ⟨#[0xb1]⟩ 1 none ∈ ALLW) (hs : shAt sh r = some s0) (hR : 1 ≤ (gR E).frames ∧ (st.map fun v => v.category).sum + 12 ≤ (gR E).locals) (d : decode cc pc = .ok (.invokespecial idx, 3))
    (k : G w E nL (pc + 3) lv st sh h cn sn) : G w E nL pc lv (rv w.2.2.2 r :: st) sh h cn sn := by
  obtain ⟨i, rfl, hi⟩ := shAt_pos hs
  rw [rv_pos]
  intro H locs ls hP hz hS hl
  exact W.objInit X.1 X.2.1 X.2.2.2.1 (X.2.2.2.2.1 _ h1) (X.2.2.2.2.1 _ h2) (X.2.2.2.2.1 _ h3) rfl (hl.1.trans X.2.2.1.symm) rfl d hR.1 (by show 2 * 0 + _ + 12 ≤ _; omega) (k H locs ls hP hz hS hl)
/-- which address a new cell has -/
theorem new_at {b len q n1 : Nat} {cA : Nat → ClassId} {sh : List Sh} {h : Hp} {e : va_E} (hlen : sh.length = len) (hD : va_D (fun q => b < q) (wld cA b sh h ++ [(q, e)])) (hq : q < n1) (hn : n1 ≤ b + 1 + (len + 1)) : q = b + (len + 1) := by
  have hwl : (wld cA b sh h).length = len := by simp [wld, hlen]
  have hqe : (wld cA b sh h ++ [(q, e)])[len]? = some (q, e) := by rw [List.getElem?_append_right (by omega), hwl, Nat.sub_self]; rfl
  have h1 : b < q := hD.2 len (q, e) hqe
  rcases Nat.lt_or_ge q (b + (len + 1)) with h2 | h2
  · have hi : q - b - 1 < sh.length := by omega
    have hg := wld_get (cA := cA) (b := b) (h := h) (List.getElem?_eq_getElem hi)
    have h3 := hD.1 (q - b - 1) len _ (q, e) (by rw [List.getElem?_append_left (by omega)]; exact hg) hqe (by show b + (q - b - 1 + 1) = q; omega)
    omega
  · omega
theorem wld_app {cA : Nat → ClassId} {b : Nat} {sh : List Sh} {h : Hp} {s : Sh} : wld cA b (sh ++ [s]) h = wld cA b sh h ++ [(b + (sh.length + 1), cellE cA b h (sh.length + 1) s)] := by
  simp [wld, List.mapIdx_append]
theorem g_new (X : Cx w E cc nL own) {idx ci N : Nat} (hcl : CL own idx ci N) (hz0 : ∀ k, h.1 (sh.length + 1) k = 0 ∧ h.2.1 (sh.length + 1) k = 0) (hR : cn + 1 ≤ (gR E).cells ∧ sn + N ≤ (gR E).slots) (d : decode cc pc = .ok (.new idx, 3))
    (k : G w E nL (pc + 3) lv (rv w.2.2.2 (sh.length + 1) :: st) (sh ++ [.inr ci]) h (cn + 1) (sn + N)) : G w E nL pc lv st sh h cn sn := by
  obtain ⟨C, T, ty0, hc, hin, hty, hlk, hins, hini, hfl, hdf⟩ := hcl
  intro H locs ls hP hz hS hl
  refine va_new (D := w.2.1) (ci := ci) (fs := fsE w.2.2.2 h (sh.length + 1) (fkOf ci)) (C := C) (T := T) (N := N) X.1 X.2.1 X.2.2.2.2.1 hin ty0 hty X.2.2.2.1 (X.2.2.2.2.1 _ hlk) (X.2.2.2.2.1 _ hins) (X.2.2.2.2.1 _ hini) X.2.2.2.2.2.1 hP wld_D hS (fun q hq => Nat.lt_of_lt_of_le X.2.2.2.2.2.2.1 hq) hc (fun j hj => ?_) hR.1 hR.2 d (fun q H1 hP1 hD1 hS1 T1 hT1 X1 => ?_)
  · rw [hdf j hj]
    have hj2 : j < (fkOf ci).length := by omega
    simp only [vp_V, fsE, List.getD_eq_getElem?_getD, List.getElem?_mapIdx, List.getElem?_eq_getElem hj2, (hz0 j).1, (hz0 j).2]
    cases hb : (fkOf ci)[j] <;> simp [rv]
  · have h1 : T1.heap.size ≤ (gs E).heap.size + (cn + 1) := X1.same.2.2.1
    rw [hT1] at h1
    have hwl : (wld w.2.2.1 w.2.2.2 sh h).length = sh.length := by simp [wld]
    have hq1 := (hP1 sh.length (q, _) (by rw [List.getElem?_append_right (by omega), hwl, Nat.sub_self]; rfl)).lt
    have hq := new_at rfl hD1 hq1 (by omega)
    subst hq
    have k1 := k H1 locs ls (by rw [wld_app]; exact hP1) (by rw [List.length_append]; simp only [List.length_cons, List.length_nil]; omega) hS1 hl
    rw [rv_pos] at k1
    exact k1 T1 hT1 X1
theorem g_newarr (X : Cx w E cc nL own) {at_ : ArrayType} {t N : Nat} {n : Int32} (ht : (t = 0 ∧ newarray.typeOf at_ = .byte) ∨ (t = 1 ∧ newarray.typeOf at_ = .int) ∨ (t = 2 ∧ newarray.typeOf at_ = .long)) (harr : Cond.arrayClass (newarray.typeOf at_) ∈ ALLW) (hn : ¬ n < 0) (hN : n.toNatClampNeg = N) (hby : N * 8 ≤ 536870912) (hz0 : ∀ k, h.1 (sh.length + 1) k = 0 ∧ h.2.2 (sh.length + 1) k = 0) (hR : cn + 1 ≤ (gR E).cells ∧ sn + N ≤ (gR E).slots) (d : decode cc pc = .ok (.newarray at_, 2))
    (k : G w E nL (pc + 2) lv (rv w.2.2.2 (sh.length + 1) :: st) (sh ++ [.inl (t, N)]) h (cn + 1) (sn + N)) : G w E nL pc lv (Value.int n :: st) sh h cn sn := by
  intro H locs ls hP hz hS hl
  have key : ∀ (ty : FieldType) (a0 : vp_A) (cA0 : ClassId), newarray.typeOf at_ = ty → N * componentBytes ty ≤ 536870912 → (∀ cA : ClassId, vp_cell cA a0 = arrV cA N (fun _ => defaultValue ty)) → (∀ cA : ClassId, va_RA (gs E) cA ty → cA = cA0) → (∀ q, (q : Nat) = w.2.2.2 + (sh.length + 1) → wld w.2.2.1 w.2.2.2 sh h ++ [(q, .inl (cA0, a0))] = wld w.2.2.1 w.2.2.2 (sh ++ [.inl (t, N)]) h) → gW w E H locs cn sn (F0 (gm E) pc ls (Value.int n :: st)) := by
    intro ty a0 cA0 e1 e2 e3 e4 e5
    refine va_newa (D := w.2.1) (a0 := a0) X.1 X.2.1 (X.2.2.2.2.1 _ harr) e1 X.2.2.2.2.2.1 hP wld_D hS (fun q hq => Nat.lt_of_lt_of_le X.2.2.2.2.2.2.1 hq) e3 hn hN e2 hR.1 hR.2 d (fun q cA H1 hK1 hP1 hD1 hS1 T1 hT1 X1 => ?_)
    have hcA : cA = cA0 := e4 cA (hK1.2 3 (cA, ty) rfl).2
    subst hcA
    have h1 : T1.heap.size ≤ (gs E).heap.size + (cn + 1) := X1.same.2.2.1
    rw [hT1] at h1
    have hwl : (wld w.2.2.1 w.2.2.2 sh h).length = sh.length := by simp [wld]
    have hq1 := (hP1 sh.length (q, _) (by rw [List.getElem?_append_right (by omega), hwl, Nat.sub_self]; rfl)).lt
    have hq := new_at rfl hD1 hq1 (by omega)
    have k1 := k H1 locs ls (by rw [← e5 q hq]; exact hP1) (by rw [List.length_append]; simp only [List.length_cons, List.length_nil]; omega) hS1 hl
    rw [rv_pos, ← hq] at k1
    exact k1 T1 hT1 X1
  have hK := X.2.2.2.2.2.1
  rcases ht with ⟨rfl, e1⟩ | ⟨rfl, e1⟩ | ⟨rfl, e1⟩
  · refine key .byte (N, .inl (fun j => b8 (h.1 (sh.length + 1) j))) (w.2.2.1 0) e1 (by show N * 1 ≤ _; omega) (fun cA => ?_) (fun cA hc => ?_) (fun q hq => ?_)
    · rw [vp_cell_i]; congr 1; funext j; rw [(hz0 j).1]; rfl
    · exact Option.some.inj (hc.symm.trans (hK.2 0 (w.2.2.1 0, .byte) rfl).2)
    · rw [wld_app, hq]; rfl
  · refine key .int (N, .inl (h.1 (sh.length + 1))) (w.2.2.1 1) e1 (by show N * 4 ≤ _; omega) (fun cA => ?_) (fun cA hc => ?_) (fun q hq => ?_)
    · rw [vp_cell_i]; congr 1; funext j; rw [(hz0 j).1]; rfl
    · exact Option.some.inj (hc.symm.trans (hK.2 1 (w.2.2.1 1, .int) rfl).2)
    · rw [wld_app, hq]; rfl
  · refine key .long (N, .inr (.inl (h.2.2 (sh.length + 1)))) (w.2.2.1 2) e1 (by show N * 8 ≤ _; omega) (fun cA => ?_) (fun cA hc => ?_) (fun q hq => ?_)
    · rw [vp_cell_l]; congr 1; funext j; rw [(hz0 j).2]; rfl
    · exact Option.some.inj (hc.symm.trans (hK.2 2 (w.2.2.1 2, .long) rfl).2)
    · rw [wld_app, hq]; rfl
/-- a final field, in its class's constructor -/
def FF (own : String) (idx ci k : Nat) (ty : FieldType) (rf : Bool) : Prop :=
  ∃ (C : String) (T : u_T) (N : Nat) (ty0 : Nat → FieldType), cls[ci]? = some (C, T, N) ∧ k < N ∧ (∀ x ∈ u_ws C T N, x ∈ ALLW) ∧ (Cond.fieldLink own idx (T k).1 (T k).2.1 (T k).2.2.1) ∈ ALLW ∧ (T k).2.2.2 = true ∧ (T k).1 = own ∧ (∀ j, j < N → parseFieldDescriptor (T j).2.2.1 = some (ty0 j)) ∧ (∀ a, a < N → ∀ b, b < N → a ≠ b → (T a).2.1 ≠ (T b).2.1) ∧ parseFieldDescriptor (T k).2.2.1 = some ty ∧ (fkOf ci)[k]? = some rf ∧ (fkOf ci).length = N
theorem g_putF (X : Cx w E cc nL own) {idx ci k r : Nat} {ty : FieldType} {rf : Bool} (fl : FF own idx ci k ty rf) (hin2 : (gme E).name = "<init>") (hs : shAt sh r = some (.inr ci)) {v : Value} (hn : narrow ty v = v) (hf : fits ty v = true) {h1 : Hp} (he1 : (fsE w.2.2.2 h r (fkOf ci)).set k v = fsE w.2.2.2 h1 r (fkOf ci)) (ho : ∀ (c : Nat) (s' : Sh), c ≠ r → cellE w.2.2.1 w.2.2.2 h1 c s' = cellE w.2.2.1 w.2.2.2 h c s') (d : decode cc pc = .ok (.putfield idx, 3)) (kk : G w E nL (pc + 3) lv st sh h1 cn sn) : G w E nL pc lv (v :: rv w.2.2.2 r :: st) sh h cn sn := by
  obtain ⟨i, rfl, hi⟩ := shAt_pos hs
  obtain ⟨C, T, N, ty0, hc, hk, hin, hln, hfin, hdecl, hty, hnm, hd, hrf, hlen⟩ := fl
  rw [rv_pos]
  intro H locs ls hP hz hS hl
  have he := wld_get (cA := w.2.2.1) (b := w.2.2.2) (h := h) hi
  have hset := wld_set (cA := w.2.2.1) (b := w.2.2.2) (h := h) (h' := h1) (e := .inr (ci, (fsE w.2.2.2 h (i + 1) (fkOf ci)).set k v)) hi (by rw [he1]; rfl) ho
  have hkl : k < (fsE w.2.2.2 h (i + 1) (fkOf ci)).length := by rw [fsE_len, hlen]; exact hk
  exact va_putF (D := w.2.1) (ci := ci) (v := v) (ty := ty) (C := C) (T := T) (N := N) (fs := fsE w.2.2.2 h (i + 1) (fkOf ci)) X.1 X.2.1 X.2.2.2.2.1 hin ty0 hty hnm X.2.2.2.1 X.2.2.2.2.2.1 hP wld_D hS i he hc k hk (X.2.2.2.2.1 _ hln) (fun _ h9 => h9) hfin hin2 hdecl hd hn hf hkl d (fun H1 locs1 hP1 _ hS1 => kk H1 locs1 ls (by rw [← hset]; exact hP1) hz hS1 hl)
theorem g_putFR (X : Cx w E cc nL own) {idx ci k r : Nat} {ty : FieldType} (fl : FF own idx ci k ty true) (hin2 : (gme E).name = "<init>") (hs : shAt sh r = some (.inr ci)) {v : Nat} (hty : isRefTy ty = true) (d : decode cc pc = .ok (.putfield idx, 3)) (kk : ∀ h1 : Hp, h1 = wR h r k v → G w E nL (pc + 3) lv st sh h1 cn sn) : G w E nL pc lv (rv w.2.2.2 v :: rv w.2.2.2 r :: st) sh h cn sn :=
  g_putF X fl hin2 hs (nar_ref hty _ _).1 (nar_ref hty _ _).2 (fsE_setR (by obtain ⟨C, T, N, ty0, hc, hk, hin, hln, hfin, hdecl, hty, hnm, hd, hrf, hlen⟩ := fl; exact hrf)) cell_oR d (kk _ rfl)
theorem g_putFI (X : Cx w E cc nL own) {idx ci k r : Nat} {ty : FieldType} (fl : FF own idx ci k ty false) (hin2 : (gme E).name = "<init>") (hs : shAt sh r = some (.inr ci)) {v : Int32} (hn : narrow ty (Value.int v) = Value.int v) (hf : fits ty (Value.int v) = true) (d : decode cc pc = .ok (.putfield idx, 3)) (kk : ∀ h1 : Hp, h1 = wI h r k v → G w E nL (pc + 3) lv st sh h1 cn sn) : G w E nL pc lv (Value.int v :: rv w.2.2.2 r :: st) sh h cn sn :=
  g_putF X fl hin2 hs hn hf (fsE_setI (by obtain ⟨C, T, N, ty0, hc, hk, hin, hln, hfin, hdecl, hty, hnm, hd, hrf, hlen⟩ := fl; exact hrf)) cell_oI d (kk _ rfl)
end AllocRules
