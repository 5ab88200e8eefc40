/-! THE CORE (my own): cells have numbers, cell c lies at the address b + c; the state of all cells is h = (ints, refs, longs); G: the machine at pc, with locals lv, stack st, cells of shapes sh that hold h, comes to its end -/
abbrev Sh : Type := (Nat × Nat) ⊕ Nat
abbrev Hp : Type := (Nat → Nat → Int32) × (Nat → Nat → Nat) × (Nat → Nat → Int64)
def b8 (x : Int32) : Int32 := x.toInt8.toInt32
def rv (b r : Nat) : Value := if r = 0 then Value.null else Value.ref (b + r)
def shAt (sh : List Sh) (c : Nat) : Option Sh := match c with
  | 0 => none
  | c + 1 => sh[c]?
def wI (h : Hp) (c k : Nat) (v : Int32) : Hp := (fun a j => if a = c ∧ j = k then v else h.1 a j, h.2.1, h.2.2)
def wR (h : Hp) (c k r : Nat) : Hp := (h.1, fun a j => if a = c ∧ j = k then r else h.2.1 a j, h.2.2)
def wJ (h : Hp) (c k : Nat) (v : Int64) : Hp := (h.1, h.2.1, fun a j => if a = c ∧ j = k then v else h.2.2 a j)
def fsE (b : Nat) (h : Hp) (c : Nat) (ks : List Bool) : List Value := ks.mapIdx fun k r => if r = true then rv b (h.2.1 c k) else Value.int (h.1 c k)
def fkOf (ci : Nat) : List Bool := fkinds.getD ci []
def cellE (cA : Nat → ClassId) (b : Nat) (h : Hp) (c : Nat) (s : Sh) : va_E := match s with
  | .inl (0, n) => .inl (cA 0, n, .inl (fun j => b8 (h.1 c j)))
  | .inl (1, n) => .inl (cA 1, n, .inl (h.1 c))
  | .inl (_, n) => .inl (cA 2, n, .inr (.inl (h.2.2 c)))
  | .inr ci => .inr (ci, fsE b h c (fkOf ci))
def wld (cA : Nat → ClassId) (b : Nat) (sh : List Sh) (h : Hp) : va_W := sh.mapIdx fun i s => (b + (i + 1), cellE cA b h (i + 1) s)
def tysOf (cA : Nat → ClassId) : List (ClassId × FieldType) := [(cA 0, .byte), (cA 1, .int), (cA 2, .long)]
theorem shAt_pos {sh : List Sh} {c : Nat} {s : Sh} (h : shAt sh c = some s) : ∃ i, c = i + 1 ∧ sh[i]? = some s := by
  cases c with
  | zero => cases h
  | succ i => exact ⟨i, rfl, h⟩
theorem rv_pos {b i : Nat} : rv b (i + 1) = Value.ref (b + (i + 1)) := by simp [rv]
theorem rv_cat (b r : Nat) : (rv b r).category = 1 := by
  unfold rv
  split <;> rfl
theorem wld_get {cA : Nat → ClassId} {b i : Nat} {sh : List Sh} {h : Hp} {s : Sh} (hs : sh[i]? = some s) : (wld cA b sh h)[i]? = some (b + (i + 1), cellE cA b h (i + 1) s) := by
  simp [wld, List.getElem?_mapIdx, hs]
theorem wld_inv {cA : Nat → ClassId} {b i : Nat} {sh : List Sh} {h : Hp} {q : Nat × va_E} (hs : (wld cA b sh h)[i]? = some q) : q.1 = b + (i + 1) ∧ i < sh.length := by
  simp only [wld, List.getElem?_mapIdx] at hs
  cases hk : sh[i]? with
  | none => rw [hk] at hs; cases hs
  | some s => rw [hk] at hs; cases hs; exact ⟨rfl, (List.getElem?_eq_some_iff.mp hk).1⟩
theorem wld_D {cA : Nat → ClassId} {b : Nat} {sh : List Sh} {h : Hp} : va_D (fun q => b < q) (wld cA b sh h) := by
  refine ⟨fun i j p q hi hj e => ?_, fun k q hk => ?_⟩
  · have h1 := (wld_inv hi).1
    have h2 := (wld_inv hj).1
    omega
  · have h1 := (wld_inv hk).1
    show b < q.1
    omega
theorem wld_set {cA : Nat → ClassId} {b i : Nat} {sh : List Sh} {h h' : Hp} {s : Sh} {e : va_E} (hs : sh[i]? = some s) (he : cellE cA b h' (i + 1) s = e) (ho : ∀ (c : Nat) (s' : Sh), c ≠ i + 1 → cellE cA b h' c s' = cellE cA b h c s') : (wld cA b sh h).set i (b + (i + 1), e) = wld cA b sh h' := by
  apply List.ext_getElem?
  intro k
  by_cases hk : k = i
  · subst hk
    have hl : k < (wld cA b sh h).length := by
      have := (List.getElem?_eq_some_iff.mp hs).1
      simpa [wld] using this
    rw [List.getElem?_set_self hl, wld_get hs, he]
  · rw [List.getElem?_set_ne (Ne.symm hk)]
    simp only [wld, List.getElem?_mapIdx]
    cases hq : sh[k]? with
    | none => rfl
    | some s' => simp [ho (k + 1) s' (by omega)]
theorem cellE_congr {cA : Nat → ClassId} {b c : Nat} {h h' : Hp} {s : Sh} (h1 : h'.1 c = h.1 c) (h2 : h'.2.1 c = h.2.1 c) (h3 : h'.2.2 c = h.2.2 c) : cellE cA b h' c s = cellE cA b h c s := by
  unfold cellE fsE
  rw [h1, h2, h3]
theorem cell_oI {cA : Nat → ClassId} {b c k : Nat} {h : Hp} {v : Int32} : ∀ (a : Nat) (s : Sh), a ≠ c → cellE cA b (wI h c k v) a s = cellE cA b h a s := fun a s ha => cellE_congr (funext fun j => by simp [wI, ha]) rfl rfl
theorem cell_oR {cA : Nat → ClassId} {b c k r : Nat} {h : Hp} : ∀ (a : Nat) (s : Sh), a ≠ c → cellE cA b (wR h c k r) a s = cellE cA b h a s := fun a s ha => cellE_congr rfl (funext fun j => by simp [wR, ha]) rfl
theorem cell_oJ {cA : Nat → ClassId} {b c k : Nat} {h : Hp} {v : Int64} : ∀ (a : Nat) (s : Sh), a ≠ c → cellE cA b (wJ h c k v) a s = cellE cA b h a s := fun a s ha => cellE_congr rfl rfl (funext fun j => by simp [wJ, ha])
abbrev Wd : Type := Launch × va_G × (Nat → ClassId) × Nat
abbrev GE : Type := Program × Env × Room × State × MethodId × Array Value × List Frame × Method × Code × (State → Prop)
abbrev gR (E : GE) : Room := E.2.2.1
abbrev gs (E : GE) : State := E.2.2.2.1
abbrev gm (E : GE) : MethodId := E.2.2.2.2.1
abbrev ga (E : GE) : Array Value := E.2.2.2.2.2.1
abbrev gbe (E : GE) : List Frame := E.2.2.2.2.2.2.1
abbrev gme (E : GE) : Method := E.2.2.2.2.2.2.2.1
abbrev gc (E : GE) : Code := E.2.2.2.2.2.2.2.2.1
abbrev gQ (E : GE) : State → Prop := E.2.2.2.2.2.2.2.2.2
abbrev gW (w : Wd) (E : GE) (H : Heap) (locs : List Loc) (cn sn : Nat) (g : JFrame) : Prop := W E.1 w.1 E.2.1 (gR E) (gs E) (gm E) (ga E) (gbe E) (gme E) (gc E) H locs cn sn (gQ E) g
/-- the machine at pc comes to its end -/
def G (w : Wd) (E : GE) (nL pc : Nat) (lv : List (Nat × Value)) (st : List Value) (sh : List Sh) (h : Hp) (cn sn : Nat) : Prop :=
  ∀ (H : Heap) (locs : List Loc) (ls : Array Slot), va_P w.2.1 cls (wld w.2.2.1 w.2.2.2 sh h) H → (gs E).heap.size + cn = w.2.2.2 + 1 + sh.length → va_S (fun q => w.2.2.2 < q) (gs E).heap H locs → lv_has ls nL lv → gW w E H locs cn sn (F0 (gm E) pc ls st)
/-- the words of nest mates -/
def Nst (U : State) : Prop := ∀ x ∈ NESTW, va_Nw x U
theorem nest_cases {x : Cond} (h : isNest x = true) : (∃ a i b n d k, x = .fieldLinkNest a i b n d k) ∨ (∃ a i y k, x = .methodLinkNest a i y k) := by
  cases x <;> first | exact Or.inl ⟨_, _, _, _, _, _, rfl⟩ | exact Or.inr ⟨_, _, _, _, rfl⟩ | (simp [isNest] at h)
theorem Nst.warm {s U : State} (hW : s.WarmedH U.vm) (h : Nst s) : Nst U := by
  intro x hx
  rcases nest_cases (List.mem_filter.mp hx).2 with ⟨a, i, b, n, d, k, rfl⟩ | ⟨a, i, y, k, rfl⟩
  · exact va_Nw.warmF hW (h _ hx)
  · exact va_Nw.warmM hW (h _ hx)
theorem Nst.same {u U : State} (e : u.vm = U.vm) (h : Nst u) : Nst U := by
  intro x hx
  rcases nest_cases (List.mem_filter.mp hx).2 with ⟨a, i, b, n, d, k, rfl⟩ | ⟨a, i, y, k, rfl⟩
  · exact va_Nw.same rfl e (h _ hx)
  · exact va_Nw.same rfl e (h _ hx)
/-- what holds all through a method -/
def Cx (w : Wd) (E : GE) (cc : ByteArray) (nL : Nat) (own : String) : Prop :=
  E.1.tables.exec = Jvm.exec ∧ (gc E).code = cc ∧ (gc E).maxLocals = nL ∧ (gs E).vm.findClass own = some (gm E).cls ∧ (∀ x ∈ ALLW, x.before (ga E) (gs E) = true) ∧ va_K w.2.1 cls (tysOf w.2.2.1) (gs E) ∧ w.2.2.2 < (gs E).heap.size ∧ Nst (gs E)
/-- a field of a class, as a method of own names it -/
def FL (own : String) (idx ci k : Nat) (ty : FieldType) (fin rf : Bool) : Prop :=
  ∃ (C : String) (T : u_T) (N : Nat) (ty0 : Nat → FieldType), cls[ci]? = some (C, T, N) ∧ k < N ∧ (∀ x ∈ u_ws C T N, x ∈ ALLW) ∧ ((Cond.fieldLink own idx (T k).1 (T k).2.1 (T k).2.2.1) ∈ ALLW ∨ ∃ host, (Cond.fieldLinkNest own idx (T k).1 (T k).2.1 (T k).2.2.1 host) ∈ NESTW) ∧ (T k).2.2.2 = fin ∧ (∀ j, j < N → parseFieldDescriptor (T j).2.2.1 = some (ty0 j)) ∧ (∀ a, a < N → ∀ b, b < N → a ≠ b → (T a).2.1 ≠ (T b).2.1) ∧ parseFieldDescriptor (T k).2.2.1 = some ty ∧ (fkOf ci)[k]? = some rf ∧ (fkOf ci).length = N
section CoreRules
variable {w : Wd} {E : GE} {cc : ByteArray} {nL pc : Nat} {own : String} {lv : List (Nat × Value)} {st : List Value} {sh : List Sh} {h : Hp} {cn sn : Nat}
theorem g_eq {pc2 : Nat} {st2 : List Value} (e1 : pc = pc2) (e2 : st = st2) (k : G w E nL pc2 lv st2 sh h cn sn) : G w E nL pc lv st sh h cn sn := by
  subst e1; subst e2; exact k
theorem g_lv {lv2 : List (Nat × Value)} (ks : List Nat) (hl : lv_pick lv ks = lv2) (k : G w E nL pc lv2 st sh h cn sn) : G w E nL pc lv st sh h cn sn := fun H locs ls hP hz hS hl' => k H locs ls hP hz hS (lv_sub hl' ks hl)

theorem g_iconst (X : Cx w E cc nL own) {n : Int} {v : Int32} (d : decode cc pc = .ok (.iconst n, 1)) (hv : Int32.ofInt n = v) (k : G w E nL (pc + 1) lv (Value.int v :: st) sh h cn sn) : G w E nL pc lv (st) sh h cn sn := fun H locs ls hP hz hS hl => lv_iconst X.1 X.2.1 d hv (k H locs ls hP hz hS hl)
theorem g_bipush (X : Cx w E cc nL own) {n : Int} {v : Int32} (d : decode cc pc = .ok (.bipush n, 2)) (hv : (Int8.ofInt n).toInt32 = v) (k : G w E nL (pc + 2) lv (Value.int v :: st) sh h cn sn) : G w E nL pc lv (st) sh h cn sn := fun H locs ls hP hz hS hl => lv_bipush X.1 X.2.1 d hv (k H locs ls hP hz hS hl)
theorem g_sipush (X : Cx w E cc nL own) {n : Int} {v : Int32} (d : decode cc pc = .ok (.sipush n, 3)) (hv : (Int16.ofInt n).toInt32 = v) (k : G w E nL (pc + 3) lv (Value.int v :: st) sh h cn sn) : G w E nL pc lv (st) sh h cn sn := fun H locs ls hP hz hS hl => lv_sipush X.1 X.2.1 d hv (k H locs ls hP hz hS hl)
theorem g_lconst (X : Cx w E cc nL own) {n : Fin 2} {v : Int64} (d : decode cc pc = .ok (.lconst n, 1)) (hv : Int64.ofNat (n : Nat) = v) (k : G w E nL (pc + 1) lv (Value.long v :: st) sh h cn sn) : G w E nL pc lv (st) sh h cn sn := fun H locs ls hP hz hS hl => lv_lconst X.1 X.2.1 d hv (k H locs ls hP hz hS hl)
theorem g_iadd (X : Cx w E cc nL own) {x y : Int32} (d : decode cc pc = .ok (.iadd, 1)) (k : G w E nL (pc + 1) lv (Value.int (x + y) :: st) sh h cn sn) : G w E nL pc lv (Value.int y :: Value.int x :: st) sh h cn sn := fun H locs ls hP hz hS hl => lv_iadd X.1 X.2.1 d (k H locs ls hP hz hS hl)
theorem g_isub (X : Cx w E cc nL own) {x y : Int32} (d : decode cc pc = .ok (.isub, 1)) (k : G w E nL (pc + 1) lv (Value.int (x - y) :: st) sh h cn sn) : G w E nL pc lv (Value.int y :: Value.int x :: st) sh h cn sn := fun H locs ls hP hz hS hl => lv_isub X.1 X.2.1 d (k H locs ls hP hz hS hl)
theorem g_imul (X : Cx w E cc nL own) {x y : Int32} (d : decode cc pc = .ok (.imul, 1)) (k : G w E nL (pc + 1) lv (Value.int (x * y) :: st) sh h cn sn) : G w E nL pc lv (Value.int y :: Value.int x :: st) sh h cn sn := fun H locs ls hP hz hS hl => lv_imul X.1 X.2.1 d (k H locs ls hP hz hS hl)
theorem g_iand (X : Cx w E cc nL own) {x y : Int32} (d : decode cc pc = .ok (.iand, 1)) (k : G w E nL (pc + 1) lv (Value.int (x &&& y) :: st) sh h cn sn) : G w E nL pc lv (Value.int y :: Value.int x :: st) sh h cn sn := fun H locs ls hP hz hS hl => lv_iand X.1 X.2.1 d (k H locs ls hP hz hS hl)
theorem g_ior (X : Cx w E cc nL own) {x y : Int32} (d : decode cc pc = .ok (.ior, 1)) (k : G w E nL (pc + 1) lv (Value.int (x ||| y) :: st) sh h cn sn) : G w E nL pc lv (Value.int y :: Value.int x :: st) sh h cn sn := fun H locs ls hP hz hS hl => lv_ior X.1 X.2.1 d (k H locs ls hP hz hS hl)
theorem g_ixor (X : Cx w E cc nL own) {x y : Int32} (d : decode cc pc = .ok (.ixor, 1)) (k : G w E nL (pc + 1) lv (Value.int (x ^^^ y) :: st) sh h cn sn) : G w E nL pc lv (Value.int y :: Value.int x :: st) sh h cn sn := fun H locs ls hP hz hS hl => lv_ixor X.1 X.2.1 d (k H locs ls hP hz hS hl)
theorem g_ishl (X : Cx w E cc nL own) {x y : Int32} (d : decode cc pc = .ok (.ishl, 1)) (k : G w E nL (pc + 1) lv (Value.int (x <<< (y &&& 31)) :: st) sh h cn sn) : G w E nL pc lv (Value.int y :: Value.int x :: st) sh h cn sn := fun H locs ls hP hz hS hl => lv_ishl X.1 X.2.1 d (k H locs ls hP hz hS hl)
theorem g_ishr (X : Cx w E cc nL own) {x y : Int32} (d : decode cc pc = .ok (.ishr, 1)) (k : G w E nL (pc + 1) lv (Value.int (x >>> (y &&& 31)) :: st) sh h cn sn) : G w E nL pc lv (Value.int y :: Value.int x :: st) sh h cn sn := fun H locs ls hP hz hS hl => lv_ishr X.1 X.2.1 d (k H locs ls hP hz hS hl)
theorem g_idiv (X : Cx w E cc nL own) {x y : Int32} (d : decode cc pc = .ok (.idiv, 1)) (hne : ¬ y = 0) (k : G w E nL (pc + 1) lv (Value.int (x / y) :: st) sh h cn sn) : G w E nL pc lv (Value.int y :: Value.int x :: st) sh h cn sn := fun H locs ls hP hz hS hl => lv_idiv X.1 X.2.1 d hne (k H locs ls hP hz hS hl)
theorem g_irem (X : Cx w E cc nL own) {x y : Int32} (d : decode cc pc = .ok (.irem, 1)) (hne : ¬ y = 0) (k : G w E nL (pc + 1) lv (Value.int (x - x / y * y) :: st) sh h cn sn) : G w E nL pc lv (Value.int y :: Value.int x :: st) sh h cn sn := fun H locs ls hP hz hS hl => lv_irem X.1 X.2.1 d hne (k H locs ls hP hz hS hl)
theorem g_ineg (X : Cx w E cc nL own) {x : Int32} (d : decode cc pc = .ok (.ineg, 1)) (k : G w E nL (pc + 1) lv (Value.int (-x) :: st) sh h cn sn) : G w E nL pc lv (Value.int x :: st) sh h cn sn := fun H locs ls hP hz hS hl => lv_ineg X.1 X.2.1 d (k H locs ls hP hz hS hl)
theorem g_ladd (X : Cx w E cc nL own) {x y : Int64} (d : decode cc pc = .ok (.ladd, 1)) (k : G w E nL (pc + 1) lv (Value.long (x + y) :: st) sh h cn sn) : G w E nL pc lv (Value.long y :: Value.long x :: st) sh h cn sn := fun H locs ls hP hz hS hl => lv_ladd X.1 X.2.1 d (k H locs ls hP hz hS hl)
theorem g_lsub (X : Cx w E cc nL own) {x y : Int64} (d : decode cc pc = .ok (.lsub, 1)) (k : G w E nL (pc + 1) lv (Value.long (x - y) :: st) sh h cn sn) : G w E nL pc lv (Value.long y :: Value.long x :: st) sh h cn sn := fun H locs ls hP hz hS hl => lv_lsub X.1 X.2.1 d (k H locs ls hP hz hS hl)
theorem g_lmul (X : Cx w E cc nL own) {x y : Int64} (d : decode cc pc = .ok (.lmul, 1)) (k : G w E nL (pc + 1) lv (Value.long (x * y) :: st) sh h cn sn) : G w E nL pc lv (Value.long y :: Value.long x :: st) sh h cn sn := fun H locs ls hP hz hS hl => lv_lmul X.1 X.2.1 d (k H locs ls hP hz hS hl)
theorem g_land (X : Cx w E cc nL own) {x y : Int64} (d : decode cc pc = .ok (.land, 1)) (k : G w E nL (pc + 1) lv (Value.long (x &&& y) :: st) sh h cn sn) : G w E nL pc lv (Value.long y :: Value.long x :: st) sh h cn sn := fun H locs ls hP hz hS hl => lv_land X.1 X.2.1 d (k H locs ls hP hz hS hl)
theorem g_lor (X : Cx w E cc nL own) {x y : Int64} (d : decode cc pc = .ok (.lor, 1)) (k : G w E nL (pc + 1) lv (Value.long (x ||| y) :: st) sh h cn sn) : G w E nL pc lv (Value.long y :: Value.long x :: st) sh h cn sn := fun H locs ls hP hz hS hl => lv_lor X.1 X.2.1 d (k H locs ls hP hz hS hl)
theorem g_ldiv (X : Cx w E cc nL own) {x y : Int64} (d : decode cc pc = .ok (.ldiv, 1)) (hne : ¬ y = 0) (k : G w E nL (pc + 1) lv (Value.long (x / y) :: st) sh h cn sn) : G w E nL pc lv (Value.long y :: Value.long x :: st) sh h cn sn := fun H locs ls hP hz hS hl => lv_ldiv X.1 X.2.1 d hne (k H locs ls hP hz hS hl)
theorem g_lrem (X : Cx w E cc nL own) {x y : Int64} (d : decode cc pc = .ok (.lrem, 1)) (hne : ¬ y = 0) (k : G w E nL (pc + 1) lv (Value.long (x - x / y * y) :: st) sh h cn sn) : G w E nL pc lv (Value.long y :: Value.long x :: st) sh h cn sn := fun H locs ls hP hz hS hl => lv_lrem X.1 X.2.1 d hne (k H locs ls hP hz hS hl)
theorem g_lcmp (X : Cx w E cc nL own) {x y : Int64} (d : decode cc pc = .ok (.lcmp, 1)) (k : G w E nL (pc + 1) lv (Value.int (lg_cmp x y) :: st) sh h cn sn) : G w E nL pc lv (Value.long y :: Value.long x :: st) sh h cn sn := fun H locs ls hP hz hS hl => W.lcmp X.1 X.2.1 d (k H locs ls hP hz hS hl)
theorem g_i2l (X : Cx w E cc nL own) {x : Int32} (d : decode cc pc = .ok (.i2l, 1)) (k : G w E nL (pc + 1) lv (Value.long (x.toInt64) :: st) sh h cn sn) : G w E nL pc lv (Value.int x :: st) sh h cn sn := fun H locs ls hP hz hS hl => lv_i2l X.1 X.2.1 d rfl (k H locs ls hP hz hS hl)
theorem g_l2i (X : Cx w E cc nL own) {x : Int64} (d : decode cc pc = .ok (.l2i, 1)) (k : G w E nL (pc + 1) lv (Value.int (x.toInt32) :: st) sh h cn sn) : G w E nL pc lv (Value.long x :: st) sh h cn sn := fun H locs ls hP hz hS hl => lv_l2i X.1 X.2.1 d rfl (k H locs ls hP hz hS hl)
theorem g_i2b (X : Cx w E cc nL own) {x : Int32} (d : decode cc pc = .ok (.i2b, 1)) (k : G w E nL (pc + 1) lv (Value.int (b8 x) :: st) sh h cn sn) : G w E nL pc lv (Value.int x :: st) sh h cn sn := fun H locs ls hP hz hS hl => lv_i2b X.1 X.2.1 d rfl (k H locs ls hP hz hS hl)
theorem g_iushr (X : Cx w E cc nL own) {x y : Int32} (d : decode cc pc = .ok (.iushr, 1)) (k : G w E nL (pc + 1) lv (Value.int ((x.toUInt32 >>> (y.toUInt32 &&& Int32.toUInt32 31)).toInt32) :: st) sh h cn sn) : G w E nL pc lv (Value.int y :: Value.int x :: st) sh h cn sn := fun H locs ls hP hz hS hl => lv_iushr X.1 X.2.1 d rfl (k H locs ls hP hz hS hl)
theorem g_lushr (X : Cx w E cc nL own) {x : Int64} {y : Int32} (d : decode cc pc = .ok (.lushr, 1)) (k : G w E nL (pc + 1) lv (Value.long ((x.toUInt64 >>> (y.toInt64.toUInt64 &&& Int64.toUInt64 63)).toInt64) :: st) sh h cn sn) : G w E nL pc lv (Value.int y :: Value.long x :: st) sh h cn sn := fun H locs ls hP hz hS hl => lv_lushr X.1 X.2.1 d rfl (k H locs ls hP hz hS hl)
theorem g_lshl (X : Cx w E cc nL own) {x : Int64} {y : Int32} (d : decode cc pc = .ok (.lshl, 1)) (k : G w E nL (pc + 1) lv (Value.long (x <<< (y.toInt64 &&& 63)) :: st) sh h cn sn) : G w E nL pc lv (Value.int y :: Value.long x :: st) sh h cn sn := fun H locs ls hP hz hS hl => lv_lshl X.1 X.2.1 d rfl (k H locs ls hP hz hS hl)
theorem g_lshr (X : Cx w E cc nL own) {x : Int64} {y : Int32} (d : decode cc pc = .ok (.lshr, 1)) (k : G w E nL (pc + 1) lv (Value.long (x >>> (y.toInt64 &&& 63)) :: st) sh h cn sn) : G w E nL pc lv (Value.int y :: Value.long x :: st) sh h cn sn := fun H locs ls hP hz hS hl => lv_lshr X.1 X.2.1 d rfl (k H locs ls hP hz hS hl)
theorem g_dup (X : Cx w E cc nL own) {a : Value} (d : decode cc pc = .ok (.dup, 1)) (h1 : a.category = 1) (k : G w E nL (pc + 1) lv (a :: a :: st) sh h cn sn) : G w E nL pc lv (a :: st) sh h cn sn := fun H locs ls hP hz hS hl => lv_dup X.1 X.2.1 d h1 (k H locs ls hP hz hS hl)
theorem g_pop (X : Cx w E cc nL own) {a : Value} (d : decode cc pc = .ok (.pop, 1)) (h1 : a.category = 1) (k : G w E nL (pc + 1) lv (st) sh h cn sn) : G w E nL pc lv (a :: st) sh h cn sn := fun H locs ls hP hz hS hl => lv_pop X.1 X.2.1 d h1 (k H locs ls hP hz hS hl)
theorem g_dup_x1 (X : Cx w E cc nL own) {a b : Value} (d : decode cc pc = .ok (.dup_x1, 1)) (h1 : a.category = 1) (h2 : b.category = 1) (k : G w E nL (pc + 1) lv (a :: b :: a :: st) sh h cn sn) : G w E nL pc lv (a :: b :: st) sh h cn sn := fun H locs ls hP hz hS hl => lv_dup_x1 X.1 X.2.1 d h1 h2 (k H locs ls hP hz hS hl)
theorem g_dup_x2 (X : Cx w E cc nL own) {a b c : Value} (d : decode cc pc = .ok (.dup_x2, 1)) (h1 : a.category = 1) (h2 : b.category = 1) (h3 : c.category = 1) (k : G w E nL (pc + 1) lv (a :: b :: c :: a :: st) sh h cn sn) : G w E nL pc lv (a :: b :: c :: st) sh h cn sn := fun H locs ls hP hz hS hl => lv_dup_x2 X.1 X.2.1 d h1 h2 h3 (k H locs ls hP hz hS hl)
theorem g_dup2_11 (X : Cx w E cc nL own) {a b : Value} (d : decode cc pc = .ok (.dup2, 1)) (h1 : a.category = 1) (h2 : b.category = 1) (k : G w E nL (pc + 1) lv (a :: b :: a :: b :: st) sh h cn sn) : G w E nL pc lv (a :: b :: st) sh h cn sn := fun H locs ls hP hz hS hl => lv_dup2_11 X.1 X.2.1 d h1 h2 (k H locs ls hP hz hS hl)
theorem g_dup2_2 (X : Cx w E cc nL own) {a : Value} (d : decode cc pc = .ok (.dup2, 1)) (h1 : a.category = 2) (k : G w E nL (pc + 1) lv (a :: a :: st) sh h cn sn) : G w E nL pc lv (a :: st) sh h cn sn := fun H locs ls hP hz hS hl => lv_dup2_2 X.1 X.2.1 d h1 (k H locs ls hP hz hS hl)
theorem g_pop2_2 (X : Cx w E cc nL own) {a : Value} (d : decode cc pc = .ok (.pop2, 1)) (h1 : a.category = 2) (k : G w E nL (pc + 1) lv (st) sh h cn sn) : G w E nL pc lv (a :: st) sh h cn sn := fun H locs ls hP hz hS hl => lv_pop2_2 X.1 X.2.1 d h1 (k H locs ls hP hz hS hl)
theorem g_iload_n (X : Cx w E cc nL own) {n : Fin 4} {x : Int32} (q : Nat) {i : Nat} (hv : lv[q]? = some (i, Value.int x)) (hi : (n : Nat) = i) (d : decode cc pc = .ok (.iload_n n, 1)) (k : G w E nL (pc + 1) lv (Value.int x :: st) sh h cn sn) : G w E nL pc lv st sh h cn sn := fun H locs ls hP hz hS hl => lv_iload_n X.1 X.2.1 d hi (lv_at hl q hv) (k H locs ls hP hz hS hl)
theorem g_iload (X : Cx w E cc nL own) {x : Int32} (q : Nat) {i : Nat} (hv : lv[q]? = some (i, Value.int x)) (d : decode cc pc = .ok (.iload i, 2)) (k : G w E nL (pc + 2) lv (Value.int x :: st) sh h cn sn) : G w E nL pc lv st sh h cn sn := fun H locs ls hP hz hS hl => lv_iload X.1 X.2.1 d (lv_at hl q hv) (k H locs ls hP hz hS hl)
theorem g_lload_n (X : Cx w E cc nL own) {n : Fin 4} {x : Int64} (q : Nat) {i : Nat} (hv : lv[q]? = some (i, Value.long x)) (hi : (n : Nat) = i) (d : decode cc pc = .ok (.lload_n n, 1)) (k : G w E nL (pc + 1) lv (Value.long x :: st) sh h cn sn) : G w E nL pc lv st sh h cn sn := fun H locs ls hP hz hS hl => lv_lload_n X.1 X.2.1 d hi (lv_at hl q hv) (k H locs ls hP hz hS hl)
theorem g_lload (X : Cx w E cc nL own) {x : Int64} (q : Nat) {i : Nat} (hv : lv[q]? = some (i, Value.long x)) (d : decode cc pc = .ok (.lload i, 2)) (k : G w E nL (pc + 2) lv (Value.long x :: st) sh h cn sn) : G w E nL pc lv st sh h cn sn := fun H locs ls hP hz hS hl => lv_lload X.1 X.2.1 d (lv_at hl q hv) (k H locs ls hP hz hS hl)
theorem g_aload_n (X : Cx w E cc nL own) {n : Fin 4} {r : Nat} (q : Nat) {i : Nat} (hv : lv[q]? = some (i, rv w.2.2.2 r)) (hi : (n : Nat) = i) (d : decode cc pc = .ok (.aload_n n, 1)) (k : G w E nL (pc + 1) lv (rv w.2.2.2 r :: st) sh h cn sn) : G w E nL pc lv st sh h cn sn := by
  intro H locs ls hP hz hS hl
  have h1 := lv_at hl q hv
  have k1 := k H locs ls hP hz hS hl
  unfold rv at h1 k1
  by_cases hr : r = 0
  · rw [if_pos hr] at h1 k1
    exact lv_aload_nN X.1 X.2.1 d hi h1 k1
  · rw [if_neg hr] at h1 k1
    exact lv_aload_n X.1 X.2.1 d hi h1 k1
theorem g_aload (X : Cx w E cc nL own) {r : Nat} (q : Nat) {i : Nat} (hv : lv[q]? = some (i, rv w.2.2.2 r)) (d : decode cc pc = .ok (.aload i, 2)) (k : G w E nL (pc + 2) lv (rv w.2.2.2 r :: st) sh h cn sn) : G w E nL pc lv st sh h cn sn := by
  intro H locs ls hP hz hS hl
  have h1 := lv_at hl q hv
  have k1 := k H locs ls hP hz hS hl
  unfold rv at h1 k1
  by_cases hr : r = 0
  · rw [if_pos hr] at h1 k1
    exact lv_aloadN X.1 X.2.1 d h1 k1
  · rw [if_neg hr] at h1 k1
    exact lv_aload X.1 X.2.1 d h1 k1
def flt1 (i : Nat) (lv : List (Nat × Value)) : List (Nat × Value) := lv.filter (fun q => !(q.1 == i) && !(q.1 + 1 == i && q.2.category == 2))
def flt2 (i : Nat) (lv : List (Nat × Value)) : List (Nat × Value) := lv.filter (fun q => !(q.1 == i) && (!(q.1 == i + 1) && !(q.1 + 1 == i && q.2.category == 2)))
/-- a store: the new number gets a name of its own -/
theorem g_istore_n (X : Cx w E cc nL own) {n : Fin 4} {x : Int32} {i : Nat} {rest : List (Nat × Value)} (hi : (n : Nat) = i) (hn : i < nL) (hl2 : flt1 i lv = rest) (d : decode cc pc = .ok (.istore_n n, 1)) (k : ∀ y : Int32, y = x → G w E nL (pc + 1) ((i, Value.int y) :: rest) st sh h cn sn) : G w E nL pc lv (Value.int x :: st) sh h cn sn := fun H locs ls hP hz hS hl => lv_istore_n (lv' := (i, Value.int x) :: rest) X.1 X.2.1 d hi hl hn (congrArg _ hl2) (fun ls' hl' => k x rfl H locs ls' hP hz hS hl')
theorem g_istore (X : Cx w E cc nL own) {x : Int32} {i : Nat} {rest : List (Nat × Value)} (hn : i < nL) (hl2 : flt1 i lv = rest) (d : decode cc pc = .ok (.istore i, 2)) (k : ∀ y : Int32, y = x → G w E nL (pc + 2) ((i, Value.int y) :: rest) st sh h cn sn) : G w E nL pc lv (Value.int x :: st) sh h cn sn := fun H locs ls hP hz hS hl => lv_istore (lv' := (i, Value.int x) :: rest) X.1 X.2.1 d hl hn (congrArg _ hl2) (fun ls' hl' => k x rfl H locs ls' hP hz hS hl')
theorem g_lstore_n (X : Cx w E cc nL own) {n : Fin 4} {x : Int64} {i : Nat} {rest : List (Nat × Value)} (hi : (n : Nat) = i) (hn : i + 1 < nL) (hl2 : flt2 i lv = rest) (d : decode cc pc = .ok (.lstore_n n, 1)) (k : ∀ y : Int64, y = x → G w E nL (pc + 1) ((i, Value.long y) :: rest) st sh h cn sn) : G w E nL pc lv (Value.long x :: st) sh h cn sn := fun H locs ls hP hz hS hl => lv_lstore_n (lv' := (i, Value.long x) :: rest) X.1 X.2.1 d hi hl hn (congrArg _ hl2) (fun ls' hl' => k x rfl H locs ls' hP hz hS hl')
theorem g_lstore (X : Cx w E cc nL own) {x : Int64} {i : Nat} {rest : List (Nat × Value)} (hn : i + 1 < nL) (hl2 : flt2 i lv = rest) (d : decode cc pc = .ok (.lstore i, 2)) (k : ∀ y : Int64, y = x → G w E nL (pc + 2) ((i, Value.long y) :: rest) st sh h cn sn) : G w E nL pc lv (Value.long x :: st) sh h cn sn := fun H locs ls hP hz hS hl => lv_lstore (lv' := (i, Value.long x) :: rest) X.1 X.2.1 d hl hn (congrArg _ hl2) (fun ls' hl' => k x rfl H locs ls' hP hz hS hl')
theorem g_iinc (X : Cx w E cc nL own) {x : Int32} (q : Nat) {i : Nat} {n : Int} {v : Int32} {rest : List (Nat × Value)} (hv : lv[q]? = some (i, Value.int x)) (hn : i < nL) (hl2 : flt1 i lv = rest) (hnv : Int32.ofInt n = v) (d : decode cc pc = .ok (.iinc i n, 3)) (k : ∀ y : Int32, y = x + v → G w E nL (pc + 3) ((i, Value.int y) :: rest) st sh h cn sn) : G w E nL pc lv st sh h cn sn := fun H locs ls hP hz hS hl => lv_iinc (lv' := (i, Value.int (x + v)) :: rest) X.1 X.2.1 d hl hv (congrArg _ hnv) hn (congrArg _ hl2) (fun ls' hl' => k (x + v) rfl H locs ls' hP hz hS hl')
theorem g_astore_n (X : Cx w E cc nL own) {n : Fin 4} {r : Nat} {i : Nat} {rest : List (Nat × Value)} (hi : (n : Nat) = i) (hn : i < nL) (hl2 : flt1 i lv = rest) (d : decode cc pc = .ok (.astore_n n, 1)) (k : ∀ y : Nat, y = r → G w E nL (pc + 1) ((i, rv w.2.2.2 y) :: rest) st sh h cn sn) : G w E nL pc lv (rv w.2.2.2 r :: st) sh h cn sn := by
  intro H locs ls hP hz hS hl
  have k1 := k r rfl
  generalize hv : rv w.2.2.2 r = v at k1 ⊢
  unfold rv at hv
  by_cases hr : r = 0
  · rw [if_pos hr] at hv
    subst hv
    exact lv_astore_nN (lv' := (i, Value.null) :: rest) X.1 X.2.1 d hi hl hn (congrArg _ hl2) (fun ls' hl' => k1 H locs ls' hP hz hS hl')
  · rw [if_neg hr] at hv
    subst hv
    exact lv_astore_n (lv' := (i, Value.ref (w.2.2.2 + r)) :: rest) X.1 X.2.1 d hi hl hn (congrArg _ hl2) (fun ls' hl' => k1 H locs ls' hP hz hS hl')
theorem g_astore (X : Cx w E cc nL own) {r : Nat} {i : Nat} {rest : List (Nat × Value)} (hn : i < nL) (hl2 : flt1 i lv = rest) (d : decode cc pc = .ok (.astore i, 2)) (k : ∀ y : Nat, y = r → G w E nL (pc + 2) ((i, rv w.2.2.2 y) :: rest) st sh h cn sn) : G w E nL pc lv (rv w.2.2.2 r :: st) sh h cn sn := by
  intro H locs ls hP hz hS hl
  have k1 := k r rfl
  generalize hv : rv w.2.2.2 r = v at k1 ⊢
  unfold rv at hv
  by_cases hr : r = 0
  · rw [if_pos hr] at hv
    subst hv
    exact lv_astoreN (lv' := (i, Value.null) :: rest) X.1 X.2.1 d hl hn (congrArg _ hl2) (fun ls' hl' => k1 H locs ls' hP hz hS hl')
  · rw [if_neg hr] at hv
    subst hv
    exact lv_astore (lv' := (i, Value.ref (w.2.2.2 + r)) :: rest) X.1 X.2.1 d hl hn (congrArg _ hl2) (fun ls' hl' => k1 H locs ls' hP hz hS hl')
theorem g_goto (X : Cx w E cc nL own) {off : Int} (tgt : Nat) (d : decode cc pc = .ok (.goto off, 3)) (ht : (pc : Int) + off = (tgt : Int)) (k : G w E nL tgt lv st sh h cn sn) : G w E nL pc lv st sh h cn sn := fun H locs ls hP hz hS hl => lv_goto X.1 X.2.1 d ht (k H locs ls hP hz hS hl)
theorem g_ldc (X : Cx w E cc nL own) {idx : Nat} {v : Int32} (hc : Cond.constant own idx v ∈ ALLW) (d : decode cc pc = .ok (.ldc idx, 2)) (k : G w E nL (pc + 2) lv (Value.int v :: st) sh h cn sn) : G w E nL pc lv st sh h cn sn := fun H locs ls hP hz hS hl => lv_ldc X.1 X.2.1 X.2.2.2.1 (X.2.2.2.2.1 _ hc) d (k H locs ls hP hz hS hl)
theorem g_ldcw (X : Cx w E cc nL own) {idx : Nat} {v : Int32} (hc : Cond.constant own idx v ∈ ALLW) (d : decode cc pc = .ok (.ldc_w idx, 3)) (k : G w E nL (pc + 3) lv (Value.int v :: st) sh h cn sn) : G w E nL pc lv st sh h cn sn := fun H locs ls hP hz hS hl => lv_ldcw X.1 X.2.1 X.2.2.2.1 (X.2.2.2.2.1 _ hc) d (k H locs ls hP hz hS hl)
theorem g_ldc2 (X : Cx w E cc nL own) {idx : Nat} {v : Int64} (hc : Cond.constantLong own idx v ∈ ALLW) (d : decode cc pc = .ok (.ldc2_w idx, 3)) (k : G w E nL (pc + 3) lv (Value.long v :: st) sh h cn sn) : G w E nL pc lv st sh h cn sn := fun H locs ls hP hz hS hl => lv_ldc2 X.1 X.2.1 X.2.2.2.1 (X.2.2.2.2.1 _ hc) d (k H locs ls hP hz hS hl)
theorem g_icmp_eq (X : Cx w E cc nL own) {x y : Int32} {off : Int} (tgt : Nat) (d : decode cc pc = .ok (.if_icmp .eq off, 3)) (ht : (pc : Int) + off = (tgt : Int)) (k1 : x = y → G w E nL tgt lv st sh h cn sn) (k2 : ¬ x = y → G w E nL (pc + 3) lv st sh h cn sn) : G w E nL pc lv (Value.int y :: Value.int x :: st) sh h cn sn := fun H locs ls hP hz hS hl => lv_icmp_eq X.1 X.2.1 d ht (fun q => k1 q H locs ls hP hz hS hl) (fun q => k2 q H locs ls hP hz hS hl)
theorem g_if_eq (X : Cx w E cc nL own) {x : Int32} {off : Int} (tgt : Nat) (d : decode cc pc = .ok (.ifCond .eq off, 3)) (ht : (pc : Int) + off = (tgt : Int)) (k1 : x = 0 → G w E nL tgt lv st sh h cn sn) (k2 : ¬ x = 0 → G w E nL (pc + 3) lv st sh h cn sn) : G w E nL pc lv (Value.int x :: st) sh h cn sn := fun H locs ls hP hz hS hl => lv_if_eq X.1 X.2.1 d ht (fun q => k1 q H locs ls hP hz hS hl) (fun q => k2 q H locs ls hP hz hS hl)
theorem g_icmp_ne (X : Cx w E cc nL own) {x y : Int32} {off : Int} (tgt : Nat) (d : decode cc pc = .ok (.if_icmp .ne off, 3)) (ht : (pc : Int) + off = (tgt : Int)) (k1 : ¬ x = y → G w E nL tgt lv st sh h cn sn) (k2 : x = y → G w E nL (pc + 3) lv st sh h cn sn) : G w E nL pc lv (Value.int y :: Value.int x :: st) sh h cn sn := fun H locs ls hP hz hS hl => lv_icmp_ne X.1 X.2.1 d ht (fun q => k1 q H locs ls hP hz hS hl) (fun q => k2 q H locs ls hP hz hS hl)
theorem g_if_ne (X : Cx w E cc nL own) {x : Int32} {off : Int} (tgt : Nat) (d : decode cc pc = .ok (.ifCond .ne off, 3)) (ht : (pc : Int) + off = (tgt : Int)) (k1 : ¬ x = 0 → G w E nL tgt lv st sh h cn sn) (k2 : x = 0 → G w E nL (pc + 3) lv st sh h cn sn) : G w E nL pc lv (Value.int x :: st) sh h cn sn := fun H locs ls hP hz hS hl => lv_if_ne X.1 X.2.1 d ht (fun q => k1 q H locs ls hP hz hS hl) (fun q => k2 q H locs ls hP hz hS hl)
theorem g_icmp_lt (X : Cx w E cc nL own) {x y : Int32} {off : Int} (tgt : Nat) (d : decode cc pc = .ok (.if_icmp .lt off, 3)) (ht : (pc : Int) + off = (tgt : Int)) (k1 : x < y → G w E nL tgt lv st sh h cn sn) (k2 : ¬ x < y → G w E nL (pc + 3) lv st sh h cn sn) : G w E nL pc lv (Value.int y :: Value.int x :: st) sh h cn sn := fun H locs ls hP hz hS hl => lv_icmp_lt X.1 X.2.1 d ht (fun q => k1 q H locs ls hP hz hS hl) (fun q => k2 q H locs ls hP hz hS hl)
theorem g_if_lt (X : Cx w E cc nL own) {x : Int32} {off : Int} (tgt : Nat) (d : decode cc pc = .ok (.ifCond .lt off, 3)) (ht : (pc : Int) + off = (tgt : Int)) (k1 : x < 0 → G w E nL tgt lv st sh h cn sn) (k2 : ¬ x < 0 → G w E nL (pc + 3) lv st sh h cn sn) : G w E nL pc lv (Value.int x :: st) sh h cn sn := fun H locs ls hP hz hS hl => lv_if_lt X.1 X.2.1 d ht (fun q => k1 q H locs ls hP hz hS hl) (fun q => k2 q H locs ls hP hz hS hl)
theorem g_icmp_ge (X : Cx w E cc nL own) {x y : Int32} {off : Int} (tgt : Nat) (d : decode cc pc = .ok (.if_icmp .ge off, 3)) (ht : (pc : Int) + off = (tgt : Int)) (k1 : y ≤ x → G w E nL tgt lv st sh h cn sn) (k2 : ¬ y ≤ x → G w E nL (pc + 3) lv st sh h cn sn) : G w E nL pc lv (Value.int y :: Value.int x :: st) sh h cn sn := fun H locs ls hP hz hS hl => lv_icmp_ge X.1 X.2.1 d ht (fun q => k1 q H locs ls hP hz hS hl) (fun q => k2 q H locs ls hP hz hS hl)
theorem g_if_ge (X : Cx w E cc nL own) {x : Int32} {off : Int} (tgt : Nat) (d : decode cc pc = .ok (.ifCond .ge off, 3)) (ht : (pc : Int) + off = (tgt : Int)) (k1 : 0 ≤ x → G w E nL tgt lv st sh h cn sn) (k2 : ¬ 0 ≤ x → G w E nL (pc + 3) lv st sh h cn sn) : G w E nL pc lv (Value.int x :: st) sh h cn sn := fun H locs ls hP hz hS hl => lv_if_ge X.1 X.2.1 d ht (fun q => k1 q H locs ls hP hz hS hl) (fun q => k2 q H locs ls hP hz hS hl)
theorem g_icmp_gt (X : Cx w E cc nL own) {x y : Int32} {off : Int} (tgt : Nat) (d : decode cc pc = .ok (.if_icmp .gt off, 3)) (ht : (pc : Int) + off = (tgt : Int)) (k1 : y < x → G w E nL tgt lv st sh h cn sn) (k2 : ¬ y < x → G w E nL (pc + 3) lv st sh h cn sn) : G w E nL pc lv (Value.int y :: Value.int x :: st) sh h cn sn := fun H locs ls hP hz hS hl => lv_icmp_gt X.1 X.2.1 d ht (fun q => k1 q H locs ls hP hz hS hl) (fun q => k2 q H locs ls hP hz hS hl)
theorem g_if_gt (X : Cx w E cc nL own) {x : Int32} {off : Int} (tgt : Nat) (d : decode cc pc = .ok (.ifCond .gt off, 3)) (ht : (pc : Int) + off = (tgt : Int)) (k1 : 0 < x → G w E nL tgt lv st sh h cn sn) (k2 : ¬ 0 < x → G w E nL (pc + 3) lv st sh h cn sn) : G w E nL pc lv (Value.int x :: st) sh h cn sn := fun H locs ls hP hz hS hl => lv_if_gt X.1 X.2.1 d ht (fun q => k1 q H locs ls hP hz hS hl) (fun q => k2 q H locs ls hP hz hS hl)
theorem g_icmp_le (X : Cx w E cc nL own) {x y : Int32} {off : Int} (tgt : Nat) (d : decode cc pc = .ok (.if_icmp .le off, 3)) (ht : (pc : Int) + off = (tgt : Int)) (k1 : x ≤ y → G w E nL tgt lv st sh h cn sn) (k2 : ¬ x ≤ y → G w E nL (pc + 3) lv st sh h cn sn) : G w E nL pc lv (Value.int y :: Value.int x :: st) sh h cn sn := fun H locs ls hP hz hS hl => lv_icmp_le X.1 X.2.1 d ht (fun q => k1 q H locs ls hP hz hS hl) (fun q => k2 q H locs ls hP hz hS hl)
theorem g_if_le (X : Cx w E cc nL own) {x : Int32} {off : Int} (tgt : Nat) (d : decode cc pc = .ok (.ifCond .le off, 3)) (ht : (pc : Int) + off = (tgt : Int)) (k1 : x ≤ 0 → G w E nL tgt lv st sh h cn sn) (k2 : ¬ x ≤ 0 → G w E nL (pc + 3) lv st sh h cn sn) : G w E nL pc lv (Value.int x :: st) sh h cn sn := fun H locs ls hP hz hS hl => lv_if_le X.1 X.2.1 d ht (fun q => k1 q H locs ls hP hz hS hl) (fun q => k2 q H locs ls hP hz hS hl)
theorem g_tab (X : Cx w E cc nL own) {x : Int32} {dflt lo hi : Int} {offs : Array Int} {len : Nat} (tgt : Nat) (d : decode cc pc = .ok (.tableswitch dflt lo hi offs, len)) (h1 : ¬ x.toInt < lo) (h2 : ¬ hi < x.toInt) {off : Int} (ho : offs[(x.toInt - lo).toNat]? = some off) (ht : (pc : Int) + off = (tgt : Int)) (k : G w E nL tgt lv st sh h cn sn) : G w E nL pc lv (Value.int x :: st) sh h cn sn := fun H locs ls hP hz hS hl => lv_tableIn X.1 X.2.1 d h1 h2 ho ht (k H locs ls hP hz hS hl)
theorem g_tabOut (X : Cx w E cc nL own) {x : Int32} {dflt lo hi : Int} {offs : Array Int} {len : Nat} (tgt : Nat) (d : decode cc pc = .ok (.tableswitch dflt lo hi offs, len)) (h1 : x.toInt < lo ∨ hi < x.toInt) (ht : (pc : Int) + dflt = (tgt : Int)) (k : G w E nL tgt lv st sh h cn sn) : G w E nL pc lv (Value.int x :: st) sh h cn sn := fun H locs ls hP hz hS hl => lv_tableOut X.1 X.2.1 d h1 ht (k H locs ls hP hz hS hl)
theorem g_get (X : Cx w E cc nL own) {idx ci k r : Nat} {ty : FieldType} {fin rf : Bool} (fl : FL own idx ci k ty fin rf) (hs : shAt sh r = some (.inr ci)) {v : Value} (hv : (fsE w.2.2.2 h r (fkOf ci))[k]? = some v) (d : decode cc pc = .ok (.getfield idx, 3)) (kk : G w E nL (pc + 3) lv (v :: st) sh h cn sn) : G w E nL pc lv (rv w.2.2.2 r :: st) sh h cn sn := by
  obtain ⟨i, rfl, hi⟩ := shAt_pos hs
  obtain ⟨C, T, N, ty0, hc, hk, hin, hln, hfin, hty, hnm, hd, hrf, hlen⟩ := fl
  rw [rv_pos]
  intro H locs ls hP hz hS hl
  have he := wld_get (cA := w.2.2.1) (b := w.2.2.2) (h := h) hi
  rcases hln with hln | ⟨host, hln⟩
  · exact va_get (D := w.2.1) (ci := ci) (v := v) (C := C) (T := T) (N := N) X.1 X.2.1 X.2.2.2.2.1 hin X.2.2.2.1 X.2.2.2.2.2.1 hP i he hc k hk (X.2.2.2.2.1 _ hln) (fun _ h9 => h9) hv d (kk H locs ls hP hz hS hl)
  · exact va_getN (D := w.2.1) (ci := ci) (v := v) (C := C) (T := T) (N := N) X.1 X.2.1 X.2.2.2.2.1 hin X.2.2.2.1 X.2.2.2.2.2.1 hP i he hc k hk (va_Nw.use rfl (X.2.2.2.2.2.2.2 _ hln)) (fun _ h9 => h9) hv d (kk H locs ls hP hz hS hl)
theorem g_getI (X : Cx w E cc nL own) {idx ci k r : Nat} {ty : FieldType} {fin : Bool} (fl : FL own idx ci k ty fin false) (hs : shAt sh r = some (.inr ci)) (d : decode cc pc = .ok (.getfield idx, 3)) (kk : G w E nL (pc + 3) lv (Value.int (h.1 r k) :: st) sh h cn sn) : G w E nL pc lv (rv w.2.2.2 r :: st) sh h cn sn := by
  refine g_get X fl hs ?_ d kk
  obtain ⟨C, T, N, ty0, hc, hk, hin, hln, hfin, hty, hnm, hd, hrf, hlen⟩ := fl
  simp [fsE, List.getElem?_mapIdx, hrf]
theorem g_getR (X : Cx w E cc nL own) {idx ci k r : Nat} {ty : FieldType} {fin : Bool} (fl : FL own idx ci k ty fin true) (hs : shAt sh r = some (.inr ci)) (d : decode cc pc = .ok (.getfield idx, 3)) (kk : G w E nL (pc + 3) lv (rv w.2.2.2 (h.2.1 r k) :: st) sh h cn sn) : G w E nL pc lv (rv w.2.2.2 r :: st) sh h cn sn := by
  refine g_get X fl hs ?_ d kk
  obtain ⟨C, T, N, ty0, hc, hk, hin, hln, hfin, hty, hnm, hd, hrf, hlen⟩ := fl
  simp [fsE, List.getElem?_mapIdx, hrf]
theorem fsE_setI {b c k : Nat} {h : Hp} {v : Int32} {ks : List Bool} (hk : ks[k]? = some false) : (fsE b h c ks).set k (Value.int v) = fsE b (wI h c k v) c ks := by
  apply List.ext_getElem?
  intro j
  by_cases hj : j = k
  · subst hj
    have hl : j < (fsE b h c ks).length := by
      have := (List.getElem?_eq_some_iff.mp hk).1
      simpa [fsE] using this
    rw [List.getElem?_set_self hl]
    simp [fsE, List.getElem?_mapIdx, hk, wI]
  · rw [List.getElem?_set_ne (Ne.symm hj)]
    simp [fsE, List.getElem?_mapIdx, wI, hj]
theorem fsE_setR {b c k r : Nat} {h : Hp} {ks : List Bool} (hk : ks[k]? = some true) : (fsE b h c ks).set k (rv b r) = fsE b (wR h c k r) c ks := by
  apply List.ext_getElem?
  intro j
  by_cases hj : j = k
  · subst hj
    have hl : j < (fsE b h c ks).length := by
      have := (List.getElem?_eq_some_iff.mp hk).1
      simpa [fsE] using this
    rw [List.getElem?_set_self hl]
    simp [fsE, List.getElem?_mapIdx, hk, wR]
  · rw [List.getElem?_set_ne (Ne.symm hj)]
    simp [fsE, List.getElem?_mapIdx, wR, hj]
theorem fsE_len {b c : Nat} {h : Hp} {ks : List Bool} : (fsE b h c ks).length = ks.length := by simp [fsE]
theorem g_put (X : Cx w E cc nL own) {idx ci k r : Nat} {ty : FieldType} {rf : Bool} (fl : FL own idx ci k ty false rf) (hs : shAt sh r = some (.inr ci)) {v : Value} (hn : narrow ty v = v) (hf : fits ty v = true) {h1 : Hp} (he1 : (fsE w.2.2.2 h r (fkOf ci)).set k v = fsE w.2.2.2 h1 r (fkOf ci)) (ho : ∀ (c : Nat) (s' : Sh), c ≠ r → cellE w.2.2.1 w.2.2.2 h1 c s' = cellE w.2.2.1 w.2.2.2 h c s') (d : decode cc pc = .ok (.putfield idx, 3)) (kk : G w E nL (pc + 3) lv st sh h1 cn sn) : G w E nL pc lv (v :: rv w.2.2.2 r :: st) sh h cn sn := by
  obtain ⟨i, rfl, hi⟩ := shAt_pos hs
  obtain ⟨C, T, N, ty0, hc, hk, hin, hln, hfin, hty, hnm, hd, hrf, hlen⟩ := fl
  rw [rv_pos]
  intro H locs ls hP hz hS hl
  have he := wld_get (cA := w.2.2.1) (b := w.2.2.2) (h := h) hi
  have hset := wld_set (cA := w.2.2.1) (b := w.2.2.2) (h := h) (h' := h1) (e := .inr (ci, (fsE w.2.2.2 h (i + 1) (fkOf ci)).set k v)) hi (by rw [he1]; rfl) ho
  have hkl : k < (fsE w.2.2.2 h (i + 1) (fkOf ci)).length := by rw [fsE_len, hlen]; exact hk
  rcases hln with hln | ⟨host, hln⟩
  · exact va_put (D := w.2.1) (ci := ci) (v := v) (ty := ty) (C := C) (T := T) (N := N) (fs := fsE w.2.2.2 h (i + 1) (fkOf ci)) X.1 X.2.1 X.2.2.2.2.1 hin ty0 hty hnm X.2.2.2.1 X.2.2.2.2.2.1 hP wld_D hS i he hc k hk (X.2.2.2.2.1 _ hln) (fun _ h9 => h9) hfin hd hn hf hkl d (fun H1 locs1 hP1 _ hS1 => kk H1 locs1 ls (by rw [← hset]; exact hP1) hz hS1 hl)
  · exact va_putN (D := w.2.1) (ci := ci) (v := v) (ty := ty) (C := C) (T := T) (N := N) (fs := fsE w.2.2.2 h (i + 1) (fkOf ci)) X.1 X.2.1 X.2.2.2.2.1 hin ty0 hty hnm X.2.2.2.1 X.2.2.2.2.2.1 hP wld_D hS i he hc k hk (va_Nw.use rfl (X.2.2.2.2.2.2.2 _ hln)) (fun _ h9 => h9) hfin hd hn hf hkl d (fun H1 locs1 hP1 _ hS1 => kk H1 locs1 ls (by rw [← hset]; exact hP1) hz hS1 hl)
theorem g_putI (X : Cx w E cc nL own) {idx ci k r : Nat} {ty : FieldType} (fl : FL own idx ci k ty false false) (hs : shAt sh r = some (.inr ci)) {v : Int32} (hn : narrow ty (Value.int v) = Value.int v) (hf : fits ty (Value.int v) = true) (d : decode cc pc = .ok (.putfield idx, 3)) (kk : ∀ h1 : Hp, h1 = wI h r k v → G w E nL (pc + 3) lv st sh h1 cn sn) : G w E nL pc lv (Value.int v :: rv w.2.2.2 r :: st) sh h cn sn :=
  g_put X fl hs hn hf (fsE_setI (by obtain ⟨C, T, N, ty0, hc, hk, hin, hln, hfin, hty, hnm, hd, hrf, hlen⟩ := fl; exact hrf)) cell_oI d (kk _ rfl)
def isRefTy (ty : FieldType) : Bool := match ty with
  | .object _ => true
  | .array _ => true
  | _ => false
theorem nar_ref {ty : FieldType} (h : isRefTy ty = true) (b r : Nat) : narrow ty (rv b r) = rv b r ∧ fits ty (rv b r) = true := by
  unfold rv
  cases ty <;> first | (simp [isRefTy] at h; done) | (split <;> exact ⟨rfl, rfl⟩)
theorem g_putR (X : Cx w E cc nL own) {idx ci k r : Nat} {ty : FieldType} (fl : FL own idx ci k ty false true) (hs : shAt sh r = some (.inr ci)) {v : Nat} (hty : isRefTy ty = true) (d : decode cc pc = .ok (.putfield idx, 3)) (kk : ∀ h1 : Hp, h1 = wR h r k v → G w E nL (pc + 3) lv st sh h1 cn sn) : G w E nL pc lv (rv w.2.2.2 v :: rv w.2.2.2 r :: st) sh h cn sn :=
  g_put X fl hs (nar_ref hty _ _).1 (nar_ref hty _ _).2 (fsE_setR (by obtain ⟨C, T, N, ty0, hc, hk, hin, hln, hfin, hty, hnm, hd, hrf, hlen⟩ := fl; exact hrf)) cell_oR d (kk _ rfl)
theorem g_len (X : Cx w E cc nL own) {t n r : Nat} (ht : t < 3) (hs : shAt sh r = some (.inl (t, n))) (d : decode cc pc = .ok (.arraylength, 1)) (kk : G w E nL (pc + 1) lv (Value.int (Int32.ofNat n) :: st) sh h cn sn) : G w E nL pc lv (rv w.2.2.2 r :: st) sh h cn sn := by
  obtain ⟨i, rfl, hi⟩ := shAt_pos hs
  rw [rv_pos]
  intro H locs ls hP hz hS hl
  have he := wld_get (cA := w.2.2.1) (b := w.2.2.2) (h := h) hi
  match t, ht, he with
  | 0, _, he => exact va_alen (D := w.2.1) X.1 X.2.1 X.2.2.2.2.2.1 hP i 0 he rfl rfl d (kk H locs ls hP hz hS hl)
  | 1, _, he => exact va_alen (D := w.2.1) X.1 X.2.1 X.2.2.2.2.2.1 hP i 1 he rfl rfl d (kk H locs ls hP hz hS hl)
  | 2, _, he => exact va_alen (D := w.2.1) X.1 X.2.1 X.2.2.2.2.2.1 hP i 2 he rfl rfl d (kk H locs ls hP hz hS hl)
theorem g_bald (X : Cx w E cc nL own) {n r : Nat} {x : Int32} (hs : shAt sh r = some (.inl (0, n))) (hin : vp_in x n) (d : decode cc pc = .ok (.baload, 1)) (kk : G w E nL (pc + 1) lv (Value.int (b8 (h.1 r x.toNatClampNeg)) :: st) sh h cn sn) : G w E nL pc lv (Value.int x :: rv w.2.2.2 r :: st) sh h cn sn := by
  obtain ⟨i, rfl, hi⟩ := shAt_pos hs
  rw [rv_pos]
  intro H locs ls hP hz hS hl
  have he := wld_get (cA := w.2.2.1) (b := w.2.2.2) (h := h) hi
  exact va_bald (D := w.2.1) (f := fun j => b8 (h.1 (i + 1) j)) X.1 X.2.1 X.2.2.2.2.2.1 hP i 0 he rfl hin d (kk H locs ls hP hz hS hl)
theorem g_iald (X : Cx w E cc nL own) {n r : Nat} {x : Int32} (hs : shAt sh r = some (.inl (1, n))) (hin : vp_in x n) (d : decode cc pc = .ok (.iaload, 1)) (kk : G w E nL (pc + 1) lv (Value.int (h.1 r x.toNatClampNeg) :: st) sh h cn sn) : G w E nL pc lv (Value.int x :: rv w.2.2.2 r :: st) sh h cn sn := by
  obtain ⟨i, rfl, hi⟩ := shAt_pos hs
  rw [rv_pos]
  intro H locs ls hP hz hS hl
  have he := wld_get (cA := w.2.2.1) (b := w.2.2.2) (h := h) hi
  exact va_iald (D := w.2.1) X.1 X.2.1 X.2.2.2.2.2.1 hP i 1 he rfl hin d (kk H locs ls hP hz hS hl)
theorem g_lald (X : Cx w E cc nL own) {n r : Nat} {x : Int32} (hs : shAt sh r = some (.inl (2, n))) (hin : vp_in x n) (d : decode cc pc = .ok (.laload, 1)) (kk : G w E nL (pc + 1) lv (Value.long (h.2.2 r x.toNatClampNeg) :: st) sh h cn sn) : G w E nL pc lv (Value.int x :: rv w.2.2.2 r :: st) sh h cn sn := by
  obtain ⟨i, rfl, hi⟩ := shAt_pos hs
  rw [rv_pos]
  intro H locs ls hP hz hS hl
  have he := wld_get (cA := w.2.2.1) (b := w.2.2.2) (h := h) hi
  exact va_lald (D := w.2.1) X.1 X.2.1 X.2.2.2.2.2.1 hP i 2 he rfl hin d (kk H locs ls hP hz hS hl)
theorem g_bast (X : Cx w E cc nL own) {n r : Nat} {x v : Int32} (hs : shAt sh r = some (.inl (0, n))) (hin : vp_in x n) (d : decode cc pc = .ok (.bastore, 1)) (kk : ∀ h1 : Hp, h1 = wI h r x.toNatClampNeg v → G w E nL (pc + 1) lv st sh h1 cn sn) : G w E nL pc lv (Value.int v :: Value.int x :: rv w.2.2.2 r :: st) sh h cn sn := by
  obtain ⟨i, rfl, hi⟩ := shAt_pos hs
  rw [rv_pos]
  intro H locs ls hP hz hS hl
  have he := wld_get (cA := w.2.2.1) (b := w.2.2.2) (h := h) hi
  have hset := wld_set (cA := w.2.2.1) (b := w.2.2.2) (h := h) (h' := wI h (i + 1) x.toNatClampNeg v) (e := .inl (w.2.2.1 0, n, .inl (upd (fun j => b8 (h.1 (i + 1) j)) x.toNatClampNeg (vp_nar .byte v)))) hi (by
    have e : (fun j => b8 ((wI h (i + 1) x.toNatClampNeg v).1 (i + 1) j)) = upd (fun j => b8 (h.1 (i + 1) j)) x.toNatClampNeg (vp_nar .byte v) := by
      funext j
      by_cases hj : j = x.toNatClampNeg
      · simp [wI, upd, hj, vp_nar_byte, b8]
      · simp [wI, upd, hj]
    rw [← e]; rfl) cell_oI
  exact va_bast (D := w.2.1) (f := fun j => b8 (h.1 (i + 1) j)) X.1 X.2.1 X.2.2.2.2.2.1 hP wld_D hS i 0 he rfl hin d (fun H1 locs1 hP1 _ hS1 => kk _ rfl H1 locs1 ls (by rw [← hset]; exact hP1) hz hS1 hl)
theorem g_iast (X : Cx w E cc nL own) {n r : Nat} {x v : Int32} (hs : shAt sh r = some (.inl (1, n))) (hin : vp_in x n) (d : decode cc pc = .ok (.iastore, 1)) (kk : ∀ h1 : Hp, h1 = wI h r x.toNatClampNeg v → G w E nL (pc + 1) lv st sh h1 cn sn) : G w E nL pc lv (Value.int v :: Value.int x :: rv w.2.2.2 r :: st) sh h cn sn := by
  obtain ⟨i, rfl, hi⟩ := shAt_pos hs
  rw [rv_pos]
  intro H locs ls hP hz hS hl
  have he := wld_get (cA := w.2.2.1) (b := w.2.2.2) (h := h) hi
  have e : (wI h (i + 1) x.toNatClampNeg v).1 (i + 1) = upd (h.1 (i + 1)) x.toNatClampNeg v := by
    funext j
    by_cases hj : j = x.toNatClampNeg
    · simp [wI, upd, hj]
    · simp [wI, upd, hj]
  have hset := wld_set (cA := w.2.2.1) (b := w.2.2.2) (h := h) (h' := wI h (i + 1) x.toNatClampNeg v) (e := .inl (w.2.2.1 1, n, .inl (upd (h.1 (i + 1)) x.toNatClampNeg v))) hi (by rw [← e]; rfl) cell_oI
  exact va_iast (D := w.2.1) X.1 X.2.1 X.2.2.2.2.2.1 hP wld_D hS i 1 he rfl hin d (fun H1 locs1 hP1 _ hS1 => kk _ rfl H1 locs1 ls (by rw [← hset]; exact hP1) hz hS1 hl)
theorem g_last (X : Cx w E cc nL own) {n r : Nat} {x : Int32} {v : Int64} (hs : shAt sh r = some (.inl (2, n))) (hin : vp_in x n) (d : decode cc pc = .ok (.lastore, 1)) (kk : ∀ h1 : Hp, h1 = wJ h r x.toNatClampNeg v → G w E nL (pc + 1) lv st sh h1 cn sn) : G w E nL pc lv (Value.long v :: Value.int x :: rv w.2.2.2 r :: st) sh h cn sn := by
  obtain ⟨i, rfl, hi⟩ := shAt_pos hs
  rw [rv_pos]
  intro H locs ls hP hz hS hl
  have he := wld_get (cA := w.2.2.1) (b := w.2.2.2) (h := h) hi
  have e : (wJ h (i + 1) x.toNatClampNeg v).2.2 (i + 1) = vp_updL (h.2.2 (i + 1)) x.toNatClampNeg v := by
    funext j
    by_cases hj : j = x.toNatClampNeg
    · simp [wJ, vp_updL, hj]
    · simp [wJ, vp_updL, hj]
  have hset := wld_set (cA := w.2.2.1) (b := w.2.2.2) (h := h) (h' := wJ h (i + 1) x.toNatClampNeg v) (e := .inl (w.2.2.1 2, n, .inr (.inl (vp_updL (h.2.2 (i + 1)) x.toNatClampNeg v)))) hi (by rw [← e]; rfl) cell_oJ
  exact va_last (D := w.2.1) X.1 X.2.1 X.2.2.2.2.2.1 hP wld_D hS i 2 he rfl hin d (fun H1 locs1 hP1 _ hS1 => kk _ rfl H1 locs1 ls (by rw [← hset]; exact hP1) hz hS1 hl)
end CoreRules
