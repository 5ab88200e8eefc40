/-! CONTRACTS (my own): Ct w y cw fr lo mc ms av sh h P: y, called with av over the cells sh that hold h, returns r, and the cells are then sh' that hold h', with P r sh' h' -/
def Wo (w : Wd) (sh : List Sh) (h : Hp) (U : State) : Prop := va_P w.2.1 cls (wld w.2.2.1 w.2.2.2 sh h) U.heap ∧ va_K w.2.1 cls (tysOf w.2.2.1) U ∧ U.heap.size = w.2.2.2 + 1 + sh.length ∧ Nst U
def QcOf (w : Wd) (n0 mc : Nat) (P : Option Value → List Sh → Hp → Prop) : Array Value → State → Outcome → State → Prop := fun _ st oc t =>
  ∃ (r : Option Value) (sh' : List Sh) (h' : Hp), oc = .returned r ∧ P r sh' h' ∧ sh'.length = n0 + mc ∧ va_P w.2.1 cls (wld w.2.2.1 w.2.2.2 sh' h') t.heap ∧ va_F (fun q => w.2.2.2 < q) st t
def Ct (w : Wd) (y : MethodName) (cw : Cond) (fr lo mc ms : Nat) (av : List Value) (sh : List Sh) (h : Hp) (P : Option Value → List Sh → Hp → Prop) : Prop :=
  Met w.1 y (cw :: ALLW) ({ frames := fr, cells := mc, slots := ms, locals := lo }) (va_Pc av (Wo w sh h)) (QcOf w sh.length mc P) mc ms (fun q => w.2.2.2 < q)
/-- what a method's end rests on -/
def Rt (w : Wd) (E : GE) (ret : Option FieldType) (n0 mc ms : Nat) (P : Option Value → List Sh → Hp → Prop) : Prop :=
  gQ E = MQ (gbe E) (QcOf w n0 mc P) (ga E) (gs E) mc ms (fun q => w.2.2.2 < q) ∧ (gme E).sig.returnType = ret ∧ (gme E).locks = false ∧ (gs E).heap.size = w.2.2.2 + 1 + n0
theorem Ct_of {w : Wd} {y : MethodName} {cc : ByteArray} {maxL : Nat} {ret : Option FieldType} {fr lo mc ms : Nat} {av : List Value} {sh : List Sh} {h : Hp} {P : Option Value → List Sh → Hp → Prop} (hy : plainName y.cls = true) (hlen : (lg_sl av).length ≤ maxL)
    (body : ∀ E : GE, Cx w E cc maxL y.cls → Rt w E ret sh.length mc ms P → gR E = { frames := fr, cells := mc, slots := ms, locals := lo } → (gme E).name = y.name → G w E maxL 0 (lv_args 0 av) [] sh h 0 0) : Ct w y (.code y cc maxL ret) fr lo mc ms av sh h P := by
  refine Met.ofW (cc := cc) (maxL := maxL) (ret := ret) hy rfl ?_
  intro p e s m args below meth c s₁ B hml hv
  obtain ⟨rfl, hP, hK, hz, hN⟩ := hv
  have hts := atoms_spec (ws := Cond.code y cc maxL ret :: ALLW) B.pre
  have hown : s.vm.findClass y.cls = some m.cls := findClass_of_methodNamed B.named
  have hl := lv_entry av (n := maxL) hlen
  rw [lg_entry_eq]
  generalize (lg_sl av ++ List.replicate (maxL - (lg_sl av).length) Slot.unset).toArray = ls at hl ⊢
  exact body (p, e, (headSpec (Cond.code y cc maxL ret :: ALLW) { frames := fr, cells := mc, slots := ms, locals := lo }).room, s, m, av.toArray, below, meth, c, MQ below (QcOf w sh.length mc P) av.toArray s mc ms (fun q => w.2.2.2 < q))
    ⟨B.exec, B.bytes, hml, hown, fun x hx => hts x (List.mem_cons_of_mem _ hx), hK, by show w.2.2.2 < s.heap.size; omega, hN⟩ ⟨rfl, B.returns, B.notSynchronized, hz⟩ rfl (name_of_methodNamed B.named B.method).1 s.heap [] ls hP (by show s.heap.size + 0 = _; omega) va_S.rf hl
theorem good_mem {y : MethodName} {bytes : ByteArray} {maxL : Nat} {ret : Option FieldType} (h : Cond.code y bytes maxL ret ∈ ALLW) : GoodIn ALLW (Cond.code y bytes maxL ret :: ALLW) := by
  intro x hx
  have hx : x ∈ ALLW := by
    rcases List.mem_cons.mp hx with rfl | hx
    · exact h
    · exact hx
  exact ⟨hx, good_of_word (List.all_eq_true.mp all_good x hx)⟩
section CallRules
variable {w : Wd} {E : GE} {cc : ByteArray} {nL pc : Nat} {own : String} {lv : List (Nat × Value)} {st : List Value} {sh : List Sh} {h : Hp} {cn sn : Nat}
/-- the heap's size, where it is wanted -/
theorem g_sz (hb : w.2.2.2 < (gs E).heap.size) (k : ∀ (H : Heap) (locs : List Loc) (ls : Array Slot), H.size = w.2.2.2 + 1 + sh.length → va_P w.2.1 cls (wld w.2.2.1 w.2.2.2 sh h) H → (gs E).heap.size + cn = w.2.2.2 + 1 + sh.length → va_S (fun q => w.2.2.2 < q) (gs E).heap H locs → lv_has ls nL lv → gW w E H locs cn sn (F0 (gm E) pc ls st)) : G w E nL pc lv st sh h cn sn := by
  intro H locs ls hP hz hS hl T hT X
  have h1 : T.heap.size ≤ (gs E).heap.size + cn := X.same.2.2.1
  have h2 : w.2.2.2 + sh.length < H.size := by
    by_cases h0 : sh.length = 0
    · have := hS.1
      omega
    · have hi : sh.length - 1 < sh.length := by omega
      have h3 := (hP (sh.length - 1) _ (wld_get (List.getElem?_eq_getElem hi))).lt
      have h4 : w.2.2.2 + (sh.length - 1 + 1) < H.size := h3
      omega
  rw [hT] at h1
  exact k H locs ls (by omega) hP hz hS hl T hT X
theorem g_iret (X : Cx w E cc nL own) {n0 mc ms : Nat} {P : Option Value → List Sh → Hp → Prop} (Tt : Rt w E (some .int) n0 mc ms P) {v : Int32} (hp : P (some (Value.int v)) sh h) (d : decode cc pc = .ok (.ireturn, 1)) : G w E nL pc lv [Value.int v] sh h mc ms := by
  intro H locs ls hP hz hS hl
  obtain ⟨hQ, hr, hlk, hs0⟩ := Tt
  show W _ _ _ _ _ _ _ _ _ _ _ _ _ _ (gQ E) _
  rw [hQ]
  exact W.iret X.1 X.2.1 hr (fun t ht hW => ⟨_, sh, h, rfl, hp, by omega, by rw [ht]; exact hP, hS.F ht⟩) hS.2.2 d hlk
theorem g_zret (X : Cx w E cc nL own) {n0 mc ms : Nat} {P : Option Value → List Sh → Hp → Prop} (Tt : Rt w E (some .boolean) n0 mc ms P) {v : Int32} (hv : v = 0 ∨ v = 1) (hp : P (some (Value.int v)) sh h) (d : decode cc pc = .ok (.ireturn, 1)) : G w E nL pc lv [Value.int v] sh h mc ms := by
  intro H locs ls hP hz hS hl
  obtain ⟨hQ, hr, hlk, hs0⟩ := Tt
  show W _ _ _ _ _ _ _ _ _ _ _ _ _ _ (gQ E) _
  rw [hQ]
  exact W.zret X.1 X.2.1 hr (by rcases hv with rfl | rfl <;> rfl) (fun t ht hW => ⟨_, sh, h, rfl, hp, by omega, by rw [ht]; exact hP, hS.F ht⟩) hS.2.2 d hlk
theorem g_lret (X : Cx w E cc nL own) {n0 mc ms : Nat} {P : Option Value → List Sh → Hp → Prop} (Tt : Rt w E (some .long) n0 mc ms P) {v : Int64} (hp : P (some (Value.long v)) sh h) (d : decode cc pc = .ok (.lreturn, 1)) : G w E nL pc lv [Value.long v] sh h mc ms := by
  intro H locs ls hP hz hS hl
  obtain ⟨hQ, hr, hlk, hs0⟩ := Tt
  show W _ _ _ _ _ _ _ _ _ _ _ _ _ _ (gQ E) _
  rw [hQ]
  exact W.lret X.1 X.2.1 hr (fun t ht hW => ⟨_, sh, h, rfl, hp, by omega, by rw [ht]; exact hP, hS.F ht⟩) hS.2.2 d hlk
theorem g_vret (X : Cx w E cc nL own) {n0 mc ms : Nat} {P : Option Value → List Sh → Hp → Prop} (Tt : Rt w E none n0 mc ms P) (hp : P none sh h) (d : decode cc pc = .ok (.return_, 1)) : G w E nL pc lv [] sh h mc ms := by
  intro H locs ls hP hz hS hl
  obtain ⟨hQ, hr, hlk, hs0⟩ := Tt
  show W _ _ _ _ _ _ _ _ _ _ _ _ _ _ (gQ E) _
  rw [hQ]
  exact W.vret X.1 X.2.1 hr (fun t ht hW => ⟨_, sh, h, rfl, hp, by omega, by rw [ht]; exact hP, hS.F ht⟩) hS.2.2 d hlk
/-- behind a run of a callee -/
theorem g_call {mc ms : Nat} {P : Option Value → List Sh → Hp → Prop} {a : Array Value} {rest : List Value} (hb : w.2.2.2 < (gs E).heap.size)
    (hr : ∀ (H : Heap) (locs : List Loc) (ls : Array Slot), H.size = w.2.2.2 + 1 + sh.length → va_P w.2.1 cls (wld w.2.2.1 w.2.2.2 sh h) H → lv_has ls nL lv → va_Run E.1 w.1 E.2.1 (gR E) (gs E) (gm E) (ga E) (gbe E) (gme E) (gc E) H locs cn sn mc ms (F0 (gm E) pc ls st) rest (QcOf w sh.length mc P a) (fun q => w.2.2.2 < q))
    (k : ∀ (r : Option Value) (sh' : List Sh) (h' : Hp), P r sh' h' → G w E nL (pc + 3) lv (r.toList ++ rest) sh' h' (cn + mc) (sn + ms)) : G w E nL pc lv st sh h cn sn := by
  refine g_sz hb fun H locs ls hsz hP hz hS hl T hT X => ?_
  obtain ⟨v, st₀, t, T', L, h0, X', hL, e1, e2, ⟨r, sh', h', hv, hp, hlen, hP', hF⟩, go⟩ := hr H locs ls hsz hP hl T hT X
  cases hv
  have hS' : va_S (fun q => w.2.2.2 < q) (gs E).heap T'.heap (locs ++ L) := by
    refine ⟨Nat.le_trans hS.1 (by rw [e1, ← h0]; exact hF.1), fun q h1 h2 => ?_, fun q hq => ?_⟩
    · rw [e1, hF.2 q (by rw [h0]; exact Nat.lt_of_lt_of_le h1 hS.1) h2, h0]
      exact hS.2.1 q h1 h2
    · rcases List.mem_append.mp hq with h | h
      · exact hS.2.2 q h
      · exact hL q h
  obtain ⟨t2, a1, b1⟩ := k v sh' h' hp T'.heap (locs ++ L) ls (by rw [e1]; exact hP') (by omega) hS' hl T' rfl X'
  exact ⟨t2, go t2 a1, b1⟩
/-- a method as a method of own names it: of an object, static, a constructor -/
def MLV (own : String) (idx : Nat) (y : MethodName) (bytes : ByteArray) (maxL : Nat) (ret : Option FieldType) (n : Nat) : Prop :=
  ((Cond.methodLink own idx y) ∈ ALLW ∨ ∃ host, (Cond.methodLinkNest own idx y host) ∈ NESTW) ∧ Cond.instanceMethod y ∈ ALLW ∧ Cond.selects y.cls y y ∈ ALLW ∧ Cond.initialized y.cls ∈ ALLW ∧ Cond.code y bytes maxL ret ∈ ALLW ∧ (y.cls ≠ "java/lang/invoke/MethodHandle" ∧ y.cls ≠ "java/lang/invoke/VarHandle" ∧ (parseMethodDescriptor y.desc).map (fun d => d.parameters.length) = some n)
def MLS (own : String) (idx : Nat) (y : MethodName) (bytes : ByteArray) (maxL : Nat) (ret : Option FieldType) (n : Nat) : Prop :=
  ((Cond.methodLink own idx y) ∈ ALLW ∨ ∃ host, (Cond.methodLinkNest own idx y host) ∈ NESTW) ∧ Cond.static y ∈ ALLW ∧ Cond.initialized y.cls ∈ ALLW ∧ Cond.code y bytes maxL ret ∈ ALLW ∧ (y.cls ≠ "java/lang/invoke/MethodHandle" ∧ y.cls ≠ "java/lang/invoke/VarHandle" ∧ (parseMethodDescriptor y.desc).map (fun d => d.parameters.length) = some n)
def MLI (own : String) (idx : Nat) (y : MethodName) (bytes : ByteArray) (maxL : Nat) (n : Nat) : Prop :=
  ((Cond.methodLink own idx y) ∈ ALLW ∨ ∃ host, (Cond.methodLinkNest own idx y host) ∈ NESTW) ∧ Cond.instanceMethod y ∈ ALLW ∧ y.name = "<init>" ∧ Cond.initialized y.cls ∈ ALLW ∧ Cond.code y bytes maxL none ∈ ALLW ∧ (y.cls ≠ "java/lang/invoke/MethodHandle" ∧ y.cls ≠ "java/lang/invoke/VarHandle" ∧ (parseMethodDescriptor y.desc).map (fun d => d.parameters.length) = some n)
theorem Wo_blind {av : List Value} : FrameBlind (va_Pc av (Wo w sh h)) := fun a U g mk q => by
  obtain ⟨q0, qP, qK, qz, qN⟩ := q
  exact ⟨q0, qP, va_K.moved (u := U) (U := U.calling g mk a) (Vm.Alike.refl U.vm) qK, qz, Nst.same (u := U) (U := U.calling g mk a) rfl qN⟩
/-- does the callee's room fit -/
def Fit (R : Room) (fr lo mc ms maxL cn sn : Nat) : Prop := fr + 1 ≤ R.frames ∧ 8 + (maxL + 11) + lo ≤ R.locals ∧ cn + mc ≤ R.cells ∧ sn + ms ≤ R.slots
theorem g_invV (X : Cx w E cc nL own) {idx ci r : Nat} {y : MethodName} {bytes : ByteArray} {maxL n : Nat} {ret : Option FieldType} {fr lo mc ms : Nat} {As : List Value} {P : Option Value → List Sh → Hp → Prop} {T : u_T} {N : Nat}
    (ml : MLV own idx y bytes maxL ret n) (hci : cls[ci]? = some (y.cls, T, N)) (hs : shAt sh r = some (.inr ci)) (ct : Ct w y (.code y bytes maxL ret) fr lo mc ms (rv w.2.2.2 r :: As) sh h P) (hfit : Fit (gR E) fr lo mc ms maxL cn sn) (hn : As.length = n) {st0 : List Value} (hst : st0 = As.reverse ++ rv w.2.2.2 r :: st) (hcat : (st.map fun v => v.category).sum ≤ 8) (d : decode cc pc = .ok (.invokevirtual idx, 3))
    (k : ∀ (q : Option Value) (sh' : List Sh) (h' : Hp), P q sh' h' → G w E nL (pc + 3) lv (q.toList ++ st) sh' h' (cn + mc) (sn + ms)) : G w E nL pc lv st0 sh h cn sn := by
  obtain ⟨i, rfl, hi⟩ := shAt_pos hs
  rw [rv_pos] at hst ct
  obtain ⟨hl, hin, hse, hini, hco, hd⟩ := ml
  refine g_call (mc := mc) (ms := ms) (P := P) (a := (Value.ref (w.2.2.2 + (i + 1)) :: As).toArray) (rest := st) X.2.2.2.2.2.2.1 (fun H locs ls hsz hP hlv => ?_) k
  have hK := X.2.2.2.2.2.1
  have hpre : PreV (gs E) H y.cls (w.2.2.2 + (i + 1)) (va_Pc (Value.ref (w.2.2.2 + (i + 1)) :: As) (Wo w sh h)) As := ⟨Wo_blind, va_recv hK hP (q := (y.cls, T, N)) (ci := ci) (q0 := i) hci (wld_get hi), fun U hU hW => ⟨rfl, by rw [hU]; exact hP, va_K.moved hW.alike hK, by rw [hU]; exact hsz, Nst.warm hW X.2.2.2.2.2.2.2⟩⟩
  rcases hl with hl | ⟨host, hl⟩
  · exact va_runV (Ts := ALLW) ⟨X.1, X.2.1, X.2.2.1, X.2.2.2.1, X.2.2.2.2.1⟩ ct ⟨callB_of n X.2.2.2.2.1 (good_mem hco) rfl rfl rfl (X.2.2.2.2.1 _ hini) (X.2.2.2.2.1 _ hl) hd ⟨hfit.1, hfit.2.1⟩, X.2.2.2.2.1 _ hin, X.2.2.2.2.1 _ hse⟩ hpre rfl hn hlv.1 hst (lv_room hcat) d ⟨hfit.2.2.1, hfit.2.2.2⟩
  · exact va_runVN (Ts := ALLW) ⟨X.1, X.2.1, X.2.2.1, X.2.2.2.1, X.2.2.2.2.1⟩ ct ⟨va_cnB n X.2.2.2.2.1 (good_mem hco) rfl rfl rfl (X.2.2.2.2.2.2.2 _ hl) (X.2.2.2.2.1 _ hini) hd ⟨hfit.1, hfit.2.1⟩, X.2.2.2.2.1 _ hin, X.2.2.2.2.1 _ hse⟩ hpre rfl hn hlv.1 hst (lv_room hcat) d ⟨hfit.2.2.1, hfit.2.2.2⟩
theorem g_invS (X : Cx w E cc nL own) {idx : Nat} {y : MethodName} {bytes : ByteArray} {maxL n : Nat} {ret : Option FieldType} {fr lo mc ms : Nat} {As : List Value} {P : Option Value → List Sh → Hp → Prop}
    (ml : MLS own idx y bytes maxL ret n) (ct : Ct w y (.code y bytes maxL ret) fr lo mc ms As sh h P) (hfit : Fit (gR E) fr lo mc ms maxL cn sn) (hn : As.length = n) {st0 : List Value} (hst : st0 = As.reverse ++ st) (hcat : (st.map fun v => v.category).sum ≤ 8) (d : decode cc pc = .ok (.invokestatic idx, 3))
    (k : ∀ (q : Option Value) (sh' : List Sh) (h' : Hp), P q sh' h' → G w E nL (pc + 3) lv (q.toList ++ st) sh' h' (cn + mc) (sn + ms)) : G w E nL pc lv st0 sh h cn sn := by
  obtain ⟨hl, hsta, hini, hco, hd⟩ := ml
  refine g_call (mc := mc) (ms := ms) (P := P) (a := As.toArray) (rest := st) X.2.2.2.2.2.2.1 (fun H locs ls hsz hP hlv => ?_) k
  have hK := X.2.2.2.2.2.1
  have hpre : PreS (gs E) H (va_Pc As (Wo w sh h)) As := ⟨Wo_blind, fun U hU hW => ⟨rfl, by rw [hU]; exact hP, va_K.moved hW.alike hK, by rw [hU]; exact hsz, Nst.warm hW X.2.2.2.2.2.2.2⟩⟩
  rcases hl with hl | ⟨host, hl⟩
  · exact va_runS (Ts := ALLW) ⟨X.1, X.2.1, X.2.2.1, X.2.2.2.1, X.2.2.2.2.1⟩ ct ⟨callB_of n X.2.2.2.2.1 (good_mem hco) rfl rfl rfl (X.2.2.2.2.1 _ hini) (X.2.2.2.2.1 _ hl) hd ⟨hfit.1, hfit.2.1⟩, X.2.2.2.2.1 _ hsta⟩ hpre rfl hn hlv.1 hst (lv_room hcat) d ⟨hfit.2.2.1, hfit.2.2.2⟩
  · exact va_runSN (Ts := ALLW) ⟨X.1, X.2.1, X.2.2.1, X.2.2.2.1, X.2.2.2.2.1⟩ ct ⟨va_cnB n X.2.2.2.2.1 (good_mem hco) rfl rfl rfl (X.2.2.2.2.2.2.2 _ hl) (X.2.2.2.2.1 _ hini) hd ⟨hfit.1, hfit.2.1⟩, X.2.2.2.2.1 _ hsta, trivial⟩ hpre rfl hn hlv.1 hst (lv_room hcat) d ⟨hfit.2.2.1, hfit.2.2.2⟩
theorem g_invI (X : Cx w E cc nL own) {idx r : Nat} {s0 : Sh} {y : MethodName} {bytes : ByteArray} {maxL n : Nat} {fr lo mc ms : Nat} {As : List Value} {P : Option Value → List Sh → Hp → Prop}
    (ml : MLI own idx y bytes maxL n) (hs : shAt sh r = some s0) (ct : Ct w y (.code y bytes maxL none) fr lo mc ms (rv w.2.2.2 r :: As) sh h P) (hfit : Fit (gR E) fr lo mc ms maxL cn sn) (hn : As.length = n) {st0 : List Value} (hst : st0 = As.reverse ++ rv w.2.2.2 r :: st) (hcat : (st.map fun v => v.category).sum ≤ 8) (d : decode cc pc = .ok (.invokespecial idx, 3))
    (k : ∀ (q : Option Value) (sh' : List Sh) (h' : Hp), P q sh' h' → G w E nL (pc + 3) lv (q.toList ++ st) sh' h' (cn + mc) (sn + ms)) : G w E nL pc lv st0 sh h cn sn := by
  obtain ⟨i, rfl, hi⟩ := shAt_pos hs
  rw [rv_pos] at hst ct
  obtain ⟨hl, hin, hnm, hini, hco, hd⟩ := ml
  refine g_call (mc := mc) (ms := ms) (P := P) (a := (Value.ref (w.2.2.2 + (i + 1)) :: As).toArray) (rest := st) X.2.2.2.2.2.2.1 (fun H locs ls hsz hP hlv => ?_) k
  have hK := X.2.2.2.2.2.1
  have hpre : PreS (gs E) H (va_Pc (Value.ref (w.2.2.2 + (i + 1)) :: As) (Wo w sh h)) (Value.ref (w.2.2.2 + (i + 1)) :: As) := ⟨Wo_blind, fun U hU hW => ⟨rfl, by rw [hU]; exact hP, va_K.moved hW.alike hK, by rw [hU]; exact hsz, Nst.warm hW X.2.2.2.2.2.2.2⟩⟩
  rcases hl with hl | ⟨host, hl⟩
  · exact va_runI (Ts := ALLW) ⟨X.1, X.2.1, X.2.2.1, X.2.2.2.1, X.2.2.2.2.1⟩ ct ⟨callB_of n X.2.2.2.2.1 (good_mem hco) rfl rfl rfl (X.2.2.2.2.1 _ hini) (X.2.2.2.2.1 _ hl) hd ⟨hfit.1, hfit.2.1⟩, hnm, X.2.2.2.2.1 _ hin⟩ hpre rfl hn hlv.1 hst (lv_room hcat) d ⟨hfit.2.2.1, hfit.2.2.2⟩
  · exact va_runIN (Ts := ALLW) ⟨X.1, X.2.1, X.2.2.1, X.2.2.2.1, X.2.2.2.2.1⟩ ct ⟨va_cnB n X.2.2.2.2.1 (good_mem hco) rfl rfl rfl (X.2.2.2.2.2.2.2 _ hl) (X.2.2.2.2.1 _ hini) hd ⟨hfit.1, hfit.2.1⟩, hnm, X.2.2.2.2.1 _ hin⟩ hpre rfl hn hlv.1 hst (lv_room hcat) d ⟨hfit.2.2.1, hfit.2.2.2⟩
end CallRules
