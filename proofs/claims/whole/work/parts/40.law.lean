/-! THE CLAIM OUT OF ONE WALK OF THE LAW'S BODY. Your part is whole_start (and what it stands on); all else here is the same for every law, but numbers. -/
def R_law : String := "VcdiffFormsLaw"
def lw_P (b : Addr) (xs : List Int32) (args : Array Value) (s : State) : Prop := args = #[.ref b] ∧ s.IntsAt b xs ∧ xs.length ≤ 2048 ∧ (Jvm.Cond.and given_1 narrow_1).before args s = true
def lw_Q (_ : Array Value) (s : State) (o : Outcome) (t : State) : Prop := o = .returned (some (.int 1)) ∧ Framed s o t [] 600000 7302250
def lw_Z (below : List Frame) (a : Array Value) (s : State) : State → Prop := fun t => ∃ o, t.status = .running ∧ Ended t below o ∧ lw_Q a s o t
/-- the law's own end, with 1 on the stack, nothing written that was there before, its room as the claim has it -/
theorem lw_ret {p : Program} {l : Launch} {e : Env} {s : State} {m : MethodId} {below : List Frame} {meth : Method} {c : Code} {b : Nat} (hx : p.tables.exec = Jvm.exec) (hb : c.code = code) (hr : meth.sig.returnType = ret) (hlocks : meth.locks = false) {pc : Nat} {H : Heap} {ls : Array Slot} (hdg : decode code pc = .ok (.ireturn, 1)) : W p l e room_1 s m #[Value.ref b] below meth c H [] 600000 7302250 (lw_Z below #[Value.ref b] s) (F0 m pc ls [.int 1]) := by
  intro T hT X
  obtain ⟨fs, hret, hrun, hended, hW, hframe⟩ := X.leave (v := some (.int 1)) (hlocks := hlocks) (fun h => by rw [hr] at h; cases h)
  have hmeth' : T.vm.method? m = some meth := X.method'
  refine ⟨T.setFrames fs, ?_, .returned (some (.int 1)), hrun, hended, rfl, ⟨_, rfl⟩, hW, hframe⟩
  jvm_step X.here [X.here.top, hx, hb, hdg, hmeth', hr, ret, narrow_b1]
  (try refine ⟨rfl, ?_⟩); (try refine ⟨rfl, ?_⟩)
  first | (intro acts; rw [hret _ acts rfl rfl rfl]) | rw [hret _ _ rfl rfl rfl]
  exact Steps.refl _
/-- what holds at the law's entry: the machine, the code, the tables' words (any of lw_tbl by 'hts w (by decide +kernel)'), the script of L ints xs at the cell b, what the Statement gives of the start (any of its parts by flat_of_before) -/
def lw_At (p : Program) (s : State) (m : MethodId) (meth : Method) (c : Code) (b L : Nat) (xs : Nat → Int32) : Prop :=
  p.tables.exec = Jvm.exec ∧ c.code = code ∧ meth.sig.returnType = ret ∧ c.maxLocals = 4 ∧ s.vm.findClass R_law = some m.cls ∧ (∀ w ∈ lw_tbl, w.before #[Value.ref b] s = true) ∧ va_X b L xs s s.heap ∧ b < s.heap.size ∧ meth.locks = false ∧ (Jvm.Cond.and given_1 narrow_1).before #[Value.ref b] s = true
/-! my own: the law in my machine -/
def Scr (w : Wd) (E : GE) (b L : Nat) (xs : Nat → Int32) : Prop := va_X b L xs (gs E) (gs E).heap ∧ b < (gs E).heap.size ∧ b ≤ w.2.2.2
def LwQ (w : Wd) (E : GE) (b : Nat) : Prop := gQ E = lw_Z (gbe E) #[Value.ref b] (gs E) ∧ (gme E).sig.returnType = ret ∧ (gme E).locks = false ∧ ga E = #[Value.ref b] ∧ gR E = room_1 ∧ (gs E).heap.size = w.2.2.2 + 1
section LawRules
variable {w : Wd} {E : GE} {cc : ByteArray} {nL pc : Nat} {own : String} {lv : List (Nat × Value)} {st : List Value} {sh : List Sh} {h : Hp} {cn sn : Nat}
theorem g_sload_n (X : Cx w E cc nL own) {n : _root_.Fin 4} {x : Nat} (q : Nat) {i : Nat} (hv : lv[q]? = some (i, Value.ref x)) (hi : (n : Nat) = i) (d : decode cc pc = .ok (.aload_n n, 1)) (k : G w E nL (pc + 1) lv (Value.ref x :: st) sh h cn sn) : G w E nL pc lv st sh h cn sn := fun H locs ls hP hz hS hl => lv_aload_n X.1 X.2.1 d hi (lv_at hl q hv) (k H locs ls hP hz hS hl)
theorem g_slen (X : Cx w E cc nL own) {b L : Nat} {xs : Nat → Int32} (S9 : Scr w E b L xs) (d : decode cc pc = .ok (.arraylength, 1)) (k : G w E nL (pc + 1) lv (Value.int (Int32.ofNat L) :: st) sh h cn sn) : G w E nL pc lv (Value.ref b :: st) sh h cn sn := fun H locs ls hP hz hS hl => va_slen X.1 X.2.1 S9.1 S9.2.1 (fun q => Nat.not_le.mpr q S9.2.2) hS d (k H locs ls hP hz hS hl)
theorem g_sld (X : Cx w E cc nL own) {b L : Nat} {xs : Nat → Int32} (S9 : Scr w E b L xs) {i : Int32} (hin : vp_in i L) (d : decode cc pc = .ok (.iaload, 1)) (k : G w E nL (pc + 1) lv (Value.int (xs i.toNatClampNeg) :: st) sh h cn sn) : G w E nL pc lv (Value.int i :: Value.ref b :: st) sh h cn sn := fun H locs ls hP hz hS hl => va_sld X.1 X.2.1 S9.1 S9.2.1 (fun q => Nat.not_le.mpr q S9.2.2) hS hin d (k H locs ls hP hz hS hl)
theorem g_lawret (X : Cx w E code nL own) {b : Nat} (RQ : LwQ w E b) {v : Int32} (hv : v = 1) (d : decode code pc = .ok (.ireturn, 1)) (hc : cn ≤ 600000 := by decide) (hs : sn ≤ 7302250 := by decide) : G w E nL pc lv [Value.int v] sh h cn sn := by
  intro H locs ls hP hz hS hl
  subst hv
  obtain ⟨q1, q2, q3, q4, q5, q6⟩ := RQ
  show W _ _ _ _ _ _ _ _ _ _ _ _ _ _ (gQ E) _
  rw [q1, q5, q4]
  refine va_forget (fun q hq => ?_) ?_
  · have h1 : w.2.2.2 < q.base := hS.2.2 q hq
    omega
  · refine W.widen (k := 600000) (n := 7302250) hc hs ?_
    exact lw_ret X.1 X.2.1 q2 q3 d
end LawRules
theorem kc_L_13 : Cond.constantLong RL 13 (4294967295 : Int64) ∈ ALLW := inT6 (List.mem_of_getElem? (i := 106) rfl) rfl
theorem ml_L_15 : MLV RL 15 yX11_feed cX11_feed 4 (some .int) 2 := ⟨Or.inl (inT2 (List.mem_of_getElem? (i := 168) rfl) rfl), inT2 (List.mem_of_getElem? (i := 169) rfl) rfl, inT2 (List.mem_of_getElem? (i := 170) rfl) rfl, inT1 (List.mem_of_getElem? (i := 1) rfl) rfl, inT2 (List.mem_of_getElem? (i := 171) rfl) rfl, ⟨by decide +kernel, by decide +kernel, by decide +kernel⟩⟩
theorem ml_L_19 : MLV RL 19 yX12_feed cX12_feed 5 (some .int) 2 := ⟨Or.inl (inT5 (List.mem_of_getElem? (i := 154) rfl) rfl), inT5 (List.mem_of_getElem? (i := 155) rfl) rfl, inT5 (List.mem_of_getElem? (i := 156) rfl) rfl, inT1 (List.mem_of_getElem? (i := 15) rfl) rfl, inT5 (List.mem_of_getElem? (i := 157) rfl) rfl, ⟨by decide +kernel, by decide +kernel, by decide +kernel⟩⟩
theorem ml_L_20 : MLV RL 20 yX11_fill cX11_fill 6 (some .int) 3 := ⟨Or.inl (inT2 (List.mem_of_getElem? (i := 186) rfl) rfl), inT2 (List.mem_of_getElem? (i := 187) rfl) rfl, inT2 (List.mem_of_getElem? (i := 188) rfl) rfl, inT1 (List.mem_of_getElem? (i := 1) rfl) rfl, inT2 (List.mem_of_getElem? (i := 189) rfl) rfl, ⟨by decide +kernel, by decide +kernel, by decide +kernel⟩⟩
theorem ml_L_24 : MLV RL 24 yX12_fill cX12_fill 6 (some .int) 3 := ⟨Or.inl (inT5 (List.mem_of_getElem? (i := 158) rfl) rfl), inT5 (List.mem_of_getElem? (i := 159) rfl) rfl, inT5 (List.mem_of_getElem? (i := 160) rfl) rfl, inT1 (List.mem_of_getElem? (i := 15) rfl) rfl, inT5 (List.mem_of_getElem? (i := 161) rfl) rfl, ⟨by decide +kernel, by decide +kernel, by decide +kernel⟩⟩
theorem ml_L_25 : MLV RL 25 yX11_again cX11_again 3 (some .int) 2 := ⟨Or.inl (inT2 (List.mem_of_getElem? (i := 193) rfl) rfl), inT2 (List.mem_of_getElem? (i := 194) rfl) rfl, inT2 (List.mem_of_getElem? (i := 195) rfl) rfl, inT1 (List.mem_of_getElem? (i := 1) rfl) rfl, inT2 (List.mem_of_getElem? (i := 196) rfl) rfl, ⟨by decide +kernel, by decide +kernel, by decide +kernel⟩⟩
theorem ml_L_29 : MLV RL 29 yX12_again cX12_again 4 (some .int) 2 := ⟨Or.inl (inT5 (List.mem_of_getElem? (i := 164) rfl) rfl), inT5 (List.mem_of_getElem? (i := 165) rfl) rfl, inT5 (List.mem_of_getElem? (i := 166) rfl) rfl, inT1 (List.mem_of_getElem? (i := 15) rfl) rfl, inT5 (List.mem_of_getElem? (i := 167) rfl) rfl, ⟨by decide +kernel, by decide +kernel, by decide +kernel⟩⟩
theorem ml_L_30 : MLV RL 30 yX11_size cX11_size 1 (some .int) 0 := ⟨Or.inl (inT2 (List.mem_of_getElem? (i := 206) rfl) rfl), inT2 (List.mem_of_getElem? (i := 207) rfl) rfl, inT2 (List.mem_of_getElem? (i := 208) rfl) rfl, inT1 (List.mem_of_getElem? (i := 1) rfl) rfl, inT2 (List.mem_of_getElem? (i := 209) rfl) rfl, ⟨by decide +kernel, by decide +kernel, by decide +kernel⟩⟩
theorem ml_L_34 : MLV RL 34 yX12_size cX12_size 1 (some .int) 0 := ⟨Or.inl (inT5 (List.mem_of_getElem? (i := 168) rfl) rfl), inT5 (List.mem_of_getElem? (i := 169) rfl) rfl, inT5 (List.mem_of_getElem? (i := 170) rfl) rfl, inT1 (List.mem_of_getElem? (i := 15) rfl) rfl, inT5 (List.mem_of_getElem? (i := 171) rfl) rfl, ⟨by decide +kernel, by decide +kernel, by decide +kernel⟩⟩
theorem ml_L_35 : MLV RL 35 yX11_set cX11_set 4 (some .int) 2 := ⟨Or.inl (inT2 (List.mem_of_getElem? (i := 210) rfl) rfl), inT2 (List.mem_of_getElem? (i := 211) rfl) rfl, inT2 (List.mem_of_getElem? (i := 212) rfl) rfl, inT1 (List.mem_of_getElem? (i := 1) rfl) rfl, inT2 (List.mem_of_getElem? (i := 213) rfl) rfl, ⟨by decide +kernel, by decide +kernel, by decide +kernel⟩⟩
theorem ml_L_38 : MLV RL 38 yX12_set cX12_set 4 (some .int) 2 := ⟨Or.inl (inT5 (List.mem_of_getElem? (i := 172) rfl) rfl), inT5 (List.mem_of_getElem? (i := 173) rfl) rfl, inT5 (List.mem_of_getElem? (i := 174) rfl) rfl, inT1 (List.mem_of_getElem? (i := 15) rfl) rfl, inT5 (List.mem_of_getElem? (i := 175) rfl) rfl, ⟨by decide +kernel, by decide +kernel, by decide +kernel⟩⟩
theorem ml_L_39 : MLV RL 39 yX11_cut cX11_cut 3 (some .int) 1 := ⟨Or.inl (inT2 (List.mem_of_getElem? (i := 222) rfl) rfl), inT2 (List.mem_of_getElem? (i := 223) rfl) rfl, inT2 (List.mem_of_getElem? (i := 224) rfl) rfl, inT1 (List.mem_of_getElem? (i := 1) rfl) rfl, inT2 (List.mem_of_getElem? (i := 225) rfl) rfl, ⟨by decide +kernel, by decide +kernel, by decide +kernel⟩⟩
theorem ml_L_43 : MLV RL 43 yX12_cut cX12_cut 3 (some .int) 1 := ⟨Or.inl (inT5 (List.mem_of_getElem? (i := 176) rfl) rfl), inT5 (List.mem_of_getElem? (i := 177) rfl) rfl, inT5 (List.mem_of_getElem? (i := 178) rfl) rfl, inT1 (List.mem_of_getElem? (i := 15) rfl) rfl, inT5 (List.mem_of_getElem? (i := 179) rfl) rfl, ⟨by decide +kernel, by decide +kernel, by decide +kernel⟩⟩
theorem ml_L_44 : MLV RL 44 yX11_swap cX11_swap 2 (some .int) 0 := ⟨Or.inl (inT2 (List.mem_of_getElem? (i := 230) rfl) rfl), inT2 (List.mem_of_getElem? (i := 231) rfl) rfl, inT2 (List.mem_of_getElem? (i := 232) rfl) rfl, inT1 (List.mem_of_getElem? (i := 1) rfl) rfl, inT2 (List.mem_of_getElem? (i := 233) rfl) rfl, ⟨by decide +kernel, by decide +kernel, by decide +kernel⟩⟩
theorem ml_L_47 : MLV RL 47 yX12_swap cX12_swap 4 (some .int) 0 := ⟨Or.inl (inT5 (List.mem_of_getElem? (i := 180) rfl) rfl), inT5 (List.mem_of_getElem? (i := 181) rfl) rfl, inT5 (List.mem_of_getElem? (i := 182) rfl) rfl, inT1 (List.mem_of_getElem? (i := 15) rfl) rfl, inT5 (List.mem_of_getElem? (i := 183) rfl) rfl, ⟨by decide +kernel, by decide +kernel, by decide +kernel⟩⟩
theorem ml_L_48 : MLV RL 48 yX11_differ cX11_differ 3 (some .int) 0 := ⟨Or.inl (inT2 (List.mem_of_getElem? (i := 234) rfl) rfl), inT2 (List.mem_of_getElem? (i := 235) rfl) rfl, inT2 (List.mem_of_getElem? (i := 236) rfl) rfl, inT1 (List.mem_of_getElem? (i := 1) rfl) rfl, inT2 (List.mem_of_getElem? (i := 237) rfl) rfl, ⟨by decide +kernel, by decide +kernel, by decide +kernel⟩⟩
theorem ml_L_51 : MLV RL 51 yX12_differ cX12_differ 3 (some .int) 0 := ⟨Or.inl (inT5 (List.mem_of_getElem? (i := 184) rfl) rfl), inT5 (List.mem_of_getElem? (i := 185) rfl) rfl, inT5 (List.mem_of_getElem? (i := 186) rfl) rfl, inT1 (List.mem_of_getElem? (i := 15) rfl) rfl, inT5 (List.mem_of_getElem? (i := 187) rfl) rfl, ⟨by decide +kernel, by decide +kernel, by decide +kernel⟩⟩
theorem ml_L_52 : MLV RL 52 yX11_out cX11_out 2 (some .int) 1 := ⟨Or.inl (inT2 (List.mem_of_getElem? (i := 239) rfl) rfl), inT3 (List.mem_of_getElem? (i := 0) rfl) rfl, inT3 (List.mem_of_getElem? (i := 1) rfl) rfl, inT1 (List.mem_of_getElem? (i := 1) rfl) rfl, inT3 (List.mem_of_getElem? (i := 2) rfl) rfl, ⟨by decide +kernel, by decide +kernel, by decide +kernel⟩⟩
theorem ml_L_55 : MLV RL 55 yX12_out cX12_out 2 (some .int) 1 := ⟨Or.inl (inT5 (List.mem_of_getElem? (i := 188) rfl) rfl), inT5 (List.mem_of_getElem? (i := 189) rfl) rfl, inT5 (List.mem_of_getElem? (i := 190) rfl) rfl, inT1 (List.mem_of_getElem? (i := 15) rfl) rfl, inT5 (List.mem_of_getElem? (i := 191) rfl) rfl, ⟨by decide +kernel, by decide +kernel, by decide +kernel⟩⟩
theorem ml_L_56 : MLV RL 56 yX11_old cX11_old 1 (some .int) 0 := ⟨Or.inl (inT3 (List.mem_of_getElem? (i := 3) rfl) rfl), inT3 (List.mem_of_getElem? (i := 4) rfl) rfl, inT3 (List.mem_of_getElem? (i := 5) rfl) rfl, inT1 (List.mem_of_getElem? (i := 1) rfl) rfl, inT3 (List.mem_of_getElem? (i := 6) rfl) rfl, ⟨by decide +kernel, by decide +kernel, by decide +kernel⟩⟩
theorem ml_L_59 : MLV RL 59 yX12_old cX12_old 2 (some .int) 0 := ⟨Or.inl (inT5 (List.mem_of_getElem? (i := 192) rfl) rfl), inT5 (List.mem_of_getElem? (i := 193) rfl) rfl, inT5 (List.mem_of_getElem? (i := 194) rfl) rfl, inT1 (List.mem_of_getElem? (i := 15) rfl) rfl, inT5 (List.mem_of_getElem? (i := 195) rfl) rfl, ⟨by decide +kernel, by decide +kernel, by decide +kernel⟩⟩
theorem ml_L_60 : MLV RL 60 yX11_given cX11_given 3 (some .int) 2 := ⟨Or.inl (inT3 (List.mem_of_getElem? (i := 7) rfl) rfl), inT3 (List.mem_of_getElem? (i := 8) rfl) rfl, inT3 (List.mem_of_getElem? (i := 9) rfl) rfl, inT1 (List.mem_of_getElem? (i := 1) rfl) rfl, inT3 (List.mem_of_getElem? (i := 10) rfl) rfl, ⟨by decide +kernel, by decide +kernel, by decide +kernel⟩⟩
theorem ml_L_63 : MLV RL 63 yX12_given cX12_given 3 (some .int) 2 := ⟨Or.inl (inT5 (List.mem_of_getElem? (i := 196) rfl) rfl), inT5 (List.mem_of_getElem? (i := 197) rfl) rfl, inT5 (List.mem_of_getElem? (i := 198) rfl) rfl, inT1 (List.mem_of_getElem? (i := 15) rfl) rfl, inT5 (List.mem_of_getElem? (i := 199) rfl) rfl, ⟨by decide +kernel, by decide +kernel, by decide +kernel⟩⟩
theorem ml_L_64 : MLV RL 64 yX11_entry cX11_entry 5 (some .int) 3 := ⟨Or.inl (inT3 (List.mem_of_getElem? (i := 16) rfl) rfl), inT3 (List.mem_of_getElem? (i := 17) rfl) rfl, inT3 (List.mem_of_getElem? (i := 18) rfl) rfl, inT1 (List.mem_of_getElem? (i := 1) rfl) rfl, inT3 (List.mem_of_getElem? (i := 19) rfl) rfl, ⟨by decide +kernel, by decide +kernel, by decide +kernel⟩⟩
theorem ml_L_67 : MLV RL 67 yX12_entry cX12_entry 6 (some .int) 3 := ⟨Or.inl (inT5 (List.mem_of_getElem? (i := 200) rfl) rfl), inT5 (List.mem_of_getElem? (i := 201) rfl) rfl, inT5 (List.mem_of_getElem? (i := 202) rfl) rfl, inT1 (List.mem_of_getElem? (i := 15) rfl) rfl, inT5 (List.mem_of_getElem? (i := 203) rfl) rfl, ⟨by decide +kernel, by decide +kernel, by decide +kernel⟩⟩
theorem ml_L_68 : MLV RL 68 yX11_make cX11_make 4 (some .int) 1 := ⟨Or.inl (inT3 (List.mem_of_getElem? (i := 29) rfl) rfl), inT3 (List.mem_of_getElem? (i := 30) rfl) rfl, inT3 (List.mem_of_getElem? (i := 31) rfl) rfl, inT1 (List.mem_of_getElem? (i := 1) rfl) rfl, inT3 (List.mem_of_getElem? (i := 32) rfl) rfl, ⟨by decide +kernel, by decide +kernel, by decide +kernel⟩⟩
theorem ml_L_71 : MLV RL 71 yX12_make cX12_make 4 (some .int) 1 := ⟨Or.inl (inT6 (List.mem_of_getElem? (i := 54) rfl) rfl), inT6 (List.mem_of_getElem? (i := 55) rfl) rfl, inT6 (List.mem_of_getElem? (i := 56) rfl) rfl, inT1 (List.mem_of_getElem? (i := 15) rfl) rfl, inT6 (List.mem_of_getElem? (i := 57) rfl) rfl, ⟨by decide +kernel, by decide +kernel, by decide +kernel⟩⟩
theorem ml_L_72 : MLV RL 72 yX11_open cX11_open 1 (some .int) 0 := ⟨Or.inl (inT3 (List.mem_of_getElem? (i := 202) rfl) rfl), inT3 (List.mem_of_getElem? (i := 203) rfl) rfl, inT3 (List.mem_of_getElem? (i := 204) rfl) rfl, inT1 (List.mem_of_getElem? (i := 1) rfl) rfl, inT3 (List.mem_of_getElem? (i := 205) rfl) rfl, ⟨by decide +kernel, by decide +kernel, by decide +kernel⟩⟩
theorem ml_L_75 : MLV RL 75 yX12_open cX12_open 3 (some .int) 0 := ⟨Or.inl (inT5 (List.mem_of_getElem? (i := 204) rfl) rfl), inT5 (List.mem_of_getElem? (i := 205) rfl) rfl, inT5 (List.mem_of_getElem? (i := 206) rfl) rfl, inT1 (List.mem_of_getElem? (i := 15) rfl) rfl, inT5 (List.mem_of_getElem? (i := 207) rfl) rfl, ⟨by decide +kernel, by decide +kernel, by decide +kernel⟩⟩
theorem ml_L_76 : MLV RL 76 yX11_place cX11_place 1 (some .int) 0 := ⟨Or.inl (inT4 (List.mem_of_getElem? (i := 145) rfl) rfl), inT4 (List.mem_of_getElem? (i := 146) rfl) rfl, inT4 (List.mem_of_getElem? (i := 147) rfl) rfl, inT1 (List.mem_of_getElem? (i := 1) rfl) rfl, inT4 (List.mem_of_getElem? (i := 148) rfl) rfl, ⟨by decide +kernel, by decide +kernel, by decide +kernel⟩⟩
theorem ml_L_79 : MLV RL 79 yX12_place cX12_place 1 (some .int) 0 := ⟨Or.inl (inT6 (List.mem_of_getElem? (i := 34) rfl) rfl), inT6 (List.mem_of_getElem? (i := 35) rfl) rfl, inT6 (List.mem_of_getElem? (i := 36) rfl) rfl, inT1 (List.mem_of_getElem? (i := 15) rfl) rfl, inT6 (List.mem_of_getElem? (i := 37) rfl) rfl, ⟨by decide +kernel, by decide +kernel, by decide +kernel⟩⟩
theorem ml_L_80 : MLV RL 80 yX11_told cX11_told 2 (some .int) 1 := ⟨Or.inl (inT4 (List.mem_of_getElem? (i := 153) rfl) rfl), inT4 (List.mem_of_getElem? (i := 154) rfl) rfl, inT4 (List.mem_of_getElem? (i := 155) rfl) rfl, inT1 (List.mem_of_getElem? (i := 1) rfl) rfl, inT4 (List.mem_of_getElem? (i := 156) rfl) rfl, ⟨by decide +kernel, by decide +kernel, by decide +kernel⟩⟩
theorem ml_L_83 : MLV RL 83 yX12_told cX12_told 2 (some .int) 1 := ⟨Or.inl (inT6 (List.mem_of_getElem? (i := 38) rfl) rfl), inT6 (List.mem_of_getElem? (i := 39) rfl) rfl, inT6 (List.mem_of_getElem? (i := 40) rfl) rfl, inT1 (List.mem_of_getElem? (i := 15) rfl) rfl, inT6 (List.mem_of_getElem? (i := 41) rfl) rfl, ⟨by decide +kernel, by decide +kernel, by decide +kernel⟩⟩
theorem ml_L_84 : MLV RL 84 yX11_instruction cX11_instruction 3 (some .int) 2 := ⟨Or.inl (inT4 (List.mem_of_getElem? (i := 161) rfl) rfl), inT4 (List.mem_of_getElem? (i := 162) rfl) rfl, inT4 (List.mem_of_getElem? (i := 163) rfl) rfl, inT1 (List.mem_of_getElem? (i := 1) rfl) rfl, inT4 (List.mem_of_getElem? (i := 164) rfl) rfl, ⟨by decide +kernel, by decide +kernel, by decide +kernel⟩⟩
theorem ml_L_87 : MLV RL 87 yX12_instruction cX12_instruction 3 (some .int) 2 := ⟨Or.inl (inT6 (List.mem_of_getElem? (i := 42) rfl) rfl), inT6 (List.mem_of_getElem? (i := 43) rfl) rfl, inT6 (List.mem_of_getElem? (i := 44) rfl) rfl, inT1 (List.mem_of_getElem? (i := 15) rfl) rfl, inT6 (List.mem_of_getElem? (i := 45) rfl) rfl, ⟨by decide +kernel, by decide +kernel, by decide +kernel⟩⟩
theorem ml_L_88 : MLV RL 88 yX11_table cX11_table 3 (some .int) 2 := ⟨Or.inl (inT4 (List.mem_of_getElem? (i := 173) rfl) rfl), inT4 (List.mem_of_getElem? (i := 174) rfl) rfl, inT4 (List.mem_of_getElem? (i := 175) rfl) rfl, inT1 (List.mem_of_getElem? (i := 1) rfl) rfl, inT4 (List.mem_of_getElem? (i := 176) rfl) rfl, ⟨by decide +kernel, by decide +kernel, by decide +kernel⟩⟩
theorem ml_L_91 : MLV RL 91 yX12_table cX12_table 3 (some .int) 2 := ⟨Or.inl (inT6 (List.mem_of_getElem? (i := 46) rfl) rfl), inT6 (List.mem_of_getElem? (i := 47) rfl) rfl, inT6 (List.mem_of_getElem? (i := 48) rfl) rfl, inT1 (List.mem_of_getElem? (i := 15) rfl) rfl, inT6 (List.mem_of_getElem? (i := 49) rfl) rfl, ⟨by decide +kernel, by decide +kernel, by decide +kernel⟩⟩
theorem ml_L_92 : MLV RL 92 yX11_cache cX11_cache 3 (some .int) 2 := ⟨Or.inl (inT4 (List.mem_of_getElem? (i := 177) rfl) rfl), inT4 (List.mem_of_getElem? (i := 178) rfl) rfl, inT4 (List.mem_of_getElem? (i := 179) rfl) rfl, inT1 (List.mem_of_getElem? (i := 1) rfl) rfl, inT4 (List.mem_of_getElem? (i := 180) rfl) rfl, ⟨by decide +kernel, by decide +kernel, by decide +kernel⟩⟩
theorem ml_L_95 : MLV RL 95 yX12_cache cX12_cache 3 (some .int) 2 := ⟨Or.inl (inT6 (List.mem_of_getElem? (i := 50) rfl) rfl), inT6 (List.mem_of_getElem? (i := 51) rfl) rfl, inT6 (List.mem_of_getElem? (i := 52) rfl) rfl, inT1 (List.mem_of_getElem? (i := 15) rfl) rfl, inT6 (List.mem_of_getElem? (i := 53) rfl) rfl, ⟨by decide +kernel, by decide +kernel, by decide +kernel⟩⟩
theorem ml_L_9 : MLI RL 9 yX11_init cX11_init 1 0 := ⟨Or.inl (inT1 (List.mem_of_getElem? (i := 19) rfl) rfl), inT1 (List.mem_of_getElem? (i := 20) rfl) rfl, rfl, inT1 (List.mem_of_getElem? (i := 1) rfl) rfl, inT1 (List.mem_of_getElem? (i := 21) rfl) rfl, ⟨by decide +kernel, by decide +kernel, by decide +kernel⟩⟩
theorem ml_L_12 : MLI RL 12 yX12_init cX12_init 5 0 := ⟨Or.inl (inT4 (List.mem_of_getElem? (i := 185) rfl) rfl), inT4 (List.mem_of_getElem? (i := 186) rfl) rfl, rfl, inT1 (List.mem_of_getElem? (i := 15) rfl) rfl, inT4 (List.mem_of_getElem? (i := 187) rfl) rfl, ⟨by decide +kernel, by decide +kernel, by decide +kernel⟩⟩
theorem cl_L_7 : CL RL 7 11 13 := ⟨RX11, TX11, tyX11, rfl, inU_X11, tyX11_ok, inT1 (List.mem_of_getElem? (i := 17) rfl) rfl, inT1 (List.mem_of_getElem? (i := 18) rfl) rfl, inT1 (List.mem_of_getElem? (i := 1) rfl) rfl, rfl, by decide⟩
theorem cl_L_10 : CL RL 10 12 61 := ⟨RX12, TX12, tyX12, rfl, inU_X12, tyX12_ok, inT4 (List.mem_of_getElem? (i := 183) rfl) rfl, inT4 (List.mem_of_getElem? (i := 184) rfl) rfl, inT1 (List.mem_of_getElem? (i := 15) rfl) rfl, rfl, by decide⟩
theorem dL_law_0 : decode cL_law 0 = .ok (.new 7, 3) := by decide +kernel
theorem dL_law_3 : decode cL_law 3 = .ok (.dup, 1) := by decide +kernel
theorem dL_law_4 : decode cL_law 4 = .ok (.invokespecial 9, 3) := by decide +kernel
theorem dL_law_7 : decode cL_law 7 = .ok (.astore_n 1, 1) := by decide +kernel
theorem dL_law_8 : decode cL_law 8 = .ok (.new 10, 3) := by decide +kernel
theorem dL_law_11 : decode cL_law 11 = .ok (.dup, 1) := by decide +kernel
theorem dL_law_12 : decode cL_law 12 = .ok (.invokespecial 12, 3) := by decide +kernel
theorem dL_law_15 : decode cL_law 15 = .ok (.astore_n 2, 1) := by decide +kernel
theorem dL_law_16 : decode cL_law 16 = .ok (.iconst 0, 1) := by decide +kernel
theorem dL_law_17 : decode cL_law 17 = .ok (.istore_n 3, 1) := by decide +kernel
theorem dL_law_18 : decode cL_law 18 = .ok (.iload_n 3, 1) := by decide +kernel
theorem dL_law_19 : decode cL_law 19 = .ok (.aload_n 0, 1) := by decide +kernel
theorem dL_law_20 : decode cL_law 20 = .ok (.arraylength, 1) := by decide +kernel
theorem dL_law_21 : decode cL_law 21 = .ok (.iconst 4, 1) := by decide +kernel
theorem dL_law_22 : decode cL_law 22 = .ok (.isub, 1) := by decide +kernel
theorem dL_law_23 : decode cL_law 23 = .ok (.if_icmp .gt 624, 3) := by decide +kernel
theorem dL_law_26 : decode cL_law 26 = .ok (.aload_n 0, 1) := by decide +kernel
theorem dL_law_27 : decode cL_law 27 = .ok (.iload_n 3, 1) := by decide +kernel
theorem dL_law_28 : decode cL_law 28 = .ok (.iaload, 1) := by decide +kernel
theorem dL_law_29 : decode cL_law 29 = .ok (.bipush 31, 2) := by decide +kernel
theorem dL_law_31 : decode cL_law 31 = .ok (.iand, 1) := by decide +kernel
theorem dL_law_32 : decode cL_law 32 = .ok (.tableswitch 609 0 18 #[92, 155, 198, 231, 244, 277, 300, 313, 326, 349, 362, 395, 438, 461, 474, 487, 510, 543, 576], 92) := by decide +kernel
theorem dL_law_124 : decode cL_law 124 = .ok (.aload_n 1, 1) := by decide +kernel
theorem dL_law_125 : decode cL_law 125 = .ok (.aload_n 0, 1) := by decide +kernel
theorem dL_law_126 : decode cL_law 126 = .ok (.iload_n 3, 1) := by decide +kernel
theorem dL_law_127 : decode cL_law 127 = .ok (.iconst 1, 1) := by decide +kernel
theorem dL_law_128 : decode cL_law 128 = .ok (.iadd, 1) := by decide +kernel
theorem dL_law_129 : decode cL_law 129 = .ok (.iaload, 1) := by decide +kernel
theorem dL_law_130 : decode cL_law 130 = .ok (.i2l, 1) := by decide +kernel
theorem dL_law_131 : decode cL_law 131 = .ok (.bipush 32, 2) := by decide +kernel
theorem dL_law_133 : decode cL_law 133 = .ok (.lshl, 1) := by decide +kernel
theorem dL_law_134 : decode cL_law 134 = .ok (.aload_n 0, 1) := by decide +kernel
theorem dL_law_135 : decode cL_law 135 = .ok (.iload_n 3, 1) := by decide +kernel
theorem dL_law_136 : decode cL_law 136 = .ok (.iconst 2, 1) := by decide +kernel
theorem dL_law_137 : decode cL_law 137 = .ok (.iadd, 1) := by decide +kernel
theorem dL_law_138 : decode cL_law 138 = .ok (.iaload, 1) := by decide +kernel
theorem dL_law_139 : decode cL_law 139 = .ok (.i2l, 1) := by decide +kernel
theorem dL_law_140 : decode cL_law 140 = .ok (.ldc2_w 13, 3) := by decide +kernel
theorem dL_law_143 : decode cL_law 143 = .ok (.land, 1) := by decide +kernel
theorem dL_law_144 : decode cL_law 144 = .ok (.lor, 1) := by decide +kernel
theorem dL_law_145 : decode cL_law 145 = .ok (.aload_n 0, 1) := by decide +kernel
theorem dL_law_146 : decode cL_law 146 = .ok (.iload_n 3, 1) := by decide +kernel
theorem dL_law_147 : decode cL_law 147 = .ok (.iconst 3, 1) := by decide +kernel
theorem dL_law_148 : decode cL_law 148 = .ok (.iadd, 1) := by decide +kernel
theorem dL_law_149 : decode cL_law 149 = .ok (.iaload, 1) := by decide +kernel
theorem dL_law_150 : decode cL_law 150 = .ok (.invokevirtual 15, 3) := by decide +kernel
theorem dL_law_153 : decode cL_law 153 = .ok (.aload_n 2, 1) := by decide +kernel
theorem dL_law_154 : decode cL_law 154 = .ok (.aload_n 0, 1) := by decide +kernel
theorem dL_law_155 : decode cL_law 155 = .ok (.iload_n 3, 1) := by decide +kernel
theorem dL_law_156 : decode cL_law 156 = .ok (.iconst 1, 1) := by decide +kernel
theorem dL_law_157 : decode cL_law 157 = .ok (.iadd, 1) := by decide +kernel
theorem dL_law_158 : decode cL_law 158 = .ok (.iaload, 1) := by decide +kernel
theorem dL_law_159 : decode cL_law 159 = .ok (.i2l, 1) := by decide +kernel
theorem dL_law_160 : decode cL_law 160 = .ok (.bipush 32, 2) := by decide +kernel
theorem dL_law_162 : decode cL_law 162 = .ok (.lshl, 1) := by decide +kernel
theorem dL_law_163 : decode cL_law 163 = .ok (.aload_n 0, 1) := by decide +kernel
theorem dL_law_164 : decode cL_law 164 = .ok (.iload_n 3, 1) := by decide +kernel
theorem dL_law_165 : decode cL_law 165 = .ok (.iconst 2, 1) := by decide +kernel
theorem dL_law_166 : decode cL_law 166 = .ok (.iadd, 1) := by decide +kernel
theorem dL_law_167 : decode cL_law 167 = .ok (.iaload, 1) := by decide +kernel
theorem dL_law_168 : decode cL_law 168 = .ok (.i2l, 1) := by decide +kernel
theorem dL_law_169 : decode cL_law 169 = .ok (.ldc2_w 13, 3) := by decide +kernel
theorem dL_law_172 : decode cL_law 172 = .ok (.land, 1) := by decide +kernel
theorem dL_law_173 : decode cL_law 173 = .ok (.lor, 1) := by decide +kernel
theorem dL_law_174 : decode cL_law 174 = .ok (.aload_n 0, 1) := by decide +kernel
theorem dL_law_175 : decode cL_law 175 = .ok (.iload_n 3, 1) := by decide +kernel
theorem dL_law_176 : decode cL_law 176 = .ok (.iconst 3, 1) := by decide +kernel
theorem dL_law_177 : decode cL_law 177 = .ok (.iadd, 1) := by decide +kernel
theorem dL_law_178 : decode cL_law 178 = .ok (.iaload, 1) := by decide +kernel
theorem dL_law_179 : decode cL_law 179 = .ok (.invokevirtual 19, 3) := by decide +kernel
theorem dL_law_182 : decode cL_law 182 = .ok (.if_icmp .eq 459, 3) := by decide +kernel
theorem dL_law_185 : decode cL_law 185 = .ok (.iconst 0, 1) := by decide +kernel
theorem dL_law_186 : decode cL_law 186 = .ok (.ireturn, 1) := by decide +kernel
theorem dL_law_187 : decode cL_law 187 = .ok (.aload_n 1, 1) := by decide +kernel
theorem dL_law_188 : decode cL_law 188 = .ok (.aload_n 0, 1) := by decide +kernel
theorem dL_law_189 : decode cL_law 189 = .ok (.iload_n 3, 1) := by decide +kernel
theorem dL_law_190 : decode cL_law 190 = .ok (.iconst 1, 1) := by decide +kernel
theorem dL_law_191 : decode cL_law 191 = .ok (.iadd, 1) := by decide +kernel
theorem dL_law_192 : decode cL_law 192 = .ok (.iaload, 1) := by decide +kernel
theorem dL_law_193 : decode cL_law 193 = .ok (.aload_n 0, 1) := by decide +kernel
theorem dL_law_194 : decode cL_law 194 = .ok (.iload_n 3, 1) := by decide +kernel
theorem dL_law_195 : decode cL_law 195 = .ok (.iconst 2, 1) := by decide +kernel
theorem dL_law_196 : decode cL_law 196 = .ok (.iadd, 1) := by decide +kernel
theorem dL_law_197 : decode cL_law 197 = .ok (.iaload, 1) := by decide +kernel
theorem dL_law_198 : decode cL_law 198 = .ok (.aload_n 0, 1) := by decide +kernel
theorem dL_law_199 : decode cL_law 199 = .ok (.iload_n 3, 1) := by decide +kernel
theorem dL_law_200 : decode cL_law 200 = .ok (.iconst 3, 1) := by decide +kernel
theorem dL_law_201 : decode cL_law 201 = .ok (.iadd, 1) := by decide +kernel
theorem dL_law_202 : decode cL_law 202 = .ok (.iaload, 1) := by decide +kernel
theorem dL_law_203 : decode cL_law 203 = .ok (.invokevirtual 20, 3) := by decide +kernel
theorem dL_law_206 : decode cL_law 206 = .ok (.aload_n 2, 1) := by decide +kernel
theorem dL_law_207 : decode cL_law 207 = .ok (.aload_n 0, 1) := by decide +kernel
theorem dL_law_208 : decode cL_law 208 = .ok (.iload_n 3, 1) := by decide +kernel
theorem dL_law_209 : decode cL_law 209 = .ok (.iconst 1, 1) := by decide +kernel
theorem dL_law_210 : decode cL_law 210 = .ok (.iadd, 1) := by decide +kernel
theorem dL_law_211 : decode cL_law 211 = .ok (.iaload, 1) := by decide +kernel
theorem dL_law_212 : decode cL_law 212 = .ok (.aload_n 0, 1) := by decide +kernel
theorem dL_law_213 : decode cL_law 213 = .ok (.iload_n 3, 1) := by decide +kernel
theorem dL_law_214 : decode cL_law 214 = .ok (.iconst 2, 1) := by decide +kernel
theorem dL_law_215 : decode cL_law 215 = .ok (.iadd, 1) := by decide +kernel
theorem dL_law_216 : decode cL_law 216 = .ok (.iaload, 1) := by decide +kernel
theorem dL_law_217 : decode cL_law 217 = .ok (.aload_n 0, 1) := by decide +kernel
theorem dL_law_218 : decode cL_law 218 = .ok (.iload_n 3, 1) := by decide +kernel
theorem dL_law_219 : decode cL_law 219 = .ok (.iconst 3, 1) := by decide +kernel
theorem dL_law_220 : decode cL_law 220 = .ok (.iadd, 1) := by decide +kernel
theorem dL_law_221 : decode cL_law 221 = .ok (.iaload, 1) := by decide +kernel
theorem dL_law_222 : decode cL_law 222 = .ok (.invokevirtual 24, 3) := by decide +kernel
theorem dL_law_225 : decode cL_law 225 = .ok (.if_icmp .eq 416, 3) := by decide +kernel
theorem dL_law_228 : decode cL_law 228 = .ok (.iconst 0, 1) := by decide +kernel
theorem dL_law_229 : decode cL_law 229 = .ok (.ireturn, 1) := by decide +kernel
theorem dL_law_230 : decode cL_law 230 = .ok (.aload_n 1, 1) := by decide +kernel
theorem dL_law_231 : decode cL_law 231 = .ok (.aload_n 0, 1) := by decide +kernel
theorem dL_law_232 : decode cL_law 232 = .ok (.iload_n 3, 1) := by decide +kernel
theorem dL_law_233 : decode cL_law 233 = .ok (.iconst 1, 1) := by decide +kernel
theorem dL_law_234 : decode cL_law 234 = .ok (.iadd, 1) := by decide +kernel
theorem dL_law_235 : decode cL_law 235 = .ok (.iaload, 1) := by decide +kernel
theorem dL_law_236 : decode cL_law 236 = .ok (.aload_n 0, 1) := by decide +kernel
theorem dL_law_237 : decode cL_law 237 = .ok (.iload_n 3, 1) := by decide +kernel
theorem dL_law_238 : decode cL_law 238 = .ok (.iconst 2, 1) := by decide +kernel
theorem dL_law_239 : decode cL_law 239 = .ok (.iadd, 1) := by decide +kernel
theorem dL_law_240 : decode cL_law 240 = .ok (.iaload, 1) := by decide +kernel
theorem dL_law_241 : decode cL_law 241 = .ok (.invokevirtual 25, 3) := by decide +kernel
theorem dL_law_244 : decode cL_law 244 = .ok (.aload_n 2, 1) := by decide +kernel
theorem dL_law_245 : decode cL_law 245 = .ok (.aload_n 0, 1) := by decide +kernel
theorem dL_law_246 : decode cL_law 246 = .ok (.iload_n 3, 1) := by decide +kernel
theorem dL_law_247 : decode cL_law 247 = .ok (.iconst 1, 1) := by decide +kernel
theorem dL_law_248 : decode cL_law 248 = .ok (.iadd, 1) := by decide +kernel
theorem dL_law_249 : decode cL_law 249 = .ok (.iaload, 1) := by decide +kernel
theorem dL_law_250 : decode cL_law 250 = .ok (.aload_n 0, 1) := by decide +kernel
theorem dL_law_251 : decode cL_law 251 = .ok (.iload_n 3, 1) := by decide +kernel
theorem dL_law_252 : decode cL_law 252 = .ok (.iconst 2, 1) := by decide +kernel
theorem dL_law_253 : decode cL_law 253 = .ok (.iadd, 1) := by decide +kernel
theorem dL_law_254 : decode cL_law 254 = .ok (.iaload, 1) := by decide +kernel
theorem dL_law_255 : decode cL_law 255 = .ok (.invokevirtual 29, 3) := by decide +kernel
theorem dL_law_258 : decode cL_law 258 = .ok (.if_icmp .eq 383, 3) := by decide +kernel
theorem dL_law_261 : decode cL_law 261 = .ok (.iconst 0, 1) := by decide +kernel
theorem dL_law_262 : decode cL_law 262 = .ok (.ireturn, 1) := by decide +kernel
theorem dL_law_263 : decode cL_law 263 = .ok (.aload_n 1, 1) := by decide +kernel
theorem dL_law_264 : decode cL_law 264 = .ok (.invokevirtual 30, 3) := by decide +kernel
theorem dL_law_267 : decode cL_law 267 = .ok (.aload_n 2, 1) := by decide +kernel
theorem dL_law_268 : decode cL_law 268 = .ok (.invokevirtual 34, 3) := by decide +kernel
theorem dL_law_271 : decode cL_law 271 = .ok (.if_icmp .eq 370, 3) := by decide +kernel
theorem dL_law_274 : decode cL_law 274 = .ok (.iconst 0, 1) := by decide +kernel
theorem dL_law_275 : decode cL_law 275 = .ok (.ireturn, 1) := by decide +kernel
theorem dL_law_276 : decode cL_law 276 = .ok (.aload_n 1, 1) := by decide +kernel
theorem dL_law_277 : decode cL_law 277 = .ok (.aload_n 0, 1) := by decide +kernel
theorem dL_law_278 : decode cL_law 278 = .ok (.iload_n 3, 1) := by decide +kernel
theorem dL_law_279 : decode cL_law 279 = .ok (.iconst 1, 1) := by decide +kernel
theorem dL_law_280 : decode cL_law 280 = .ok (.iadd, 1) := by decide +kernel
theorem dL_law_281 : decode cL_law 281 = .ok (.iaload, 1) := by decide +kernel
theorem dL_law_282 : decode cL_law 282 = .ok (.aload_n 0, 1) := by decide +kernel
theorem dL_law_283 : decode cL_law 283 = .ok (.iload_n 3, 1) := by decide +kernel
theorem dL_law_284 : decode cL_law 284 = .ok (.iconst 2, 1) := by decide +kernel
theorem dL_law_285 : decode cL_law 285 = .ok (.iadd, 1) := by decide +kernel
theorem dL_law_286 : decode cL_law 286 = .ok (.iaload, 1) := by decide +kernel
theorem dL_law_287 : decode cL_law 287 = .ok (.invokevirtual 35, 3) := by decide +kernel
theorem dL_law_290 : decode cL_law 290 = .ok (.aload_n 2, 1) := by decide +kernel
theorem dL_law_291 : decode cL_law 291 = .ok (.aload_n 0, 1) := by decide +kernel
theorem dL_law_292 : decode cL_law 292 = .ok (.iload_n 3, 1) := by decide +kernel
theorem dL_law_293 : decode cL_law 293 = .ok (.iconst 1, 1) := by decide +kernel
theorem dL_law_294 : decode cL_law 294 = .ok (.iadd, 1) := by decide +kernel
theorem dL_law_295 : decode cL_law 295 = .ok (.iaload, 1) := by decide +kernel
theorem dL_law_296 : decode cL_law 296 = .ok (.aload_n 0, 1) := by decide +kernel
theorem dL_law_297 : decode cL_law 297 = .ok (.iload_n 3, 1) := by decide +kernel
theorem dL_law_298 : decode cL_law 298 = .ok (.iconst 2, 1) := by decide +kernel
theorem dL_law_299 : decode cL_law 299 = .ok (.iadd, 1) := by decide +kernel
theorem dL_law_300 : decode cL_law 300 = .ok (.iaload, 1) := by decide +kernel
theorem dL_law_301 : decode cL_law 301 = .ok (.invokevirtual 38, 3) := by decide +kernel
theorem dL_law_304 : decode cL_law 304 = .ok (.if_icmp .eq 337, 3) := by decide +kernel
theorem dL_law_307 : decode cL_law 307 = .ok (.iconst 0, 1) := by decide +kernel
theorem dL_law_308 : decode cL_law 308 = .ok (.ireturn, 1) := by decide +kernel
theorem dL_law_309 : decode cL_law 309 = .ok (.aload_n 1, 1) := by decide +kernel
theorem dL_law_310 : decode cL_law 310 = .ok (.aload_n 0, 1) := by decide +kernel
theorem dL_law_311 : decode cL_law 311 = .ok (.iload_n 3, 1) := by decide +kernel
theorem dL_law_312 : decode cL_law 312 = .ok (.iconst 1, 1) := by decide +kernel
theorem dL_law_313 : decode cL_law 313 = .ok (.iadd, 1) := by decide +kernel
theorem dL_law_314 : decode cL_law 314 = .ok (.iaload, 1) := by decide +kernel
theorem dL_law_315 : decode cL_law 315 = .ok (.invokevirtual 39, 3) := by decide +kernel
theorem dL_law_318 : decode cL_law 318 = .ok (.aload_n 2, 1) := by decide +kernel
theorem dL_law_319 : decode cL_law 319 = .ok (.aload_n 0, 1) := by decide +kernel
theorem dL_law_320 : decode cL_law 320 = .ok (.iload_n 3, 1) := by decide +kernel
theorem dL_law_321 : decode cL_law 321 = .ok (.iconst 1, 1) := by decide +kernel
theorem dL_law_322 : decode cL_law 322 = .ok (.iadd, 1) := by decide +kernel
theorem dL_law_323 : decode cL_law 323 = .ok (.iaload, 1) := by decide +kernel
theorem dL_law_324 : decode cL_law 324 = .ok (.invokevirtual 43, 3) := by decide +kernel
theorem dL_law_327 : decode cL_law 327 = .ok (.if_icmp .eq 314, 3) := by decide +kernel
theorem dL_law_330 : decode cL_law 330 = .ok (.iconst 0, 1) := by decide +kernel
theorem dL_law_331 : decode cL_law 331 = .ok (.ireturn, 1) := by decide +kernel
theorem dL_law_332 : decode cL_law 332 = .ok (.aload_n 1, 1) := by decide +kernel
theorem dL_law_333 : decode cL_law 333 = .ok (.invokevirtual 44, 3) := by decide +kernel
theorem dL_law_336 : decode cL_law 336 = .ok (.aload_n 2, 1) := by decide +kernel
theorem dL_law_337 : decode cL_law 337 = .ok (.invokevirtual 47, 3) := by decide +kernel
theorem dL_law_340 : decode cL_law 340 = .ok (.if_icmp .eq 301, 3) := by decide +kernel
theorem dL_law_343 : decode cL_law 343 = .ok (.iconst 0, 1) := by decide +kernel
theorem dL_law_344 : decode cL_law 344 = .ok (.ireturn, 1) := by decide +kernel
theorem dL_law_345 : decode cL_law 345 = .ok (.aload_n 1, 1) := by decide +kernel
theorem dL_law_346 : decode cL_law 346 = .ok (.invokevirtual 48, 3) := by decide +kernel
theorem dL_law_349 : decode cL_law 349 = .ok (.aload_n 2, 1) := by decide +kernel
theorem dL_law_350 : decode cL_law 350 = .ok (.invokevirtual 51, 3) := by decide +kernel
theorem dL_law_353 : decode cL_law 353 = .ok (.if_icmp .eq 288, 3) := by decide +kernel
theorem dL_law_356 : decode cL_law 356 = .ok (.iconst 0, 1) := by decide +kernel
theorem dL_law_357 : decode cL_law 357 = .ok (.ireturn, 1) := by decide +kernel
theorem dL_law_358 : decode cL_law 358 = .ok (.aload_n 1, 1) := by decide +kernel
theorem dL_law_359 : decode cL_law 359 = .ok (.aload_n 0, 1) := by decide +kernel
theorem dL_law_360 : decode cL_law 360 = .ok (.iload_n 3, 1) := by decide +kernel
theorem dL_law_361 : decode cL_law 361 = .ok (.iconst 1, 1) := by decide +kernel
theorem dL_law_362 : decode cL_law 362 = .ok (.iadd, 1) := by decide +kernel
theorem dL_law_363 : decode cL_law 363 = .ok (.iaload, 1) := by decide +kernel
theorem dL_law_364 : decode cL_law 364 = .ok (.invokevirtual 52, 3) := by decide +kernel
theorem dL_law_367 : decode cL_law 367 = .ok (.aload_n 2, 1) := by decide +kernel
theorem dL_law_368 : decode cL_law 368 = .ok (.aload_n 0, 1) := by decide +kernel
theorem dL_law_369 : decode cL_law 369 = .ok (.iload_n 3, 1) := by decide +kernel
theorem dL_law_370 : decode cL_law 370 = .ok (.iconst 1, 1) := by decide +kernel
theorem dL_law_371 : decode cL_law 371 = .ok (.iadd, 1) := by decide +kernel
theorem dL_law_372 : decode cL_law 372 = .ok (.iaload, 1) := by decide +kernel
theorem dL_law_373 : decode cL_law 373 = .ok (.invokevirtual 55, 3) := by decide +kernel
theorem dL_law_376 : decode cL_law 376 = .ok (.if_icmp .eq 265, 3) := by decide +kernel
theorem dL_law_379 : decode cL_law 379 = .ok (.iconst 0, 1) := by decide +kernel
theorem dL_law_380 : decode cL_law 380 = .ok (.ireturn, 1) := by decide +kernel
theorem dL_law_381 : decode cL_law 381 = .ok (.aload_n 1, 1) := by decide +kernel
theorem dL_law_382 : decode cL_law 382 = .ok (.invokevirtual 56, 3) := by decide +kernel
theorem dL_law_385 : decode cL_law 385 = .ok (.aload_n 2, 1) := by decide +kernel
theorem dL_law_386 : decode cL_law 386 = .ok (.invokevirtual 59, 3) := by decide +kernel
theorem dL_law_389 : decode cL_law 389 = .ok (.if_icmp .eq 252, 3) := by decide +kernel
theorem dL_law_392 : decode cL_law 392 = .ok (.iconst 0, 1) := by decide +kernel
theorem dL_law_393 : decode cL_law 393 = .ok (.ireturn, 1) := by decide +kernel
theorem dL_law_394 : decode cL_law 394 = .ok (.aload_n 1, 1) := by decide +kernel
theorem dL_law_395 : decode cL_law 395 = .ok (.aload_n 0, 1) := by decide +kernel
theorem dL_law_396 : decode cL_law 396 = .ok (.iload_n 3, 1) := by decide +kernel
theorem dL_law_397 : decode cL_law 397 = .ok (.iconst 1, 1) := by decide +kernel
theorem dL_law_398 : decode cL_law 398 = .ok (.iadd, 1) := by decide +kernel
theorem dL_law_399 : decode cL_law 399 = .ok (.iaload, 1) := by decide +kernel
theorem dL_law_400 : decode cL_law 400 = .ok (.aload_n 0, 1) := by decide +kernel
theorem dL_law_401 : decode cL_law 401 = .ok (.iload_n 3, 1) := by decide +kernel
theorem dL_law_402 : decode cL_law 402 = .ok (.iconst 2, 1) := by decide +kernel
theorem dL_law_403 : decode cL_law 403 = .ok (.iadd, 1) := by decide +kernel
theorem dL_law_404 : decode cL_law 404 = .ok (.iaload, 1) := by decide +kernel
theorem dL_law_405 : decode cL_law 405 = .ok (.invokevirtual 60, 3) := by decide +kernel
theorem dL_law_408 : decode cL_law 408 = .ok (.aload_n 2, 1) := by decide +kernel
theorem dL_law_409 : decode cL_law 409 = .ok (.aload_n 0, 1) := by decide +kernel
theorem dL_law_410 : decode cL_law 410 = .ok (.iload_n 3, 1) := by decide +kernel
theorem dL_law_411 : decode cL_law 411 = .ok (.iconst 1, 1) := by decide +kernel
theorem dL_law_412 : decode cL_law 412 = .ok (.iadd, 1) := by decide +kernel
theorem dL_law_413 : decode cL_law 413 = .ok (.iaload, 1) := by decide +kernel
theorem dL_law_414 : decode cL_law 414 = .ok (.aload_n 0, 1) := by decide +kernel
theorem dL_law_415 : decode cL_law 415 = .ok (.iload_n 3, 1) := by decide +kernel
theorem dL_law_416 : decode cL_law 416 = .ok (.iconst 2, 1) := by decide +kernel
theorem dL_law_417 : decode cL_law 417 = .ok (.iadd, 1) := by decide +kernel
theorem dL_law_418 : decode cL_law 418 = .ok (.iaload, 1) := by decide +kernel
theorem dL_law_419 : decode cL_law 419 = .ok (.invokevirtual 63, 3) := by decide +kernel
theorem dL_law_422 : decode cL_law 422 = .ok (.if_icmp .eq 219, 3) := by decide +kernel
theorem dL_law_425 : decode cL_law 425 = .ok (.iconst 0, 1) := by decide +kernel
theorem dL_law_426 : decode cL_law 426 = .ok (.ireturn, 1) := by decide +kernel
theorem dL_law_427 : decode cL_law 427 = .ok (.aload_n 1, 1) := by decide +kernel
theorem dL_law_428 : decode cL_law 428 = .ok (.aload_n 0, 1) := by decide +kernel
theorem dL_law_429 : decode cL_law 429 = .ok (.iload_n 3, 1) := by decide +kernel
theorem dL_law_430 : decode cL_law 430 = .ok (.iconst 1, 1) := by decide +kernel
theorem dL_law_431 : decode cL_law 431 = .ok (.iadd, 1) := by decide +kernel
theorem dL_law_432 : decode cL_law 432 = .ok (.iaload, 1) := by decide +kernel
theorem dL_law_433 : decode cL_law 433 = .ok (.aload_n 0, 1) := by decide +kernel
theorem dL_law_434 : decode cL_law 434 = .ok (.iload_n 3, 1) := by decide +kernel
theorem dL_law_435 : decode cL_law 435 = .ok (.iconst 2, 1) := by decide +kernel
theorem dL_law_436 : decode cL_law 436 = .ok (.iadd, 1) := by decide +kernel
theorem dL_law_437 : decode cL_law 437 = .ok (.iaload, 1) := by decide +kernel
theorem dL_law_438 : decode cL_law 438 = .ok (.aload_n 0, 1) := by decide +kernel
theorem dL_law_439 : decode cL_law 439 = .ok (.iload_n 3, 1) := by decide +kernel
theorem dL_law_440 : decode cL_law 440 = .ok (.iconst 3, 1) := by decide +kernel
theorem dL_law_441 : decode cL_law 441 = .ok (.iadd, 1) := by decide +kernel
theorem dL_law_442 : decode cL_law 442 = .ok (.iaload, 1) := by decide +kernel
theorem dL_law_443 : decode cL_law 443 = .ok (.invokevirtual 64, 3) := by decide +kernel
theorem dL_law_446 : decode cL_law 446 = .ok (.aload_n 2, 1) := by decide +kernel
theorem dL_law_447 : decode cL_law 447 = .ok (.aload_n 0, 1) := by decide +kernel
theorem dL_law_448 : decode cL_law 448 = .ok (.iload_n 3, 1) := by decide +kernel
theorem dL_law_449 : decode cL_law 449 = .ok (.iconst 1, 1) := by decide +kernel
theorem dL_law_450 : decode cL_law 450 = .ok (.iadd, 1) := by decide +kernel
theorem dL_law_451 : decode cL_law 451 = .ok (.iaload, 1) := by decide +kernel
theorem dL_law_452 : decode cL_law 452 = .ok (.aload_n 0, 1) := by decide +kernel
theorem dL_law_453 : decode cL_law 453 = .ok (.iload_n 3, 1) := by decide +kernel
theorem dL_law_454 : decode cL_law 454 = .ok (.iconst 2, 1) := by decide +kernel
theorem dL_law_455 : decode cL_law 455 = .ok (.iadd, 1) := by decide +kernel
theorem dL_law_456 : decode cL_law 456 = .ok (.iaload, 1) := by decide +kernel
theorem dL_law_457 : decode cL_law 457 = .ok (.aload_n 0, 1) := by decide +kernel
theorem dL_law_458 : decode cL_law 458 = .ok (.iload_n 3, 1) := by decide +kernel
theorem dL_law_459 : decode cL_law 459 = .ok (.iconst 3, 1) := by decide +kernel
theorem dL_law_460 : decode cL_law 460 = .ok (.iadd, 1) := by decide +kernel
theorem dL_law_461 : decode cL_law 461 = .ok (.iaload, 1) := by decide +kernel
theorem dL_law_462 : decode cL_law 462 = .ok (.invokevirtual 67, 3) := by decide +kernel
theorem dL_law_465 : decode cL_law 465 = .ok (.if_icmp .eq 176, 3) := by decide +kernel
theorem dL_law_468 : decode cL_law 468 = .ok (.iconst 0, 1) := by decide +kernel
theorem dL_law_469 : decode cL_law 469 = .ok (.ireturn, 1) := by decide +kernel
theorem dL_law_470 : decode cL_law 470 = .ok (.aload_n 1, 1) := by decide +kernel
theorem dL_law_471 : decode cL_law 471 = .ok (.aload_n 0, 1) := by decide +kernel
theorem dL_law_472 : decode cL_law 472 = .ok (.iload_n 3, 1) := by decide +kernel
theorem dL_law_473 : decode cL_law 473 = .ok (.iconst 1, 1) := by decide +kernel
theorem dL_law_474 : decode cL_law 474 = .ok (.iadd, 1) := by decide +kernel
theorem dL_law_475 : decode cL_law 475 = .ok (.iaload, 1) := by decide +kernel
theorem dL_law_476 : decode cL_law 476 = .ok (.invokevirtual 68, 3) := by decide +kernel
theorem dL_law_479 : decode cL_law 479 = .ok (.aload_n 2, 1) := by decide +kernel
theorem dL_law_480 : decode cL_law 480 = .ok (.aload_n 0, 1) := by decide +kernel
theorem dL_law_481 : decode cL_law 481 = .ok (.iload_n 3, 1) := by decide +kernel
theorem dL_law_482 : decode cL_law 482 = .ok (.iconst 1, 1) := by decide +kernel
theorem dL_law_483 : decode cL_law 483 = .ok (.iadd, 1) := by decide +kernel
theorem dL_law_484 : decode cL_law 484 = .ok (.iaload, 1) := by decide +kernel
theorem dL_law_485 : decode cL_law 485 = .ok (.invokevirtual 71, 3) := by decide +kernel
theorem dL_law_488 : decode cL_law 488 = .ok (.if_icmp .eq 153, 3) := by decide +kernel
theorem dL_law_491 : decode cL_law 491 = .ok (.iconst 0, 1) := by decide +kernel
theorem dL_law_492 : decode cL_law 492 = .ok (.ireturn, 1) := by decide +kernel
theorem dL_law_493 : decode cL_law 493 = .ok (.aload_n 1, 1) := by decide +kernel
theorem dL_law_494 : decode cL_law 494 = .ok (.invokevirtual 72, 3) := by decide +kernel
theorem dL_law_497 : decode cL_law 497 = .ok (.aload_n 2, 1) := by decide +kernel
theorem dL_law_498 : decode cL_law 498 = .ok (.invokevirtual 75, 3) := by decide +kernel
theorem dL_law_501 : decode cL_law 501 = .ok (.if_icmp .eq 140, 3) := by decide +kernel
theorem dL_law_504 : decode cL_law 504 = .ok (.iconst 0, 1) := by decide +kernel
theorem dL_law_505 : decode cL_law 505 = .ok (.ireturn, 1) := by decide +kernel
theorem dL_law_506 : decode cL_law 506 = .ok (.aload_n 1, 1) := by decide +kernel
theorem dL_law_507 : decode cL_law 507 = .ok (.invokevirtual 76, 3) := by decide +kernel
theorem dL_law_510 : decode cL_law 510 = .ok (.aload_n 2, 1) := by decide +kernel
theorem dL_law_511 : decode cL_law 511 = .ok (.invokevirtual 79, 3) := by decide +kernel
theorem dL_law_514 : decode cL_law 514 = .ok (.if_icmp .eq 127, 3) := by decide +kernel
theorem dL_law_517 : decode cL_law 517 = .ok (.iconst 0, 1) := by decide +kernel
theorem dL_law_518 : decode cL_law 518 = .ok (.ireturn, 1) := by decide +kernel
theorem dL_law_519 : decode cL_law 519 = .ok (.aload_n 1, 1) := by decide +kernel
theorem dL_law_520 : decode cL_law 520 = .ok (.aload_n 0, 1) := by decide +kernel
theorem dL_law_521 : decode cL_law 521 = .ok (.iload_n 3, 1) := by decide +kernel
theorem dL_law_522 : decode cL_law 522 = .ok (.iconst 1, 1) := by decide +kernel
theorem dL_law_523 : decode cL_law 523 = .ok (.iadd, 1) := by decide +kernel
theorem dL_law_524 : decode cL_law 524 = .ok (.iaload, 1) := by decide +kernel
theorem dL_law_525 : decode cL_law 525 = .ok (.invokevirtual 80, 3) := by decide +kernel
theorem dL_law_528 : decode cL_law 528 = .ok (.aload_n 2, 1) := by decide +kernel
theorem dL_law_529 : decode cL_law 529 = .ok (.aload_n 0, 1) := by decide +kernel
theorem dL_law_530 : decode cL_law 530 = .ok (.iload_n 3, 1) := by decide +kernel
theorem dL_law_531 : decode cL_law 531 = .ok (.iconst 1, 1) := by decide +kernel
theorem dL_law_532 : decode cL_law 532 = .ok (.iadd, 1) := by decide +kernel
theorem dL_law_533 : decode cL_law 533 = .ok (.iaload, 1) := by decide +kernel
theorem dL_law_534 : decode cL_law 534 = .ok (.invokevirtual 83, 3) := by decide +kernel
theorem dL_law_537 : decode cL_law 537 = .ok (.if_icmp .eq 104, 3) := by decide +kernel
theorem dL_law_540 : decode cL_law 540 = .ok (.iconst 0, 1) := by decide +kernel
theorem dL_law_541 : decode cL_law 541 = .ok (.ireturn, 1) := by decide +kernel
theorem dL_law_542 : decode cL_law 542 = .ok (.aload_n 1, 1) := by decide +kernel
theorem dL_law_543 : decode cL_law 543 = .ok (.aload_n 0, 1) := by decide +kernel
theorem dL_law_544 : decode cL_law 544 = .ok (.iload_n 3, 1) := by decide +kernel
theorem dL_law_545 : decode cL_law 545 = .ok (.iconst 1, 1) := by decide +kernel
theorem dL_law_546 : decode cL_law 546 = .ok (.iadd, 1) := by decide +kernel
theorem dL_law_547 : decode cL_law 547 = .ok (.iaload, 1) := by decide +kernel
theorem dL_law_548 : decode cL_law 548 = .ok (.aload_n 0, 1) := by decide +kernel
theorem dL_law_549 : decode cL_law 549 = .ok (.iload_n 3, 1) := by decide +kernel
theorem dL_law_550 : decode cL_law 550 = .ok (.iconst 2, 1) := by decide +kernel
theorem dL_law_551 : decode cL_law 551 = .ok (.iadd, 1) := by decide +kernel
theorem dL_law_552 : decode cL_law 552 = .ok (.iaload, 1) := by decide +kernel
theorem dL_law_553 : decode cL_law 553 = .ok (.invokevirtual 84, 3) := by decide +kernel
theorem dL_law_556 : decode cL_law 556 = .ok (.aload_n 2, 1) := by decide +kernel
theorem dL_law_557 : decode cL_law 557 = .ok (.aload_n 0, 1) := by decide +kernel
theorem dL_law_558 : decode cL_law 558 = .ok (.iload_n 3, 1) := by decide +kernel
theorem dL_law_559 : decode cL_law 559 = .ok (.iconst 1, 1) := by decide +kernel
theorem dL_law_560 : decode cL_law 560 = .ok (.iadd, 1) := by decide +kernel
theorem dL_law_561 : decode cL_law 561 = .ok (.iaload, 1) := by decide +kernel
theorem dL_law_562 : decode cL_law 562 = .ok (.aload_n 0, 1) := by decide +kernel
theorem dL_law_563 : decode cL_law 563 = .ok (.iload_n 3, 1) := by decide +kernel
theorem dL_law_564 : decode cL_law 564 = .ok (.iconst 2, 1) := by decide +kernel
theorem dL_law_565 : decode cL_law 565 = .ok (.iadd, 1) := by decide +kernel
theorem dL_law_566 : decode cL_law 566 = .ok (.iaload, 1) := by decide +kernel
theorem dL_law_567 : decode cL_law 567 = .ok (.invokevirtual 87, 3) := by decide +kernel
theorem dL_law_570 : decode cL_law 570 = .ok (.if_icmp .eq 71, 3) := by decide +kernel
theorem dL_law_573 : decode cL_law 573 = .ok (.iconst 0, 1) := by decide +kernel
theorem dL_law_574 : decode cL_law 574 = .ok (.ireturn, 1) := by decide +kernel
theorem dL_law_575 : decode cL_law 575 = .ok (.aload_n 1, 1) := by decide +kernel
theorem dL_law_576 : decode cL_law 576 = .ok (.aload_n 0, 1) := by decide +kernel
theorem dL_law_577 : decode cL_law 577 = .ok (.iload_n 3, 1) := by decide +kernel
theorem dL_law_578 : decode cL_law 578 = .ok (.iconst 1, 1) := by decide +kernel
theorem dL_law_579 : decode cL_law 579 = .ok (.iadd, 1) := by decide +kernel
theorem dL_law_580 : decode cL_law 580 = .ok (.iaload, 1) := by decide +kernel
theorem dL_law_581 : decode cL_law 581 = .ok (.aload_n 0, 1) := by decide +kernel
theorem dL_law_582 : decode cL_law 582 = .ok (.iload_n 3, 1) := by decide +kernel
theorem dL_law_583 : decode cL_law 583 = .ok (.iconst 2, 1) := by decide +kernel
theorem dL_law_584 : decode cL_law 584 = .ok (.iadd, 1) := by decide +kernel
theorem dL_law_585 : decode cL_law 585 = .ok (.iaload, 1) := by decide +kernel
theorem dL_law_586 : decode cL_law 586 = .ok (.invokevirtual 88, 3) := by decide +kernel
theorem dL_law_589 : decode cL_law 589 = .ok (.aload_n 2, 1) := by decide +kernel
theorem dL_law_590 : decode cL_law 590 = .ok (.aload_n 0, 1) := by decide +kernel
theorem dL_law_591 : decode cL_law 591 = .ok (.iload_n 3, 1) := by decide +kernel
theorem dL_law_592 : decode cL_law 592 = .ok (.iconst 1, 1) := by decide +kernel
theorem dL_law_593 : decode cL_law 593 = .ok (.iadd, 1) := by decide +kernel
theorem dL_law_594 : decode cL_law 594 = .ok (.iaload, 1) := by decide +kernel
theorem dL_law_595 : decode cL_law 595 = .ok (.aload_n 0, 1) := by decide +kernel
theorem dL_law_596 : decode cL_law 596 = .ok (.iload_n 3, 1) := by decide +kernel
theorem dL_law_597 : decode cL_law 597 = .ok (.iconst 2, 1) := by decide +kernel
theorem dL_law_598 : decode cL_law 598 = .ok (.iadd, 1) := by decide +kernel
theorem dL_law_599 : decode cL_law 599 = .ok (.iaload, 1) := by decide +kernel
theorem dL_law_600 : decode cL_law 600 = .ok (.invokevirtual 91, 3) := by decide +kernel
theorem dL_law_603 : decode cL_law 603 = .ok (.if_icmp .eq 38, 3) := by decide +kernel
theorem dL_law_606 : decode cL_law 606 = .ok (.iconst 0, 1) := by decide +kernel
theorem dL_law_607 : decode cL_law 607 = .ok (.ireturn, 1) := by decide +kernel
theorem dL_law_608 : decode cL_law 608 = .ok (.aload_n 1, 1) := by decide +kernel
theorem dL_law_609 : decode cL_law 609 = .ok (.aload_n 0, 1) := by decide +kernel
theorem dL_law_610 : decode cL_law 610 = .ok (.iload_n 3, 1) := by decide +kernel
theorem dL_law_611 : decode cL_law 611 = .ok (.iconst 1, 1) := by decide +kernel
theorem dL_law_612 : decode cL_law 612 = .ok (.iadd, 1) := by decide +kernel
theorem dL_law_613 : decode cL_law 613 = .ok (.iaload, 1) := by decide +kernel
theorem dL_law_614 : decode cL_law 614 = .ok (.aload_n 0, 1) := by decide +kernel
theorem dL_law_615 : decode cL_law 615 = .ok (.iload_n 3, 1) := by decide +kernel
theorem dL_law_616 : decode cL_law 616 = .ok (.iconst 2, 1) := by decide +kernel
theorem dL_law_617 : decode cL_law 617 = .ok (.iadd, 1) := by decide +kernel
theorem dL_law_618 : decode cL_law 618 = .ok (.iaload, 1) := by decide +kernel
theorem dL_law_619 : decode cL_law 619 = .ok (.invokevirtual 92, 3) := by decide +kernel
theorem dL_law_622 : decode cL_law 622 = .ok (.aload_n 2, 1) := by decide +kernel
theorem dL_law_623 : decode cL_law 623 = .ok (.aload_n 0, 1) := by decide +kernel
theorem dL_law_624 : decode cL_law 624 = .ok (.iload_n 3, 1) := by decide +kernel
theorem dL_law_625 : decode cL_law 625 = .ok (.iconst 1, 1) := by decide +kernel
theorem dL_law_626 : decode cL_law 626 = .ok (.iadd, 1) := by decide +kernel
theorem dL_law_627 : decode cL_law 627 = .ok (.iaload, 1) := by decide +kernel
theorem dL_law_628 : decode cL_law 628 = .ok (.aload_n 0, 1) := by decide +kernel
theorem dL_law_629 : decode cL_law 629 = .ok (.iload_n 3, 1) := by decide +kernel
theorem dL_law_630 : decode cL_law 630 = .ok (.iconst 2, 1) := by decide +kernel
theorem dL_law_631 : decode cL_law 631 = .ok (.iadd, 1) := by decide +kernel
theorem dL_law_632 : decode cL_law 632 = .ok (.iaload, 1) := by decide +kernel
theorem dL_law_633 : decode cL_law 633 = .ok (.invokevirtual 95, 3) := by decide +kernel
theorem dL_law_636 : decode cL_law 636 = .ok (.if_icmp .eq 5, 3) := by decide +kernel
theorem dL_law_639 : decode cL_law 639 = .ok (.iconst 0, 1) := by decide +kernel
theorem dL_law_640 : decode cL_law 640 = .ok (.ireturn, 1) := by decide +kernel
theorem dL_law_641 : decode cL_law 641 = .ok (.iinc 3 4, 3) := by decide +kernel
theorem dL_law_644 : decode cL_law 644 = .ok (.goto (-626), 3) := by decide +kernel
theorem dL_law_647 : decode cL_law 647 = .ok (.iconst 1, 1) := by decide +kernel
theorem dL_law_648 : decode cL_law 648 = .ok (.ireturn, 1) := by decide +kernel
set_option maxRecDepth 20000 in
def V_L_law_641 (w : Wd) (L : Nat) (xs : Nat → Int32) (sh : List Sh) (x1 : Nat) (x2 : Nat) (x3 : Int32) (h : Hp) (L18 : Nat → Nat → Int32 → Hp → Prop) : Prop :=
  ∀ y1 : Int32, y1 = x3 + (4 : Int32) → (L18 x1 x2 y1 h)
set_option maxRecDepth 20000 in
set_option maxHeartbeats 8000000 in
theorem W_L_law_641 {w : Wd} {E : GE} {b L : Nat} {xs : Nat → Int32} {sh : List Sh} {x1 : Nat} {x2 : Nat} {x3 : Int32} {h : Hp} {L18 : Nat → Nat → Int32 → Hp → Prop} (X : Cx w E cL_law 4 RL) (S9 : Scr w E b L xs) (RQ : LwQ w E b) (hR : gR E = room_1) (hL18 : ∀ (x1 : Nat) (x2 : Nat) (x3 : Int32) (h : Hp), L18 x1 x2 x3 h → G w E 4 18 [(0, Value.ref b), (1, rv w.2.2.2 x1), (2, rv w.2.2.2 x2), (3, Value.int x3)] [] sh h 125 287739) (hV : V_L_law_641 w L xs sh x1 x2 x3 h L18) : G w E 4 641 [(0, Value.ref b), (1, rv w.2.2.2 x1), (2, rv w.2.2.2 x2), (3, Value.int x3)] [] sh h 125 287739 := by
  unfold V_L_law_641 at hV
  refine g_iinc (pc := 641) X 3 (v := (4 : Int32)) (rest := [(0, Value.ref b), (1, rv w.2.2.2 x1), (2, rv w.2.2.2 x2)]) rfl (by decide) (by simp [flt1, flt2, rv_cat, cat_int, cat_long]) (by decide) dL_law_641 (fun y1 e2 => ?_)
  have hV := hV y1 e2
  refine g_goto (pc := 644) X 18 dL_law_644 (by decide) ?_
  refine g_lv [1, 2, 3, 0] rfl ?_
  exact hL18 x1 x2 y1 h hV
set_option maxRecDepth 20000 in
def V_L_law_18 (w : Wd) (L : Nat) (xs : Nat → Int32) (sh : List Sh) (x1 : Nat) (x2 : Nat) (x3 : Int32) (h : Hp) (L18 : Nat → Nat → Int32 → Hp → Prop) : Prop :=
  ((((Int32.ofNat L) - (4 : Int32)) < x3) → ((1 : Int32) = 1)) ∧ ((¬ ((Int32.ofNat L) - (4 : Int32)) < x3) → (vp_in x3 L ∧ (((((xs x3.toNatClampNeg) &&& (31 : Int32)).toInt < 0 ∨ 18 < ((xs x3.toNatClampNeg) &&& (31 : Int32)).toInt) → (V_L_law_641 w L xs sh x1 x2 x3 h L18)) ∧ (((xs x3.toNatClampNeg) &&& (31 : Int32)) = (0 : Int32) → (vp_in (x3 + (1 : Int32)) L ∧ (vp_in (x3 + (2 : Int32)) L ∧ (vp_in (x3 + (3 : Int32)) L ∧ (shAt sh x1 = some (.inr 11) ∧ (∃ P11 : Int32 → Hp → Prop, C_X11_feed w sh x1 ((((xs (x3 + (1 : Int32)).toNatClampNeg).toInt64) <<< ((32 : Int32).toInt64 &&& 63)) ||| (((xs (x3 + (2 : Int32)).toNatClampNeg).toInt64) &&& (4294967295 : Int64))) (xs (x3 + (3 : Int32)).toNatClampNeg) h P11 ∧ (∀ (v15 : Int32) (h14 : Hp), P11 v15 h14 → (vp_in (x3 + (1 : Int32)) L ∧ (vp_in (x3 + (2 : Int32)) L ∧ (vp_in (x3 + (3 : Int32)) L ∧ (shAt sh x2 = some (.inr 12) ∧ (∃ P20 : Int32 → Hp → Prop, C_X12_feed w sh x2 ((((xs (x3 + (1 : Int32)).toNatClampNeg).toInt64) <<< ((32 : Int32).toInt64 &&& 63)) ||| (((xs (x3 + (2 : Int32)).toNatClampNeg).toInt64) &&& (4294967295 : Int64))) (xs (x3 + (3 : Int32)).toNatClampNeg) h14 P20 ∧ (∀ (v24 : Int32) (h23 : Hp), P20 v24 h23 → (((v15 = v24) → (V_L_law_641 w L xs sh x1 x2 x3 h23 L18)) ∧ ((¬ v15 = v24) → ((0 : Int32) = 1)))))))))))))))) ∧ (((xs x3.toNatClampNeg) &&& (31 : Int32)) = (1 : Int32) → (vp_in (x3 + (1 : Int32)) L ∧ (vp_in (x3 + (2 : Int32)) L ∧ (vp_in (x3 + (3 : Int32)) L ∧ (shAt sh x1 = some (.inr 11) ∧ (∃ P30 : Int32 → Hp → Prop, C_X11_fill w sh x1 (xs (x3 + (1 : Int32)).toNatClampNeg) (xs (x3 + (2 : Int32)).toNatClampNeg) (xs (x3 + (3 : Int32)).toNatClampNeg) h P30 ∧ (∀ (v34 : Int32) (h33 : Hp), P30 v34 h33 → (vp_in (x3 + (1 : Int32)) L ∧ (vp_in (x3 + (2 : Int32)) L ∧ (vp_in (x3 + (3 : Int32)) L ∧ (shAt sh x2 = some (.inr 12) ∧ (∃ P39 : Int32 → Hp → Prop, C_X12_fill w sh x2 (xs (x3 + (1 : Int32)).toNatClampNeg) (xs (x3 + (2 : Int32)).toNatClampNeg) (xs (x3 + (3 : Int32)).toNatClampNeg) h33 P39 ∧ (∀ (v43 : Int32) (h42 : Hp), P39 v43 h42 → (((v34 = v43) → (V_L_law_641 w L xs sh x1 x2 x3 h42 L18)) ∧ ((¬ v34 = v43) → ((0 : Int32) = 1)))))))))))))))) ∧ (((xs x3.toNatClampNeg) &&& (31 : Int32)) = (2 : Int32) → (vp_in (x3 + (1 : Int32)) L ∧ (vp_in (x3 + (2 : Int32)) L ∧ (shAt sh x1 = some (.inr 11) ∧ (∃ P48 : Int32 → Hp → Prop, C_X11_again w sh x1 (xs (x3 + (1 : Int32)).toNatClampNeg) (xs (x3 + (2 : Int32)).toNatClampNeg) h P48 ∧ (∀ (v52 : Int32) (h51 : Hp), P48 v52 h51 → (vp_in (x3 + (1 : Int32)) L ∧ (vp_in (x3 + (2 : Int32)) L ∧ (shAt sh x2 = some (.inr 12) ∧ (∃ P56 : Int32 → Hp → Prop, C_X12_again w sh x2 (xs (x3 + (1 : Int32)).toNatClampNeg) (xs (x3 + (2 : Int32)).toNatClampNeg) h51 P56 ∧ (∀ (v60 : Int32) (h59 : Hp), P56 v60 h59 → (((v52 = v60) → (V_L_law_641 w L xs sh x1 x2 x3 h59 L18)) ∧ ((¬ v52 = v60) → ((0 : Int32) = 1)))))))))))))) ∧ (((xs x3.toNatClampNeg) &&& (31 : Int32)) = (3 : Int32) → (shAt sh x1 = some (.inr 11) ∧ (∃ P63 : Int32 → Hp → Prop, C_X11_size w sh x1 h P63 ∧ (∀ (v67 : Int32) (h66 : Hp), P63 v67 h66 → (shAt sh x2 = some (.inr 12) ∧ (∃ P69 : Int32 → Hp → Prop, C_X12_size w sh x2 h66 P69 ∧ (∀ (v73 : Int32) (h72 : Hp), P69 v73 h72 → (((v67 = v73) → (V_L_law_641 w L xs sh x1 x2 x3 h72 L18)) ∧ ((¬ v67 = v73) → ((0 : Int32) = 1)))))))))) ∧ (((xs x3.toNatClampNeg) &&& (31 : Int32)) = (4 : Int32) → (vp_in (x3 + (1 : Int32)) L ∧ (vp_in (x3 + (2 : Int32)) L ∧ (shAt sh x1 = some (.inr 11) ∧ (∃ P78 : Int32 → Hp → Prop, C_X11_set w sh x1 (xs (x3 + (1 : Int32)).toNatClampNeg) (xs (x3 + (2 : Int32)).toNatClampNeg) h P78 ∧ (∀ (v82 : Int32) (h81 : Hp), P78 v82 h81 → (vp_in (x3 + (1 : Int32)) L ∧ (vp_in (x3 + (2 : Int32)) L ∧ (shAt sh x2 = some (.inr 12) ∧ (∃ P86 : Int32 → Hp → Prop, C_X12_set w sh x2 (xs (x3 + (1 : Int32)).toNatClampNeg) (xs (x3 + (2 : Int32)).toNatClampNeg) h81 P86 ∧ (∀ (v90 : Int32) (h89 : Hp), P86 v90 h89 → (((v82 = v90) → (V_L_law_641 w L xs sh x1 x2 x3 h89 L18)) ∧ ((¬ v82 = v90) → ((0 : Int32) = 1)))))))))))))) ∧ (((xs x3.toNatClampNeg) &&& (31 : Int32)) = (5 : Int32) → (vp_in (x3 + (1 : Int32)) L ∧ (shAt sh x1 = some (.inr 11) ∧ (∃ P94 : Int32 → Hp → Prop, C_X11_cut w sh x1 (xs (x3 + (1 : Int32)).toNatClampNeg) h P94 ∧ (∀ (v98 : Int32) (h97 : Hp), P94 v98 h97 → (vp_in (x3 + (1 : Int32)) L ∧ (shAt sh x2 = some (.inr 12) ∧ (∃ P101 : Int32 → Hp → Prop, C_X12_cut w sh x2 (xs (x3 + (1 : Int32)).toNatClampNeg) h97 P101 ∧ (∀ (v105 : Int32) (h104 : Hp), P101 v105 h104 → (((v98 = v105) → (V_L_law_641 w L xs sh x1 x2 x3 h104 L18)) ∧ ((¬ v98 = v105) → ((0 : Int32) = 1)))))))))))) ∧ (((xs x3.toNatClampNeg) &&& (31 : Int32)) = (6 : Int32) → (shAt sh x1 = some (.inr 11) ∧ (∃ P108 : Int32 → Hp → Prop, C_X11_swap w sh x1 h P108 ∧ (∀ (v112 : Int32) (h111 : Hp), P108 v112 h111 → (shAt sh x2 = some (.inr 12) ∧ (∃ P114 : Int32 → Hp → Prop, C_X12_swap w sh x2 h111 P114 ∧ (∀ (v118 : Int32) (h117 : Hp), P114 v118 h117 → (((v112 = v118) → (V_L_law_641 w L xs sh x1 x2 x3 h117 L18)) ∧ ((¬ v112 = v118) → ((0 : Int32) = 1)))))))))) ∧ (((xs x3.toNatClampNeg) &&& (31 : Int32)) = (7 : Int32) → (shAt sh x1 = some (.inr 11) ∧ (∃ P121 : Int32 → Hp → Prop, C_X11_differ w sh x1 h P121 ∧ (∀ (v125 : Int32) (h124 : Hp), P121 v125 h124 → (shAt sh x2 = some (.inr 12) ∧ (∃ P127 : Int32 → Hp → Prop, C_X12_differ w sh x2 h124 P127 ∧ (∀ (v131 : Int32) (h130 : Hp), P127 v131 h130 → (((v125 = v131) → (V_L_law_641 w L xs sh x1 x2 x3 h130 L18)) ∧ ((¬ v125 = v131) → ((0 : Int32) = 1)))))))))) ∧ (((xs x3.toNatClampNeg) &&& (31 : Int32)) = (8 : Int32) → (vp_in (x3 + (1 : Int32)) L ∧ (shAt sh x1 = some (.inr 11) ∧ (∃ P135 : Int32 → Hp → Prop, C_X11_out w sh x1 (xs (x3 + (1 : Int32)).toNatClampNeg) h P135 ∧ (∀ (v139 : Int32) (h138 : Hp), P135 v139 h138 → (vp_in (x3 + (1 : Int32)) L ∧ (shAt sh x2 = some (.inr 12) ∧ (∃ P142 : Int32 → Hp → Prop, C_X12_out w sh x2 (xs (x3 + (1 : Int32)).toNatClampNeg) h138 P142 ∧ (∀ (v146 : Int32) (h145 : Hp), P142 v146 h145 → (((v139 = v146) → (V_L_law_641 w L xs sh x1 x2 x3 h145 L18)) ∧ ((¬ v139 = v146) → ((0 : Int32) = 1)))))))))))) ∧ (((xs x3.toNatClampNeg) &&& (31 : Int32)) = (9 : Int32) → (shAt sh x1 = some (.inr 11) ∧ (∃ P149 : Int32 → Hp → Prop, C_X11_old w sh x1 h P149 ∧ (∀ (v153 : Int32) (h152 : Hp), P149 v153 h152 → (shAt sh x2 = some (.inr 12) ∧ (∃ P155 : Int32 → Hp → Prop, C_X12_old w sh x2 h152 P155 ∧ (∀ (v159 : Int32) (h158 : Hp), P155 v159 h158 → (((v153 = v159) → (V_L_law_641 w L xs sh x1 x2 x3 h158 L18)) ∧ ((¬ v153 = v159) → ((0 : Int32) = 1)))))))))) ∧ (((xs x3.toNatClampNeg) &&& (31 : Int32)) = (10 : Int32) → (vp_in (x3 + (1 : Int32)) L ∧ (vp_in (x3 + (2 : Int32)) L ∧ (shAt sh x1 = some (.inr 11) ∧ (∃ P164 : Int32 → Hp → Prop, C_X11_given w sh x1 (xs (x3 + (1 : Int32)).toNatClampNeg) (xs (x3 + (2 : Int32)).toNatClampNeg) h P164 ∧ (∀ (v168 : Int32) (h167 : Hp), P164 v168 h167 → (vp_in (x3 + (1 : Int32)) L ∧ (vp_in (x3 + (2 : Int32)) L ∧ (shAt sh x2 = some (.inr 12) ∧ (∃ P172 : Int32 → Hp → Prop, C_X12_given w sh x2 (xs (x3 + (1 : Int32)).toNatClampNeg) (xs (x3 + (2 : Int32)).toNatClampNeg) h167 P172 ∧ (∀ (v176 : Int32) (h175 : Hp), P172 v176 h175 → (((v168 = v176) → (V_L_law_641 w L xs sh x1 x2 x3 h175 L18)) ∧ ((¬ v168 = v176) → ((0 : Int32) = 1)))))))))))))) ∧ (((xs x3.toNatClampNeg) &&& (31 : Int32)) = (11 : Int32) → (vp_in (x3 + (1 : Int32)) L ∧ (vp_in (x3 + (2 : Int32)) L ∧ (vp_in (x3 + (3 : Int32)) L ∧ (shAt sh x1 = some (.inr 11) ∧ (∃ P182 : Int32 → Hp → Prop, C_X11_entry w sh x1 (xs (x3 + (1 : Int32)).toNatClampNeg) (xs (x3 + (2 : Int32)).toNatClampNeg) (xs (x3 + (3 : Int32)).toNatClampNeg) h P182 ∧ (∀ (v186 : Int32) (h185 : Hp), P182 v186 h185 → (vp_in (x3 + (1 : Int32)) L ∧ (vp_in (x3 + (2 : Int32)) L ∧ (vp_in (x3 + (3 : Int32)) L ∧ (shAt sh x2 = some (.inr 12) ∧ (∃ P191 : Int32 → Hp → Prop, C_X12_entry w sh x2 (xs (x3 + (1 : Int32)).toNatClampNeg) (xs (x3 + (2 : Int32)).toNatClampNeg) (xs (x3 + (3 : Int32)).toNatClampNeg) h185 P191 ∧ (∀ (v195 : Int32) (h194 : Hp), P191 v195 h194 → (((v186 = v195) → (V_L_law_641 w L xs sh x1 x2 x3 h194 L18)) ∧ ((¬ v186 = v195) → ((0 : Int32) = 1)))))))))))))))) ∧ (((xs x3.toNatClampNeg) &&& (31 : Int32)) = (12 : Int32) → (vp_in (x3 + (1 : Int32)) L ∧ (shAt sh x1 = some (.inr 11) ∧ (∃ P199 : Int32 → Hp → Prop, C_X11_make w sh x1 (xs (x3 + (1 : Int32)).toNatClampNeg) h P199 ∧ (∀ (v203 : Int32) (h202 : Hp), P199 v203 h202 → (vp_in (x3 + (1 : Int32)) L ∧ (shAt sh x2 = some (.inr 12) ∧ (∃ P206 : Int32 → Hp → Prop, C_X12_make w sh x2 (xs (x3 + (1 : Int32)).toNatClampNeg) h202 P206 ∧ (∀ (v210 : Int32) (h209 : Hp), P206 v210 h209 → (((v203 = v210) → (V_L_law_641 w L xs sh x1 x2 x3 h209 L18)) ∧ ((¬ v203 = v210) → ((0 : Int32) = 1)))))))))))) ∧ (((xs x3.toNatClampNeg) &&& (31 : Int32)) = (13 : Int32) → (shAt sh x1 = some (.inr 11) ∧ (∃ P213 : Int32 → Hp → Prop, C_X11_open w sh x1 h P213 ∧ (∀ (v217 : Int32) (h216 : Hp), P213 v217 h216 → (shAt sh x2 = some (.inr 12) ∧ (∃ P219 : Int32 → Hp → Prop, C_X12_open w sh x2 h216 P219 ∧ (∀ (v223 : Int32) (h222 : Hp), P219 v223 h222 → (((v217 = v223) → (V_L_law_641 w L xs sh x1 x2 x3 h222 L18)) ∧ ((¬ v217 = v223) → ((0 : Int32) = 1)))))))))) ∧ (((xs x3.toNatClampNeg) &&& (31 : Int32)) = (14 : Int32) → (shAt sh x1 = some (.inr 11) ∧ (∃ P226 : Int32 → Hp → Prop, C_X11_place w sh x1 h P226 ∧ (∀ (v230 : Int32) (h229 : Hp), P226 v230 h229 → (shAt sh x2 = some (.inr 12) ∧ (∃ P232 : Int32 → Hp → Prop, C_X12_place w sh x2 h229 P232 ∧ (∀ (v236 : Int32) (h235 : Hp), P232 v236 h235 → (((v230 = v236) → (V_L_law_641 w L xs sh x1 x2 x3 h235 L18)) ∧ ((¬ v230 = v236) → ((0 : Int32) = 1)))))))))) ∧ (((xs x3.toNatClampNeg) &&& (31 : Int32)) = (15 : Int32) → (vp_in (x3 + (1 : Int32)) L ∧ (shAt sh x1 = some (.inr 11) ∧ (∃ P240 : Int32 → Hp → Prop, C_X11_told w sh x1 (xs (x3 + (1 : Int32)).toNatClampNeg) h P240 ∧ (∀ (v244 : Int32) (h243 : Hp), P240 v244 h243 → (vp_in (x3 + (1 : Int32)) L ∧ (shAt sh x2 = some (.inr 12) ∧ (∃ P247 : Int32 → Hp → Prop, C_X12_told w sh x2 (xs (x3 + (1 : Int32)).toNatClampNeg) h243 P247 ∧ (∀ (v251 : Int32) (h250 : Hp), P247 v251 h250 → (((v244 = v251) → (V_L_law_641 w L xs sh x1 x2 x3 h250 L18)) ∧ ((¬ v244 = v251) → ((0 : Int32) = 1)))))))))))) ∧ (((xs x3.toNatClampNeg) &&& (31 : Int32)) = (16 : Int32) → (vp_in (x3 + (1 : Int32)) L ∧ (vp_in (x3 + (2 : Int32)) L ∧ (shAt sh x1 = some (.inr 11) ∧ (∃ P256 : Int32 → Hp → Prop, C_X11_instruction w sh x1 (xs (x3 + (1 : Int32)).toNatClampNeg) (xs (x3 + (2 : Int32)).toNatClampNeg) h P256 ∧ (∀ (v260 : Int32) (h259 : Hp), P256 v260 h259 → (vp_in (x3 + (1 : Int32)) L ∧ (vp_in (x3 + (2 : Int32)) L ∧ (shAt sh x2 = some (.inr 12) ∧ (∃ P264 : Int32 → Hp → Prop, C_X12_instruction w sh x2 (xs (x3 + (1 : Int32)).toNatClampNeg) (xs (x3 + (2 : Int32)).toNatClampNeg) h259 P264 ∧ (∀ (v268 : Int32) (h267 : Hp), P264 v268 h267 → (((v260 = v268) → (V_L_law_641 w L xs sh x1 x2 x3 h267 L18)) ∧ ((¬ v260 = v268) → ((0 : Int32) = 1)))))))))))))) ∧ (((xs x3.toNatClampNeg) &&& (31 : Int32)) = (17 : Int32) → (vp_in (x3 + (1 : Int32)) L ∧ (vp_in (x3 + (2 : Int32)) L ∧ (shAt sh x1 = some (.inr 11) ∧ (∃ P273 : Int32 → Hp → Prop, C_X11_table w sh x1 (xs (x3 + (1 : Int32)).toNatClampNeg) (xs (x3 + (2 : Int32)).toNatClampNeg) h P273 ∧ (∀ (v277 : Int32) (h276 : Hp), P273 v277 h276 → (vp_in (x3 + (1 : Int32)) L ∧ (vp_in (x3 + (2 : Int32)) L ∧ (shAt sh x2 = some (.inr 12) ∧ (∃ P281 : Int32 → Hp → Prop, C_X12_table w sh x2 (xs (x3 + (1 : Int32)).toNatClampNeg) (xs (x3 + (2 : Int32)).toNatClampNeg) h276 P281 ∧ (∀ (v285 : Int32) (h284 : Hp), P281 v285 h284 → (((v277 = v285) → (V_L_law_641 w L xs sh x1 x2 x3 h284 L18)) ∧ ((¬ v277 = v285) → ((0 : Int32) = 1)))))))))))))) ∧ (((xs x3.toNatClampNeg) &&& (31 : Int32)) = (18 : Int32) → (vp_in (x3 + (1 : Int32)) L ∧ (vp_in (x3 + (2 : Int32)) L ∧ (shAt sh x1 = some (.inr 11) ∧ (∃ P290 : Int32 → Hp → Prop, C_X11_cache w sh x1 (xs (x3 + (1 : Int32)).toNatClampNeg) (xs (x3 + (2 : Int32)).toNatClampNeg) h P290 ∧ (∀ (v294 : Int32) (h293 : Hp), P290 v294 h293 → (vp_in (x3 + (1 : Int32)) L ∧ (vp_in (x3 + (2 : Int32)) L ∧ (shAt sh x2 = some (.inr 12) ∧ (∃ P298 : Int32 → Hp → Prop, C_X12_cache w sh x2 (xs (x3 + (1 : Int32)).toNatClampNeg) (xs (x3 + (2 : Int32)).toNatClampNeg) h293 P298 ∧ (∀ (v302 : Int32) (h301 : Hp), P298 v302 h301 → (((v294 = v302) → (V_L_law_641 w L xs sh x1 x2 x3 h301 L18)) ∧ ((¬ v294 = v302) → ((0 : Int32) = 1)))))))))))))))))
set_option maxRecDepth 20000 in
set_option maxHeartbeats 8000000 in
theorem W_L_law_18 {w : Wd} {E : GE} {b L : Nat} {xs : Nat → Int32} {sh : List Sh} {x1 : Nat} {x2 : Nat} {x3 : Int32} {h : Hp} {L18 : Nat → Nat → Int32 → Hp → Prop} (X : Cx w E cL_law 4 RL) (S9 : Scr w E b L xs) (RQ : LwQ w E b) (hR : gR E = room_1) (hL18 : ∀ (x1 : Nat) (x2 : Nat) (x3 : Int32) (h : Hp), L18 x1 x2 x3 h → G w E 4 18 [(0, Value.ref b), (1, rv w.2.2.2 x1), (2, rv w.2.2.2 x2), (3, Value.int x3)] [] sh h 125 287739) (hV : V_L_law_18 w L xs sh x1 x2 x3 h L18) : G w E 4 18 [(0, Value.ref b), (1, rv w.2.2.2 x1), (2, rv w.2.2.2 x2), (3, Value.int x3)] [] sh h 125 287739 := by
  unfold V_L_law_18 at hV
  refine g_iload_n (pc := 18) X 3 rfl rfl dL_law_18 ?_
  refine g_sload_n (pc := 19) X 0 rfl rfl dL_law_19 ?_
  refine g_slen (pc := 20) X S9 dL_law_20 ?_
  refine g_iconst (pc := 21) (v := (4 : Int32)) X dL_law_21 (by decide) ?_
  refine g_isub (pc := 22) X dL_law_22 ?_
  refine g_icmp_gt (pc := 23) X 647 dL_law_23 (by decide) (fun c1 => ?_) (fun c1 => ?_)
  · have hV := hV.1 c1
    refine g_iconst (pc := 647) (v := (1 : Int32)) X dL_law_647 (by decide) ?_
    exact g_lawret (pc := 648) X RQ hV dL_law_648
  · have hV := hV.2 c1
    refine g_sload_n (pc := 26) X 0 rfl rfl dL_law_26 ?_
    refine g_iload_n (pc := 27) X 3 rfl rfl dL_law_27 ?_
    obtain ⟨q2, hV⟩ := hV
    refine g_sld (pc := 28) X S9 q2 dL_law_28 ?_
    refine g_bipush (pc := 29) (v := (31 : Int32)) X dL_law_29 (by decide) ?_
    refine g_iand (pc := 31) X dL_law_31 ?_
    by_cases c3 : ((xs x3.toNatClampNeg) &&& (31 : Int32)).toInt < 0 ∨ 18 < ((xs x3.toNatClampNeg) &&& (31 : Int32)).toInt
    · have hV := hV.1 c3
      refine g_tabOut (pc := 32) X 641 dL_law_32 c3 (by decide) ?_
      exact W_L_law_641 X S9 RQ hR hL18 hV
    · have c4 : ((xs x3.toNatClampNeg) &&& (31 : Int32)).toInt = 0 ∨ ((xs x3.toNatClampNeg) &&& (31 : Int32)).toInt = 1 ∨ ((xs x3.toNatClampNeg) &&& (31 : Int32)).toInt = 2 ∨ ((xs x3.toNatClampNeg) &&& (31 : Int32)).toInt = 3 ∨ ((xs x3.toNatClampNeg) &&& (31 : Int32)).toInt = 4 ∨ ((xs x3.toNatClampNeg) &&& (31 : Int32)).toInt = 5 ∨ ((xs x3.toNatClampNeg) &&& (31 : Int32)).toInt = 6 ∨ ((xs x3.toNatClampNeg) &&& (31 : Int32)).toInt = 7 ∨ ((xs x3.toNatClampNeg) &&& (31 : Int32)).toInt = 8 ∨ ((xs x3.toNatClampNeg) &&& (31 : Int32)).toInt = 9 ∨ ((xs x3.toNatClampNeg) &&& (31 : Int32)).toInt = 10 ∨ ((xs x3.toNatClampNeg) &&& (31 : Int32)).toInt = 11 ∨ ((xs x3.toNatClampNeg) &&& (31 : Int32)).toInt = 12 ∨ ((xs x3.toNatClampNeg) &&& (31 : Int32)).toInt = 13 ∨ ((xs x3.toNatClampNeg) &&& (31 : Int32)).toInt = 14 ∨ ((xs x3.toNatClampNeg) &&& (31 : Int32)).toInt = 15 ∨ ((xs x3.toNatClampNeg) &&& (31 : Int32)).toInt = 16 ∨ ((xs x3.toNatClampNeg) &&& (31 : Int32)).toInt = 17 ∨ ((xs x3.toNatClampNeg) &&& (31 : Int32)).toInt = 18 := by omega
      rcases c4 with c5 | c5 | c5 | c5 | c5 | c5 | c5 | c5 | c5 | c5 | c5 | c5 | c5 | c5 | c5 | c5 | c5 | c5 | c5
      · have e6 : ((xs x3.toNatClampNeg) &&& (31 : Int32)) = (0 : Int32) := Int32.toInt_inj.mp (by rw [c5]; rfl)
        have hV := hV.2.1 e6
        refine g_tab (pc := 32) X 124 dL_law_32 (by omega) (by omega) (off := 92) (by rw [c5]; rfl) (by decide) ?_
        refine g_aload_n (pc := 124) X 1 rfl rfl dL_law_124 ?_
        refine g_sload_n (pc := 125) X 0 rfl rfl dL_law_125 ?_
        refine g_iload_n (pc := 126) X 3 rfl rfl dL_law_126 ?_
        refine g_iconst (pc := 127) (v := (1 : Int32)) X dL_law_127 (by decide) ?_
        refine g_iadd (pc := 128) X dL_law_128 ?_
        obtain ⟨q7, hV⟩ := hV
        refine g_sld (pc := 129) X S9 q7 dL_law_129 ?_
        refine g_i2l (pc := 130) X dL_law_130 ?_
        refine g_bipush (pc := 131) (v := (32 : Int32)) X dL_law_131 (by decide) ?_
        refine g_lshl (pc := 133) X dL_law_133 ?_
        refine g_sload_n (pc := 134) X 0 rfl rfl dL_law_134 ?_
        refine g_iload_n (pc := 135) X 3 rfl rfl dL_law_135 ?_
        refine g_iconst (pc := 136) (v := (2 : Int32)) X dL_law_136 (by decide) ?_
        refine g_iadd (pc := 137) X dL_law_137 ?_
        obtain ⟨q8, hV⟩ := hV
        refine g_sld (pc := 138) X S9 q8 dL_law_138 ?_
        refine g_i2l (pc := 139) X dL_law_139 ?_
        refine g_ldc2 (pc := 140) X kc_L_13 dL_law_140 ?_
        refine g_land (pc := 143) X dL_law_143 ?_
        refine g_lor (pc := 144) X dL_law_144 ?_
        refine g_sload_n (pc := 145) X 0 rfl rfl dL_law_145 ?_
        refine g_iload_n (pc := 146) X 3 rfl rfl dL_law_146 ?_
        refine g_iconst (pc := 147) (v := (3 : Int32)) X dL_law_147 (by decide) ?_
        refine g_iadd (pc := 148) X dL_law_148 ?_
        obtain ⟨q9, hV⟩ := hV
        refine g_sld (pc := 149) X S9 q9 dL_law_149 ?_
        obtain ⟨q10, hV⟩ := hV
        obtain ⟨P11, t12, hV⟩ := hV
        refine g_cVI (pc := 150) X (As := [Value.long ((((xs (x3 + (1 : Int32)).toNatClampNeg).toInt64) <<< ((32 : Int32).toInt64 &&& 63)) ||| (((xs (x3 + (2 : Int32)).toNatClampNeg).toInt64) &&& (4294967295 : Int64))), Value.int (xs (x3 + (3 : Int32)).toNatClampNeg)]) ml_L_15 rfl q10 t12 (by rw [hR]; exact ⟨by decide, by decide, by decide, by decide⟩) rfl rfl (Nat.zero_le _) dL_law_150 (fun v15 h14 p13 => ?_)
        have hV := hV v15 h14 p13
        refine g_aload_n (pc := 153) X 2 rfl rfl dL_law_153 ?_
        refine g_sload_n (pc := 154) X 0 rfl rfl dL_law_154 ?_
        refine g_iload_n (pc := 155) X 3 rfl rfl dL_law_155 ?_
        refine g_iconst (pc := 156) (v := (1 : Int32)) X dL_law_156 (by decide) ?_
        refine g_iadd (pc := 157) X dL_law_157 ?_
        obtain ⟨q16, hV⟩ := hV
        refine g_sld (pc := 158) X S9 q16 dL_law_158 ?_
        refine g_i2l (pc := 159) X dL_law_159 ?_
        refine g_bipush (pc := 160) (v := (32 : Int32)) X dL_law_160 (by decide) ?_
        refine g_lshl (pc := 162) X dL_law_162 ?_
        refine g_sload_n (pc := 163) X 0 rfl rfl dL_law_163 ?_
        refine g_iload_n (pc := 164) X 3 rfl rfl dL_law_164 ?_
        refine g_iconst (pc := 165) (v := (2 : Int32)) X dL_law_165 (by decide) ?_
        refine g_iadd (pc := 166) X dL_law_166 ?_
        obtain ⟨q17, hV⟩ := hV
        refine g_sld (pc := 167) X S9 q17 dL_law_167 ?_
        refine g_i2l (pc := 168) X dL_law_168 ?_
        refine g_ldc2 (pc := 169) X kc_L_13 dL_law_169 ?_
        refine g_land (pc := 172) X dL_law_172 ?_
        refine g_lor (pc := 173) X dL_law_173 ?_
        refine g_sload_n (pc := 174) X 0 rfl rfl dL_law_174 ?_
        refine g_iload_n (pc := 175) X 3 rfl rfl dL_law_175 ?_
        refine g_iconst (pc := 176) (v := (3 : Int32)) X dL_law_176 (by decide) ?_
        refine g_iadd (pc := 177) X dL_law_177 ?_
        obtain ⟨q18, hV⟩ := hV
        refine g_sld (pc := 178) X S9 q18 dL_law_178 ?_
        obtain ⟨q19, hV⟩ := hV
        obtain ⟨P20, t21, hV⟩ := hV
        refine g_cVI (pc := 179) X (As := [Value.long ((((xs (x3 + (1 : Int32)).toNatClampNeg).toInt64) <<< ((32 : Int32).toInt64 &&& 63)) ||| (((xs (x3 + (2 : Int32)).toNatClampNeg).toInt64) &&& (4294967295 : Int64))), Value.int (xs (x3 + (3 : Int32)).toNatClampNeg)]) ml_L_19 rfl q19 t21 (by rw [hR]; exact ⟨by decide, by decide, by decide, by decide⟩) rfl rfl (Nat.le_of_ble_eq_true rfl) dL_law_179 (fun v24 h23 p22 => ?_)
        have hV := hV v24 h23 p22
        refine g_icmp_eq (pc := 182) X 641 dL_law_182 (by decide) (fun c25 => ?_) (fun c25 => ?_)
        · have hV := hV.1 c25
          exact W_L_law_641 X S9 RQ hR hL18 hV
        · have hV := hV.2 c25
          refine g_iconst (pc := 185) (v := (0 : Int32)) X dL_law_185 (by decide) ?_
          exact g_lawret (pc := 186) X RQ hV dL_law_186
      · have e6 : ((xs x3.toNatClampNeg) &&& (31 : Int32)) = (1 : Int32) := Int32.toInt_inj.mp (by rw [c5]; rfl)
        have hV := hV.2.2.1 e6
        refine g_tab (pc := 32) X 187 dL_law_32 (by omega) (by omega) (off := 155) (by rw [c5]; rfl) (by decide) ?_
        refine g_aload_n (pc := 187) X 1 rfl rfl dL_law_187 ?_
        refine g_sload_n (pc := 188) X 0 rfl rfl dL_law_188 ?_
        refine g_iload_n (pc := 189) X 3 rfl rfl dL_law_189 ?_
        refine g_iconst (pc := 190) (v := (1 : Int32)) X dL_law_190 (by decide) ?_
        refine g_iadd (pc := 191) X dL_law_191 ?_
        obtain ⟨q26, hV⟩ := hV
        refine g_sld (pc := 192) X S9 q26 dL_law_192 ?_
        refine g_sload_n (pc := 193) X 0 rfl rfl dL_law_193 ?_
        refine g_iload_n (pc := 194) X 3 rfl rfl dL_law_194 ?_
        refine g_iconst (pc := 195) (v := (2 : Int32)) X dL_law_195 (by decide) ?_
        refine g_iadd (pc := 196) X dL_law_196 ?_
        obtain ⟨q27, hV⟩ := hV
        refine g_sld (pc := 197) X S9 q27 dL_law_197 ?_
        refine g_sload_n (pc := 198) X 0 rfl rfl dL_law_198 ?_
        refine g_iload_n (pc := 199) X 3 rfl rfl dL_law_199 ?_
        refine g_iconst (pc := 200) (v := (3 : Int32)) X dL_law_200 (by decide) ?_
        refine g_iadd (pc := 201) X dL_law_201 ?_
        obtain ⟨q28, hV⟩ := hV
        refine g_sld (pc := 202) X S9 q28 dL_law_202 ?_
        obtain ⟨q29, hV⟩ := hV
        obtain ⟨P30, t31, hV⟩ := hV
        refine g_cVI (pc := 203) X (As := [Value.int (xs (x3 + (1 : Int32)).toNatClampNeg), Value.int (xs (x3 + (2 : Int32)).toNatClampNeg), Value.int (xs (x3 + (3 : Int32)).toNatClampNeg)]) ml_L_20 rfl q29 t31 (by rw [hR]; exact ⟨by decide, by decide, by decide, by decide⟩) rfl rfl (Nat.zero_le _) dL_law_203 (fun v34 h33 p32 => ?_)
        have hV := hV v34 h33 p32
        refine g_aload_n (pc := 206) X 2 rfl rfl dL_law_206 ?_
        refine g_sload_n (pc := 207) X 0 rfl rfl dL_law_207 ?_
        refine g_iload_n (pc := 208) X 3 rfl rfl dL_law_208 ?_
        refine g_iconst (pc := 209) (v := (1 : Int32)) X dL_law_209 (by decide) ?_
        refine g_iadd (pc := 210) X dL_law_210 ?_
        obtain ⟨q35, hV⟩ := hV
        refine g_sld (pc := 211) X S9 q35 dL_law_211 ?_
        refine g_sload_n (pc := 212) X 0 rfl rfl dL_law_212 ?_
        refine g_iload_n (pc := 213) X 3 rfl rfl dL_law_213 ?_
        refine g_iconst (pc := 214) (v := (2 : Int32)) X dL_law_214 (by decide) ?_
        refine g_iadd (pc := 215) X dL_law_215 ?_
        obtain ⟨q36, hV⟩ := hV
        refine g_sld (pc := 216) X S9 q36 dL_law_216 ?_
        refine g_sload_n (pc := 217) X 0 rfl rfl dL_law_217 ?_
        refine g_iload_n (pc := 218) X 3 rfl rfl dL_law_218 ?_
        refine g_iconst (pc := 219) (v := (3 : Int32)) X dL_law_219 (by decide) ?_
        refine g_iadd (pc := 220) X dL_law_220 ?_
        obtain ⟨q37, hV⟩ := hV
        refine g_sld (pc := 221) X S9 q37 dL_law_221 ?_
        obtain ⟨q38, hV⟩ := hV
        obtain ⟨P39, t40, hV⟩ := hV
        refine g_cVI (pc := 222) X (As := [Value.int (xs (x3 + (1 : Int32)).toNatClampNeg), Value.int (xs (x3 + (2 : Int32)).toNatClampNeg), Value.int (xs (x3 + (3 : Int32)).toNatClampNeg)]) ml_L_24 rfl q38 t40 (by rw [hR]; exact ⟨by decide, by decide, by decide, by decide⟩) rfl rfl (Nat.le_of_ble_eq_true rfl) dL_law_222 (fun v43 h42 p41 => ?_)
        have hV := hV v43 h42 p41
        refine g_icmp_eq (pc := 225) X 641 dL_law_225 (by decide) (fun c44 => ?_) (fun c44 => ?_)
        · have hV := hV.1 c44
          exact W_L_law_641 X S9 RQ hR hL18 hV
        · have hV := hV.2 c44
          refine g_iconst (pc := 228) (v := (0 : Int32)) X dL_law_228 (by decide) ?_
          exact g_lawret (pc := 229) X RQ hV dL_law_229
      · have e6 : ((xs x3.toNatClampNeg) &&& (31 : Int32)) = (2 : Int32) := Int32.toInt_inj.mp (by rw [c5]; rfl)
        have hV := hV.2.2.2.1 e6
        refine g_tab (pc := 32) X 230 dL_law_32 (by omega) (by omega) (off := 198) (by rw [c5]; rfl) (by decide) ?_
        refine g_aload_n (pc := 230) X 1 rfl rfl dL_law_230 ?_
        refine g_sload_n (pc := 231) X 0 rfl rfl dL_law_231 ?_
        refine g_iload_n (pc := 232) X 3 rfl rfl dL_law_232 ?_
        refine g_iconst (pc := 233) (v := (1 : Int32)) X dL_law_233 (by decide) ?_
        refine g_iadd (pc := 234) X dL_law_234 ?_
        obtain ⟨q45, hV⟩ := hV
        refine g_sld (pc := 235) X S9 q45 dL_law_235 ?_
        refine g_sload_n (pc := 236) X 0 rfl rfl dL_law_236 ?_
        refine g_iload_n (pc := 237) X 3 rfl rfl dL_law_237 ?_
        refine g_iconst (pc := 238) (v := (2 : Int32)) X dL_law_238 (by decide) ?_
        refine g_iadd (pc := 239) X dL_law_239 ?_
        obtain ⟨q46, hV⟩ := hV
        refine g_sld (pc := 240) X S9 q46 dL_law_240 ?_
        obtain ⟨q47, hV⟩ := hV
        obtain ⟨P48, t49, hV⟩ := hV
        refine g_cVI (pc := 241) X (As := [Value.int (xs (x3 + (1 : Int32)).toNatClampNeg), Value.int (xs (x3 + (2 : Int32)).toNatClampNeg)]) ml_L_25 rfl q47 t49 (by rw [hR]; exact ⟨by decide, by decide, by decide, by decide⟩) rfl rfl (Nat.zero_le _) dL_law_241 (fun v52 h51 p50 => ?_)
        have hV := hV v52 h51 p50
        refine g_aload_n (pc := 244) X 2 rfl rfl dL_law_244 ?_
        refine g_sload_n (pc := 245) X 0 rfl rfl dL_law_245 ?_
        refine g_iload_n (pc := 246) X 3 rfl rfl dL_law_246 ?_
        refine g_iconst (pc := 247) (v := (1 : Int32)) X dL_law_247 (by decide) ?_
        refine g_iadd (pc := 248) X dL_law_248 ?_
        obtain ⟨q53, hV⟩ := hV
        refine g_sld (pc := 249) X S9 q53 dL_law_249 ?_
        refine g_sload_n (pc := 250) X 0 rfl rfl dL_law_250 ?_
        refine g_iload_n (pc := 251) X 3 rfl rfl dL_law_251 ?_
        refine g_iconst (pc := 252) (v := (2 : Int32)) X dL_law_252 (by decide) ?_
        refine g_iadd (pc := 253) X dL_law_253 ?_
        obtain ⟨q54, hV⟩ := hV
        refine g_sld (pc := 254) X S9 q54 dL_law_254 ?_
        obtain ⟨q55, hV⟩ := hV
        obtain ⟨P56, t57, hV⟩ := hV
        refine g_cVI (pc := 255) X (As := [Value.int (xs (x3 + (1 : Int32)).toNatClampNeg), Value.int (xs (x3 + (2 : Int32)).toNatClampNeg)]) ml_L_29 rfl q55 t57 (by rw [hR]; exact ⟨by decide, by decide, by decide, by decide⟩) rfl rfl (Nat.le_of_ble_eq_true rfl) dL_law_255 (fun v60 h59 p58 => ?_)
        have hV := hV v60 h59 p58
        refine g_icmp_eq (pc := 258) X 641 dL_law_258 (by decide) (fun c61 => ?_) (fun c61 => ?_)
        · have hV := hV.1 c61
          exact W_L_law_641 X S9 RQ hR hL18 hV
        · have hV := hV.2 c61
          refine g_iconst (pc := 261) (v := (0 : Int32)) X dL_law_261 (by decide) ?_
          exact g_lawret (pc := 262) X RQ hV dL_law_262
      · have e6 : ((xs x3.toNatClampNeg) &&& (31 : Int32)) = (3 : Int32) := Int32.toInt_inj.mp (by rw [c5]; rfl)
        have hV := hV.2.2.2.2.1 e6
        refine g_tab (pc := 32) X 263 dL_law_32 (by omega) (by omega) (off := 231) (by rw [c5]; rfl) (by decide) ?_
        refine g_aload_n (pc := 263) X 1 rfl rfl dL_law_263 ?_
        obtain ⟨q62, hV⟩ := hV
        obtain ⟨P63, t64, hV⟩ := hV
        refine g_cVI (pc := 264) X (As := []) ml_L_30 rfl q62 t64 (by rw [hR]; exact ⟨by decide, by decide, by decide, by decide⟩) rfl rfl (Nat.zero_le _) dL_law_264 (fun v67 h66 p65 => ?_)
        have hV := hV v67 h66 p65
        refine g_aload_n (pc := 267) X 2 rfl rfl dL_law_267 ?_
        obtain ⟨q68, hV⟩ := hV
        obtain ⟨P69, t70, hV⟩ := hV
        refine g_cVI (pc := 268) X (As := []) ml_L_34 rfl q68 t70 (by rw [hR]; exact ⟨by decide, by decide, by decide, by decide⟩) rfl rfl (Nat.le_of_ble_eq_true rfl) dL_law_268 (fun v73 h72 p71 => ?_)
        have hV := hV v73 h72 p71
        refine g_icmp_eq (pc := 271) X 641 dL_law_271 (by decide) (fun c74 => ?_) (fun c74 => ?_)
        · have hV := hV.1 c74
          exact W_L_law_641 X S9 RQ hR hL18 hV
        · have hV := hV.2 c74
          refine g_iconst (pc := 274) (v := (0 : Int32)) X dL_law_274 (by decide) ?_
          exact g_lawret (pc := 275) X RQ hV dL_law_275
      · have e6 : ((xs x3.toNatClampNeg) &&& (31 : Int32)) = (4 : Int32) := Int32.toInt_inj.mp (by rw [c5]; rfl)
        have hV := hV.2.2.2.2.2.1 e6
        refine g_tab (pc := 32) X 276 dL_law_32 (by omega) (by omega) (off := 244) (by rw [c5]; rfl) (by decide) ?_
        refine g_aload_n (pc := 276) X 1 rfl rfl dL_law_276 ?_
        refine g_sload_n (pc := 277) X 0 rfl rfl dL_law_277 ?_
        refine g_iload_n (pc := 278) X 3 rfl rfl dL_law_278 ?_
        refine g_iconst (pc := 279) (v := (1 : Int32)) X dL_law_279 (by decide) ?_
        refine g_iadd (pc := 280) X dL_law_280 ?_
        obtain ⟨q75, hV⟩ := hV
        refine g_sld (pc := 281) X S9 q75 dL_law_281 ?_
        refine g_sload_n (pc := 282) X 0 rfl rfl dL_law_282 ?_
        refine g_iload_n (pc := 283) X 3 rfl rfl dL_law_283 ?_
        refine g_iconst (pc := 284) (v := (2 : Int32)) X dL_law_284 (by decide) ?_
        refine g_iadd (pc := 285) X dL_law_285 ?_
        obtain ⟨q76, hV⟩ := hV
        refine g_sld (pc := 286) X S9 q76 dL_law_286 ?_
        obtain ⟨q77, hV⟩ := hV
        obtain ⟨P78, t79, hV⟩ := hV
        refine g_cVI (pc := 287) X (As := [Value.int (xs (x3 + (1 : Int32)).toNatClampNeg), Value.int (xs (x3 + (2 : Int32)).toNatClampNeg)]) ml_L_35 rfl q77 t79 (by rw [hR]; exact ⟨by decide, by decide, by decide, by decide⟩) rfl rfl (Nat.zero_le _) dL_law_287 (fun v82 h81 p80 => ?_)
        have hV := hV v82 h81 p80
        refine g_aload_n (pc := 290) X 2 rfl rfl dL_law_290 ?_
        refine g_sload_n (pc := 291) X 0 rfl rfl dL_law_291 ?_
        refine g_iload_n (pc := 292) X 3 rfl rfl dL_law_292 ?_
        refine g_iconst (pc := 293) (v := (1 : Int32)) X dL_law_293 (by decide) ?_
        refine g_iadd (pc := 294) X dL_law_294 ?_
        obtain ⟨q83, hV⟩ := hV
        refine g_sld (pc := 295) X S9 q83 dL_law_295 ?_
        refine g_sload_n (pc := 296) X 0 rfl rfl dL_law_296 ?_
        refine g_iload_n (pc := 297) X 3 rfl rfl dL_law_297 ?_
        refine g_iconst (pc := 298) (v := (2 : Int32)) X dL_law_298 (by decide) ?_
        refine g_iadd (pc := 299) X dL_law_299 ?_
        obtain ⟨q84, hV⟩ := hV
        refine g_sld (pc := 300) X S9 q84 dL_law_300 ?_
        obtain ⟨q85, hV⟩ := hV
        obtain ⟨P86, t87, hV⟩ := hV
        refine g_cVI (pc := 301) X (As := [Value.int (xs (x3 + (1 : Int32)).toNatClampNeg), Value.int (xs (x3 + (2 : Int32)).toNatClampNeg)]) ml_L_38 rfl q85 t87 (by rw [hR]; exact ⟨by decide, by decide, by decide, by decide⟩) rfl rfl (Nat.le_of_ble_eq_true rfl) dL_law_301 (fun v90 h89 p88 => ?_)
        have hV := hV v90 h89 p88
        refine g_icmp_eq (pc := 304) X 641 dL_law_304 (by decide) (fun c91 => ?_) (fun c91 => ?_)
        · have hV := hV.1 c91
          exact W_L_law_641 X S9 RQ hR hL18 hV
        · have hV := hV.2 c91
          refine g_iconst (pc := 307) (v := (0 : Int32)) X dL_law_307 (by decide) ?_
          exact g_lawret (pc := 308) X RQ hV dL_law_308
      · have e6 : ((xs x3.toNatClampNeg) &&& (31 : Int32)) = (5 : Int32) := Int32.toInt_inj.mp (by rw [c5]; rfl)
        have hV := hV.2.2.2.2.2.2.1 e6
        refine g_tab (pc := 32) X 309 dL_law_32 (by omega) (by omega) (off := 277) (by rw [c5]; rfl) (by decide) ?_
        refine g_aload_n (pc := 309) X 1 rfl rfl dL_law_309 ?_
        refine g_sload_n (pc := 310) X 0 rfl rfl dL_law_310 ?_
        refine g_iload_n (pc := 311) X 3 rfl rfl dL_law_311 ?_
        refine g_iconst (pc := 312) (v := (1 : Int32)) X dL_law_312 (by decide) ?_
        refine g_iadd (pc := 313) X dL_law_313 ?_
        obtain ⟨q92, hV⟩ := hV
        refine g_sld (pc := 314) X S9 q92 dL_law_314 ?_
        obtain ⟨q93, hV⟩ := hV
        obtain ⟨P94, t95, hV⟩ := hV
        refine g_cVI (pc := 315) X (As := [Value.int (xs (x3 + (1 : Int32)).toNatClampNeg)]) ml_L_39 rfl q93 t95 (by rw [hR]; exact ⟨by decide, by decide, by decide, by decide⟩) rfl rfl (Nat.zero_le _) dL_law_315 (fun v98 h97 p96 => ?_)
        have hV := hV v98 h97 p96
        refine g_aload_n (pc := 318) X 2 rfl rfl dL_law_318 ?_
        refine g_sload_n (pc := 319) X 0 rfl rfl dL_law_319 ?_
        refine g_iload_n (pc := 320) X 3 rfl rfl dL_law_320 ?_
        refine g_iconst (pc := 321) (v := (1 : Int32)) X dL_law_321 (by decide) ?_
        refine g_iadd (pc := 322) X dL_law_322 ?_
        obtain ⟨q99, hV⟩ := hV
        refine g_sld (pc := 323) X S9 q99 dL_law_323 ?_
        obtain ⟨q100, hV⟩ := hV
        obtain ⟨P101, t102, hV⟩ := hV
        refine g_cVI (pc := 324) X (As := [Value.int (xs (x3 + (1 : Int32)).toNatClampNeg)]) ml_L_43 rfl q100 t102 (by rw [hR]; exact ⟨by decide, by decide, by decide, by decide⟩) rfl rfl (Nat.le_of_ble_eq_true rfl) dL_law_324 (fun v105 h104 p103 => ?_)
        have hV := hV v105 h104 p103
        refine g_icmp_eq (pc := 327) X 641 dL_law_327 (by decide) (fun c106 => ?_) (fun c106 => ?_)
        · have hV := hV.1 c106
          exact W_L_law_641 X S9 RQ hR hL18 hV
        · have hV := hV.2 c106
          refine g_iconst (pc := 330) (v := (0 : Int32)) X dL_law_330 (by decide) ?_
          exact g_lawret (pc := 331) X RQ hV dL_law_331
      · have e6 : ((xs x3.toNatClampNeg) &&& (31 : Int32)) = (6 : Int32) := Int32.toInt_inj.mp (by rw [c5]; rfl)
        have hV := hV.2.2.2.2.2.2.2.1 e6
        refine g_tab (pc := 32) X 332 dL_law_32 (by omega) (by omega) (off := 300) (by rw [c5]; rfl) (by decide) ?_
        refine g_aload_n (pc := 332) X 1 rfl rfl dL_law_332 ?_
        obtain ⟨q107, hV⟩ := hV
        obtain ⟨P108, t109, hV⟩ := hV
        refine g_cVI (pc := 333) X (As := []) ml_L_44 rfl q107 t109 (by rw [hR]; exact ⟨by decide, by decide, by decide, by decide⟩) rfl rfl (Nat.zero_le _) dL_law_333 (fun v112 h111 p110 => ?_)
        have hV := hV v112 h111 p110
        refine g_aload_n (pc := 336) X 2 rfl rfl dL_law_336 ?_
        obtain ⟨q113, hV⟩ := hV
        obtain ⟨P114, t115, hV⟩ := hV
        refine g_cVI (pc := 337) X (As := []) ml_L_47 rfl q113 t115 (by rw [hR]; exact ⟨by decide, by decide, by decide, by decide⟩) rfl rfl (Nat.le_of_ble_eq_true rfl) dL_law_337 (fun v118 h117 p116 => ?_)
        have hV := hV v118 h117 p116
        refine g_icmp_eq (pc := 340) X 641 dL_law_340 (by decide) (fun c119 => ?_) (fun c119 => ?_)
        · have hV := hV.1 c119
          exact W_L_law_641 X S9 RQ hR hL18 hV
        · have hV := hV.2 c119
          refine g_iconst (pc := 343) (v := (0 : Int32)) X dL_law_343 (by decide) ?_
          exact g_lawret (pc := 344) X RQ hV dL_law_344
      · have e6 : ((xs x3.toNatClampNeg) &&& (31 : Int32)) = (7 : Int32) := Int32.toInt_inj.mp (by rw [c5]; rfl)
        have hV := hV.2.2.2.2.2.2.2.2.1 e6
        refine g_tab (pc := 32) X 345 dL_law_32 (by omega) (by omega) (off := 313) (by rw [c5]; rfl) (by decide) ?_
        refine g_aload_n (pc := 345) X 1 rfl rfl dL_law_345 ?_
        obtain ⟨q120, hV⟩ := hV
        obtain ⟨P121, t122, hV⟩ := hV
        refine g_cVI (pc := 346) X (As := []) ml_L_48 rfl q120 t122 (by rw [hR]; exact ⟨by decide, by decide, by decide, by decide⟩) rfl rfl (Nat.zero_le _) dL_law_346 (fun v125 h124 p123 => ?_)
        have hV := hV v125 h124 p123
        refine g_aload_n (pc := 349) X 2 rfl rfl dL_law_349 ?_
        obtain ⟨q126, hV⟩ := hV
        obtain ⟨P127, t128, hV⟩ := hV
        refine g_cVI (pc := 350) X (As := []) ml_L_51 rfl q126 t128 (by rw [hR]; exact ⟨by decide, by decide, by decide, by decide⟩) rfl rfl (Nat.le_of_ble_eq_true rfl) dL_law_350 (fun v131 h130 p129 => ?_)
        have hV := hV v131 h130 p129
        refine g_icmp_eq (pc := 353) X 641 dL_law_353 (by decide) (fun c132 => ?_) (fun c132 => ?_)
        · have hV := hV.1 c132
          exact W_L_law_641 X S9 RQ hR hL18 hV
        · have hV := hV.2 c132
          refine g_iconst (pc := 356) (v := (0 : Int32)) X dL_law_356 (by decide) ?_
          exact g_lawret (pc := 357) X RQ hV dL_law_357
      · have e6 : ((xs x3.toNatClampNeg) &&& (31 : Int32)) = (8 : Int32) := Int32.toInt_inj.mp (by rw [c5]; rfl)
        have hV := hV.2.2.2.2.2.2.2.2.2.1 e6
        refine g_tab (pc := 32) X 358 dL_law_32 (by omega) (by omega) (off := 326) (by rw [c5]; rfl) (by decide) ?_
        refine g_aload_n (pc := 358) X 1 rfl rfl dL_law_358 ?_
        refine g_sload_n (pc := 359) X 0 rfl rfl dL_law_359 ?_
        refine g_iload_n (pc := 360) X 3 rfl rfl dL_law_360 ?_
        refine g_iconst (pc := 361) (v := (1 : Int32)) X dL_law_361 (by decide) ?_
        refine g_iadd (pc := 362) X dL_law_362 ?_
        obtain ⟨q133, hV⟩ := hV
        refine g_sld (pc := 363) X S9 q133 dL_law_363 ?_
        obtain ⟨q134, hV⟩ := hV
        obtain ⟨P135, t136, hV⟩ := hV
        refine g_cVI (pc := 364) X (As := [Value.int (xs (x3 + (1 : Int32)).toNatClampNeg)]) ml_L_52 rfl q134 t136 (by rw [hR]; exact ⟨by decide, by decide, by decide, by decide⟩) rfl rfl (Nat.zero_le _) dL_law_364 (fun v139 h138 p137 => ?_)
        have hV := hV v139 h138 p137
        refine g_aload_n (pc := 367) X 2 rfl rfl dL_law_367 ?_
        refine g_sload_n (pc := 368) X 0 rfl rfl dL_law_368 ?_
        refine g_iload_n (pc := 369) X 3 rfl rfl dL_law_369 ?_
        refine g_iconst (pc := 370) (v := (1 : Int32)) X dL_law_370 (by decide) ?_
        refine g_iadd (pc := 371) X dL_law_371 ?_
        obtain ⟨q140, hV⟩ := hV
        refine g_sld (pc := 372) X S9 q140 dL_law_372 ?_
        obtain ⟨q141, hV⟩ := hV
        obtain ⟨P142, t143, hV⟩ := hV
        refine g_cVI (pc := 373) X (As := [Value.int (xs (x3 + (1 : Int32)).toNatClampNeg)]) ml_L_55 rfl q141 t143 (by rw [hR]; exact ⟨by decide, by decide, by decide, by decide⟩) rfl rfl (Nat.le_of_ble_eq_true rfl) dL_law_373 (fun v146 h145 p144 => ?_)
        have hV := hV v146 h145 p144
        refine g_icmp_eq (pc := 376) X 641 dL_law_376 (by decide) (fun c147 => ?_) (fun c147 => ?_)
        · have hV := hV.1 c147
          exact W_L_law_641 X S9 RQ hR hL18 hV
        · have hV := hV.2 c147
          refine g_iconst (pc := 379) (v := (0 : Int32)) X dL_law_379 (by decide) ?_
          exact g_lawret (pc := 380) X RQ hV dL_law_380
      · have e6 : ((xs x3.toNatClampNeg) &&& (31 : Int32)) = (9 : Int32) := Int32.toInt_inj.mp (by rw [c5]; rfl)
        have hV := hV.2.2.2.2.2.2.2.2.2.2.1 e6
        refine g_tab (pc := 32) X 381 dL_law_32 (by omega) (by omega) (off := 349) (by rw [c5]; rfl) (by decide) ?_
        refine g_aload_n (pc := 381) X 1 rfl rfl dL_law_381 ?_
        obtain ⟨q148, hV⟩ := hV
        obtain ⟨P149, t150, hV⟩ := hV
        refine g_cVI (pc := 382) X (As := []) ml_L_56 rfl q148 t150 (by rw [hR]; exact ⟨by decide, by decide, by decide, by decide⟩) rfl rfl (Nat.zero_le _) dL_law_382 (fun v153 h152 p151 => ?_)
        have hV := hV v153 h152 p151
        refine g_aload_n (pc := 385) X 2 rfl rfl dL_law_385 ?_
        obtain ⟨q154, hV⟩ := hV
        obtain ⟨P155, t156, hV⟩ := hV
        refine g_cVI (pc := 386) X (As := []) ml_L_59 rfl q154 t156 (by rw [hR]; exact ⟨by decide, by decide, by decide, by decide⟩) rfl rfl (Nat.le_of_ble_eq_true rfl) dL_law_386 (fun v159 h158 p157 => ?_)
        have hV := hV v159 h158 p157
        refine g_icmp_eq (pc := 389) X 641 dL_law_389 (by decide) (fun c160 => ?_) (fun c160 => ?_)
        · have hV := hV.1 c160
          exact W_L_law_641 X S9 RQ hR hL18 hV
        · have hV := hV.2 c160
          refine g_iconst (pc := 392) (v := (0 : Int32)) X dL_law_392 (by decide) ?_
          exact g_lawret (pc := 393) X RQ hV dL_law_393
      · have e6 : ((xs x3.toNatClampNeg) &&& (31 : Int32)) = (10 : Int32) := Int32.toInt_inj.mp (by rw [c5]; rfl)
        have hV := hV.2.2.2.2.2.2.2.2.2.2.2.1 e6
        refine g_tab (pc := 32) X 394 dL_law_32 (by omega) (by omega) (off := 362) (by rw [c5]; rfl) (by decide) ?_
        refine g_aload_n (pc := 394) X 1 rfl rfl dL_law_394 ?_
        refine g_sload_n (pc := 395) X 0 rfl rfl dL_law_395 ?_
        refine g_iload_n (pc := 396) X 3 rfl rfl dL_law_396 ?_
        refine g_iconst (pc := 397) (v := (1 : Int32)) X dL_law_397 (by decide) ?_
        refine g_iadd (pc := 398) X dL_law_398 ?_
        obtain ⟨q161, hV⟩ := hV
        refine g_sld (pc := 399) X S9 q161 dL_law_399 ?_
        refine g_sload_n (pc := 400) X 0 rfl rfl dL_law_400 ?_
        refine g_iload_n (pc := 401) X 3 rfl rfl dL_law_401 ?_
        refine g_iconst (pc := 402) (v := (2 : Int32)) X dL_law_402 (by decide) ?_
        refine g_iadd (pc := 403) X dL_law_403 ?_
        obtain ⟨q162, hV⟩ := hV
        refine g_sld (pc := 404) X S9 q162 dL_law_404 ?_
        obtain ⟨q163, hV⟩ := hV
        obtain ⟨P164, t165, hV⟩ := hV
        refine g_cVI (pc := 405) X (As := [Value.int (xs (x3 + (1 : Int32)).toNatClampNeg), Value.int (xs (x3 + (2 : Int32)).toNatClampNeg)]) ml_L_60 rfl q163 t165 (by rw [hR]; exact ⟨by decide, by decide, by decide, by decide⟩) rfl rfl (Nat.zero_le _) dL_law_405 (fun v168 h167 p166 => ?_)
        have hV := hV v168 h167 p166
        refine g_aload_n (pc := 408) X 2 rfl rfl dL_law_408 ?_
        refine g_sload_n (pc := 409) X 0 rfl rfl dL_law_409 ?_
        refine g_iload_n (pc := 410) X 3 rfl rfl dL_law_410 ?_
        refine g_iconst (pc := 411) (v := (1 : Int32)) X dL_law_411 (by decide) ?_
        refine g_iadd (pc := 412) X dL_law_412 ?_
        obtain ⟨q169, hV⟩ := hV
        refine g_sld (pc := 413) X S9 q169 dL_law_413 ?_
        refine g_sload_n (pc := 414) X 0 rfl rfl dL_law_414 ?_
        refine g_iload_n (pc := 415) X 3 rfl rfl dL_law_415 ?_
        refine g_iconst (pc := 416) (v := (2 : Int32)) X dL_law_416 (by decide) ?_
        refine g_iadd (pc := 417) X dL_law_417 ?_
        obtain ⟨q170, hV⟩ := hV
        refine g_sld (pc := 418) X S9 q170 dL_law_418 ?_
        obtain ⟨q171, hV⟩ := hV
        obtain ⟨P172, t173, hV⟩ := hV
        refine g_cVI (pc := 419) X (As := [Value.int (xs (x3 + (1 : Int32)).toNatClampNeg), Value.int (xs (x3 + (2 : Int32)).toNatClampNeg)]) ml_L_63 rfl q171 t173 (by rw [hR]; exact ⟨by decide, by decide, by decide, by decide⟩) rfl rfl (Nat.le_of_ble_eq_true rfl) dL_law_419 (fun v176 h175 p174 => ?_)
        have hV := hV v176 h175 p174
        refine g_icmp_eq (pc := 422) X 641 dL_law_422 (by decide) (fun c177 => ?_) (fun c177 => ?_)
        · have hV := hV.1 c177
          exact W_L_law_641 X S9 RQ hR hL18 hV
        · have hV := hV.2 c177
          refine g_iconst (pc := 425) (v := (0 : Int32)) X dL_law_425 (by decide) ?_
          exact g_lawret (pc := 426) X RQ hV dL_law_426
      · have e6 : ((xs x3.toNatClampNeg) &&& (31 : Int32)) = (11 : Int32) := Int32.toInt_inj.mp (by rw [c5]; rfl)
        have hV := hV.2.2.2.2.2.2.2.2.2.2.2.2.1 e6
        refine g_tab (pc := 32) X 427 dL_law_32 (by omega) (by omega) (off := 395) (by rw [c5]; rfl) (by decide) ?_
        refine g_aload_n (pc := 427) X 1 rfl rfl dL_law_427 ?_
        refine g_sload_n (pc := 428) X 0 rfl rfl dL_law_428 ?_
        refine g_iload_n (pc := 429) X 3 rfl rfl dL_law_429 ?_
        refine g_iconst (pc := 430) (v := (1 : Int32)) X dL_law_430 (by decide) ?_
        refine g_iadd (pc := 431) X dL_law_431 ?_
        obtain ⟨q178, hV⟩ := hV
        refine g_sld (pc := 432) X S9 q178 dL_law_432 ?_
        refine g_sload_n (pc := 433) X 0 rfl rfl dL_law_433 ?_
        refine g_iload_n (pc := 434) X 3 rfl rfl dL_law_434 ?_
        refine g_iconst (pc := 435) (v := (2 : Int32)) X dL_law_435 (by decide) ?_
        refine g_iadd (pc := 436) X dL_law_436 ?_
        obtain ⟨q179, hV⟩ := hV
        refine g_sld (pc := 437) X S9 q179 dL_law_437 ?_
        refine g_sload_n (pc := 438) X 0 rfl rfl dL_law_438 ?_
        refine g_iload_n (pc := 439) X 3 rfl rfl dL_law_439 ?_
        refine g_iconst (pc := 440) (v := (3 : Int32)) X dL_law_440 (by decide) ?_
        refine g_iadd (pc := 441) X dL_law_441 ?_
        obtain ⟨q180, hV⟩ := hV
        refine g_sld (pc := 442) X S9 q180 dL_law_442 ?_
        obtain ⟨q181, hV⟩ := hV
        obtain ⟨P182, t183, hV⟩ := hV
        refine g_cVI (pc := 443) X (As := [Value.int (xs (x3 + (1 : Int32)).toNatClampNeg), Value.int (xs (x3 + (2 : Int32)).toNatClampNeg), Value.int (xs (x3 + (3 : Int32)).toNatClampNeg)]) ml_L_64 rfl q181 t183 (by rw [hR]; exact ⟨by decide, by decide, by decide, by decide⟩) rfl rfl (Nat.zero_le _) dL_law_443 (fun v186 h185 p184 => ?_)
        have hV := hV v186 h185 p184
        refine g_aload_n (pc := 446) X 2 rfl rfl dL_law_446 ?_
        refine g_sload_n (pc := 447) X 0 rfl rfl dL_law_447 ?_
        refine g_iload_n (pc := 448) X 3 rfl rfl dL_law_448 ?_
        refine g_iconst (pc := 449) (v := (1 : Int32)) X dL_law_449 (by decide) ?_
        refine g_iadd (pc := 450) X dL_law_450 ?_
        obtain ⟨q187, hV⟩ := hV
        refine g_sld (pc := 451) X S9 q187 dL_law_451 ?_
        refine g_sload_n (pc := 452) X 0 rfl rfl dL_law_452 ?_
        refine g_iload_n (pc := 453) X 3 rfl rfl dL_law_453 ?_
        refine g_iconst (pc := 454) (v := (2 : Int32)) X dL_law_454 (by decide) ?_
        refine g_iadd (pc := 455) X dL_law_455 ?_
        obtain ⟨q188, hV⟩ := hV
        refine g_sld (pc := 456) X S9 q188 dL_law_456 ?_
        refine g_sload_n (pc := 457) X 0 rfl rfl dL_law_457 ?_
        refine g_iload_n (pc := 458) X 3 rfl rfl dL_law_458 ?_
        refine g_iconst (pc := 459) (v := (3 : Int32)) X dL_law_459 (by decide) ?_
        refine g_iadd (pc := 460) X dL_law_460 ?_
        obtain ⟨q189, hV⟩ := hV
        refine g_sld (pc := 461) X S9 q189 dL_law_461 ?_
        obtain ⟨q190, hV⟩ := hV
        obtain ⟨P191, t192, hV⟩ := hV
        refine g_cVI (pc := 462) X (As := [Value.int (xs (x3 + (1 : Int32)).toNatClampNeg), Value.int (xs (x3 + (2 : Int32)).toNatClampNeg), Value.int (xs (x3 + (3 : Int32)).toNatClampNeg)]) ml_L_67 rfl q190 t192 (by rw [hR]; exact ⟨by decide, by decide, by decide, by decide⟩) rfl rfl (Nat.le_of_ble_eq_true rfl) dL_law_462 (fun v195 h194 p193 => ?_)
        have hV := hV v195 h194 p193
        refine g_icmp_eq (pc := 465) X 641 dL_law_465 (by decide) (fun c196 => ?_) (fun c196 => ?_)
        · have hV := hV.1 c196
          exact W_L_law_641 X S9 RQ hR hL18 hV
        · have hV := hV.2 c196
          refine g_iconst (pc := 468) (v := (0 : Int32)) X dL_law_468 (by decide) ?_
          exact g_lawret (pc := 469) X RQ hV dL_law_469
      · have e6 : ((xs x3.toNatClampNeg) &&& (31 : Int32)) = (12 : Int32) := Int32.toInt_inj.mp (by rw [c5]; rfl)
        have hV := hV.2.2.2.2.2.2.2.2.2.2.2.2.2.1 e6
        refine g_tab (pc := 32) X 470 dL_law_32 (by omega) (by omega) (off := 438) (by rw [c5]; rfl) (by decide) ?_
        refine g_aload_n (pc := 470) X 1 rfl rfl dL_law_470 ?_
        refine g_sload_n (pc := 471) X 0 rfl rfl dL_law_471 ?_
        refine g_iload_n (pc := 472) X 3 rfl rfl dL_law_472 ?_
        refine g_iconst (pc := 473) (v := (1 : Int32)) X dL_law_473 (by decide) ?_
        refine g_iadd (pc := 474) X dL_law_474 ?_
        obtain ⟨q197, hV⟩ := hV
        refine g_sld (pc := 475) X S9 q197 dL_law_475 ?_
        obtain ⟨q198, hV⟩ := hV
        obtain ⟨P199, t200, hV⟩ := hV
        refine g_cVI (pc := 476) X (As := [Value.int (xs (x3 + (1 : Int32)).toNatClampNeg)]) ml_L_68 rfl q198 t200 (by rw [hR]; exact ⟨by decide, by decide, by decide, by decide⟩) rfl rfl (Nat.zero_le _) dL_law_476 (fun v203 h202 p201 => ?_)
        have hV := hV v203 h202 p201
        refine g_aload_n (pc := 479) X 2 rfl rfl dL_law_479 ?_
        refine g_sload_n (pc := 480) X 0 rfl rfl dL_law_480 ?_
        refine g_iload_n (pc := 481) X 3 rfl rfl dL_law_481 ?_
        refine g_iconst (pc := 482) (v := (1 : Int32)) X dL_law_482 (by decide) ?_
        refine g_iadd (pc := 483) X dL_law_483 ?_
        obtain ⟨q204, hV⟩ := hV
        refine g_sld (pc := 484) X S9 q204 dL_law_484 ?_
        obtain ⟨q205, hV⟩ := hV
        obtain ⟨P206, t207, hV⟩ := hV
        refine g_cVI (pc := 485) X (As := [Value.int (xs (x3 + (1 : Int32)).toNatClampNeg)]) ml_L_71 rfl q205 t207 (by rw [hR]; exact ⟨by decide, by decide, by decide, by decide⟩) rfl rfl (Nat.le_of_ble_eq_true rfl) dL_law_485 (fun v210 h209 p208 => ?_)
        have hV := hV v210 h209 p208
        refine g_icmp_eq (pc := 488) X 641 dL_law_488 (by decide) (fun c211 => ?_) (fun c211 => ?_)
        · have hV := hV.1 c211
          exact W_L_law_641 X S9 RQ hR hL18 hV
        · have hV := hV.2 c211
          refine g_iconst (pc := 491) (v := (0 : Int32)) X dL_law_491 (by decide) ?_
          exact g_lawret (pc := 492) X RQ hV dL_law_492
      · have e6 : ((xs x3.toNatClampNeg) &&& (31 : Int32)) = (13 : Int32) := Int32.toInt_inj.mp (by rw [c5]; rfl)
        have hV := hV.2.2.2.2.2.2.2.2.2.2.2.2.2.2.1 e6
        refine g_tab (pc := 32) X 493 dL_law_32 (by omega) (by omega) (off := 461) (by rw [c5]; rfl) (by decide) ?_
        refine g_aload_n (pc := 493) X 1 rfl rfl dL_law_493 ?_
        obtain ⟨q212, hV⟩ := hV
        obtain ⟨P213, t214, hV⟩ := hV
        refine g_cVI (pc := 494) X (As := []) ml_L_72 rfl q212 t214 (by rw [hR]; exact ⟨by decide, by decide, by decide, by decide⟩) rfl rfl (Nat.zero_le _) dL_law_494 (fun v217 h216 p215 => ?_)
        have hV := hV v217 h216 p215
        refine g_aload_n (pc := 497) X 2 rfl rfl dL_law_497 ?_
        obtain ⟨q218, hV⟩ := hV
        obtain ⟨P219, t220, hV⟩ := hV
        refine g_cVI (pc := 498) X (As := []) ml_L_75 rfl q218 t220 (by rw [hR]; exact ⟨by decide, by decide, by decide, by decide⟩) rfl rfl (Nat.le_of_ble_eq_true rfl) dL_law_498 (fun v223 h222 p221 => ?_)
        have hV := hV v223 h222 p221
        refine g_icmp_eq (pc := 501) X 641 dL_law_501 (by decide) (fun c224 => ?_) (fun c224 => ?_)
        · have hV := hV.1 c224
          exact W_L_law_641 X S9 RQ hR hL18 hV
        · have hV := hV.2 c224
          refine g_iconst (pc := 504) (v := (0 : Int32)) X dL_law_504 (by decide) ?_
          exact g_lawret (pc := 505) X RQ hV dL_law_505
      · have e6 : ((xs x3.toNatClampNeg) &&& (31 : Int32)) = (14 : Int32) := Int32.toInt_inj.mp (by rw [c5]; rfl)
        have hV := hV.2.2.2.2.2.2.2.2.2.2.2.2.2.2.2.1 e6
        refine g_tab (pc := 32) X 506 dL_law_32 (by omega) (by omega) (off := 474) (by rw [c5]; rfl) (by decide) ?_
        refine g_aload_n (pc := 506) X 1 rfl rfl dL_law_506 ?_
        obtain ⟨q225, hV⟩ := hV
        obtain ⟨P226, t227, hV⟩ := hV
        refine g_cVI (pc := 507) X (As := []) ml_L_76 rfl q225 t227 (by rw [hR]; exact ⟨by decide, by decide, by decide, by decide⟩) rfl rfl (Nat.zero_le _) dL_law_507 (fun v230 h229 p228 => ?_)
        have hV := hV v230 h229 p228
        refine g_aload_n (pc := 510) X 2 rfl rfl dL_law_510 ?_
        obtain ⟨q231, hV⟩ := hV
        obtain ⟨P232, t233, hV⟩ := hV
        refine g_cVI (pc := 511) X (As := []) ml_L_79 rfl q231 t233 (by rw [hR]; exact ⟨by decide, by decide, by decide, by decide⟩) rfl rfl (Nat.le_of_ble_eq_true rfl) dL_law_511 (fun v236 h235 p234 => ?_)
        have hV := hV v236 h235 p234
        refine g_icmp_eq (pc := 514) X 641 dL_law_514 (by decide) (fun c237 => ?_) (fun c237 => ?_)
        · have hV := hV.1 c237
          exact W_L_law_641 X S9 RQ hR hL18 hV
        · have hV := hV.2 c237
          refine g_iconst (pc := 517) (v := (0 : Int32)) X dL_law_517 (by decide) ?_
          exact g_lawret (pc := 518) X RQ hV dL_law_518
      · have e6 : ((xs x3.toNatClampNeg) &&& (31 : Int32)) = (15 : Int32) := Int32.toInt_inj.mp (by rw [c5]; rfl)
        have hV := hV.2.2.2.2.2.2.2.2.2.2.2.2.2.2.2.2.1 e6
        refine g_tab (pc := 32) X 519 dL_law_32 (by omega) (by omega) (off := 487) (by rw [c5]; rfl) (by decide) ?_
        refine g_aload_n (pc := 519) X 1 rfl rfl dL_law_519 ?_
        refine g_sload_n (pc := 520) X 0 rfl rfl dL_law_520 ?_
        refine g_iload_n (pc := 521) X 3 rfl rfl dL_law_521 ?_
        refine g_iconst (pc := 522) (v := (1 : Int32)) X dL_law_522 (by decide) ?_
        refine g_iadd (pc := 523) X dL_law_523 ?_
        obtain ⟨q238, hV⟩ := hV
        refine g_sld (pc := 524) X S9 q238 dL_law_524 ?_
        obtain ⟨q239, hV⟩ := hV
        obtain ⟨P240, t241, hV⟩ := hV
        refine g_cVI (pc := 525) X (As := [Value.int (xs (x3 + (1 : Int32)).toNatClampNeg)]) ml_L_80 rfl q239 t241 (by rw [hR]; exact ⟨by decide, by decide, by decide, by decide⟩) rfl rfl (Nat.zero_le _) dL_law_525 (fun v244 h243 p242 => ?_)
        have hV := hV v244 h243 p242
        refine g_aload_n (pc := 528) X 2 rfl rfl dL_law_528 ?_
        refine g_sload_n (pc := 529) X 0 rfl rfl dL_law_529 ?_
        refine g_iload_n (pc := 530) X 3 rfl rfl dL_law_530 ?_
        refine g_iconst (pc := 531) (v := (1 : Int32)) X dL_law_531 (by decide) ?_
        refine g_iadd (pc := 532) X dL_law_532 ?_
        obtain ⟨q245, hV⟩ := hV
        refine g_sld (pc := 533) X S9 q245 dL_law_533 ?_
        obtain ⟨q246, hV⟩ := hV
        obtain ⟨P247, t248, hV⟩ := hV
        refine g_cVI (pc := 534) X (As := [Value.int (xs (x3 + (1 : Int32)).toNatClampNeg)]) ml_L_83 rfl q246 t248 (by rw [hR]; exact ⟨by decide, by decide, by decide, by decide⟩) rfl rfl (Nat.le_of_ble_eq_true rfl) dL_law_534 (fun v251 h250 p249 => ?_)
        have hV := hV v251 h250 p249
        refine g_icmp_eq (pc := 537) X 641 dL_law_537 (by decide) (fun c252 => ?_) (fun c252 => ?_)
        · have hV := hV.1 c252
          exact W_L_law_641 X S9 RQ hR hL18 hV
        · have hV := hV.2 c252
          refine g_iconst (pc := 540) (v := (0 : Int32)) X dL_law_540 (by decide) ?_
          exact g_lawret (pc := 541) X RQ hV dL_law_541
      · have e6 : ((xs x3.toNatClampNeg) &&& (31 : Int32)) = (16 : Int32) := Int32.toInt_inj.mp (by rw [c5]; rfl)
        have hV := hV.2.2.2.2.2.2.2.2.2.2.2.2.2.2.2.2.2.1 e6
        refine g_tab (pc := 32) X 542 dL_law_32 (by omega) (by omega) (off := 510) (by rw [c5]; rfl) (by decide) ?_
        refine g_aload_n (pc := 542) X 1 rfl rfl dL_law_542 ?_
        refine g_sload_n (pc := 543) X 0 rfl rfl dL_law_543 ?_
        refine g_iload_n (pc := 544) X 3 rfl rfl dL_law_544 ?_
        refine g_iconst (pc := 545) (v := (1 : Int32)) X dL_law_545 (by decide) ?_
        refine g_iadd (pc := 546) X dL_law_546 ?_
        obtain ⟨q253, hV⟩ := hV
        refine g_sld (pc := 547) X S9 q253 dL_law_547 ?_
        refine g_sload_n (pc := 548) X 0 rfl rfl dL_law_548 ?_
        refine g_iload_n (pc := 549) X 3 rfl rfl dL_law_549 ?_
        refine g_iconst (pc := 550) (v := (2 : Int32)) X dL_law_550 (by decide) ?_
        refine g_iadd (pc := 551) X dL_law_551 ?_
        obtain ⟨q254, hV⟩ := hV
        refine g_sld (pc := 552) X S9 q254 dL_law_552 ?_
        obtain ⟨q255, hV⟩ := hV
        obtain ⟨P256, t257, hV⟩ := hV
        refine g_cVI (pc := 553) X (As := [Value.int (xs (x3 + (1 : Int32)).toNatClampNeg), Value.int (xs (x3 + (2 : Int32)).toNatClampNeg)]) ml_L_84 rfl q255 t257 (by rw [hR]; exact ⟨by decide, by decide, by decide, by decide⟩) rfl rfl (Nat.zero_le _) dL_law_553 (fun v260 h259 p258 => ?_)
        have hV := hV v260 h259 p258
        refine g_aload_n (pc := 556) X 2 rfl rfl dL_law_556 ?_
        refine g_sload_n (pc := 557) X 0 rfl rfl dL_law_557 ?_
        refine g_iload_n (pc := 558) X 3 rfl rfl dL_law_558 ?_
        refine g_iconst (pc := 559) (v := (1 : Int32)) X dL_law_559 (by decide) ?_
        refine g_iadd (pc := 560) X dL_law_560 ?_
        obtain ⟨q261, hV⟩ := hV
        refine g_sld (pc := 561) X S9 q261 dL_law_561 ?_
        refine g_sload_n (pc := 562) X 0 rfl rfl dL_law_562 ?_
        refine g_iload_n (pc := 563) X 3 rfl rfl dL_law_563 ?_
        refine g_iconst (pc := 564) (v := (2 : Int32)) X dL_law_564 (by decide) ?_
        refine g_iadd (pc := 565) X dL_law_565 ?_
        obtain ⟨q262, hV⟩ := hV
        refine g_sld (pc := 566) X S9 q262 dL_law_566 ?_
        obtain ⟨q263, hV⟩ := hV
        obtain ⟨P264, t265, hV⟩ := hV
        refine g_cVI (pc := 567) X (As := [Value.int (xs (x3 + (1 : Int32)).toNatClampNeg), Value.int (xs (x3 + (2 : Int32)).toNatClampNeg)]) ml_L_87 rfl q263 t265 (by rw [hR]; exact ⟨by decide, by decide, by decide, by decide⟩) rfl rfl (Nat.le_of_ble_eq_true rfl) dL_law_567 (fun v268 h267 p266 => ?_)
        have hV := hV v268 h267 p266
        refine g_icmp_eq (pc := 570) X 641 dL_law_570 (by decide) (fun c269 => ?_) (fun c269 => ?_)
        · have hV := hV.1 c269
          exact W_L_law_641 X S9 RQ hR hL18 hV
        · have hV := hV.2 c269
          refine g_iconst (pc := 573) (v := (0 : Int32)) X dL_law_573 (by decide) ?_
          exact g_lawret (pc := 574) X RQ hV dL_law_574
      · have e6 : ((xs x3.toNatClampNeg) &&& (31 : Int32)) = (17 : Int32) := Int32.toInt_inj.mp (by rw [c5]; rfl)
        have hV := hV.2.2.2.2.2.2.2.2.2.2.2.2.2.2.2.2.2.2.1 e6
        refine g_tab (pc := 32) X 575 dL_law_32 (by omega) (by omega) (off := 543) (by rw [c5]; rfl) (by decide) ?_
        refine g_aload_n (pc := 575) X 1 rfl rfl dL_law_575 ?_
        refine g_sload_n (pc := 576) X 0 rfl rfl dL_law_576 ?_
        refine g_iload_n (pc := 577) X 3 rfl rfl dL_law_577 ?_
        refine g_iconst (pc := 578) (v := (1 : Int32)) X dL_law_578 (by decide) ?_
        refine g_iadd (pc := 579) X dL_law_579 ?_
        obtain ⟨q270, hV⟩ := hV
        refine g_sld (pc := 580) X S9 q270 dL_law_580 ?_
        refine g_sload_n (pc := 581) X 0 rfl rfl dL_law_581 ?_
        refine g_iload_n (pc := 582) X 3 rfl rfl dL_law_582 ?_
        refine g_iconst (pc := 583) (v := (2 : Int32)) X dL_law_583 (by decide) ?_
        refine g_iadd (pc := 584) X dL_law_584 ?_
        obtain ⟨q271, hV⟩ := hV
        refine g_sld (pc := 585) X S9 q271 dL_law_585 ?_
        obtain ⟨q272, hV⟩ := hV
        obtain ⟨P273, t274, hV⟩ := hV
        refine g_cVI (pc := 586) X (As := [Value.int (xs (x3 + (1 : Int32)).toNatClampNeg), Value.int (xs (x3 + (2 : Int32)).toNatClampNeg)]) ml_L_88 rfl q272 t274 (by rw [hR]; exact ⟨by decide, by decide, by decide, by decide⟩) rfl rfl (Nat.zero_le _) dL_law_586 (fun v277 h276 p275 => ?_)
        have hV := hV v277 h276 p275
        refine g_aload_n (pc := 589) X 2 rfl rfl dL_law_589 ?_
        refine g_sload_n (pc := 590) X 0 rfl rfl dL_law_590 ?_
        refine g_iload_n (pc := 591) X 3 rfl rfl dL_law_591 ?_
        refine g_iconst (pc := 592) (v := (1 : Int32)) X dL_law_592 (by decide) ?_
        refine g_iadd (pc := 593) X dL_law_593 ?_
        obtain ⟨q278, hV⟩ := hV
        refine g_sld (pc := 594) X S9 q278 dL_law_594 ?_
        refine g_sload_n (pc := 595) X 0 rfl rfl dL_law_595 ?_
        refine g_iload_n (pc := 596) X 3 rfl rfl dL_law_596 ?_
        refine g_iconst (pc := 597) (v := (2 : Int32)) X dL_law_597 (by decide) ?_
        refine g_iadd (pc := 598) X dL_law_598 ?_
        obtain ⟨q279, hV⟩ := hV
        refine g_sld (pc := 599) X S9 q279 dL_law_599 ?_
        obtain ⟨q280, hV⟩ := hV
        obtain ⟨P281, t282, hV⟩ := hV
        refine g_cVI (pc := 600) X (As := [Value.int (xs (x3 + (1 : Int32)).toNatClampNeg), Value.int (xs (x3 + (2 : Int32)).toNatClampNeg)]) ml_L_91 rfl q280 t282 (by rw [hR]; exact ⟨by decide, by decide, by decide, by decide⟩) rfl rfl (Nat.le_of_ble_eq_true rfl) dL_law_600 (fun v285 h284 p283 => ?_)
        have hV := hV v285 h284 p283
        refine g_icmp_eq (pc := 603) X 641 dL_law_603 (by decide) (fun c286 => ?_) (fun c286 => ?_)
        · have hV := hV.1 c286
          exact W_L_law_641 X S9 RQ hR hL18 hV
        · have hV := hV.2 c286
          refine g_iconst (pc := 606) (v := (0 : Int32)) X dL_law_606 (by decide) ?_
          exact g_lawret (pc := 607) X RQ hV dL_law_607
      · have e6 : ((xs x3.toNatClampNeg) &&& (31 : Int32)) = (18 : Int32) := Int32.toInt_inj.mp (by rw [c5]; rfl)
        have hV := hV.2.2.2.2.2.2.2.2.2.2.2.2.2.2.2.2.2.2.2 e6
        refine g_tab (pc := 32) X 608 dL_law_32 (by omega) (by omega) (off := 576) (by rw [c5]; rfl) (by decide) ?_
        refine g_aload_n (pc := 608) X 1 rfl rfl dL_law_608 ?_
        refine g_sload_n (pc := 609) X 0 rfl rfl dL_law_609 ?_
        refine g_iload_n (pc := 610) X 3 rfl rfl dL_law_610 ?_
        refine g_iconst (pc := 611) (v := (1 : Int32)) X dL_law_611 (by decide) ?_
        refine g_iadd (pc := 612) X dL_law_612 ?_
        obtain ⟨q287, hV⟩ := hV
        refine g_sld (pc := 613) X S9 q287 dL_law_613 ?_
        refine g_sload_n (pc := 614) X 0 rfl rfl dL_law_614 ?_
        refine g_iload_n (pc := 615) X 3 rfl rfl dL_law_615 ?_
        refine g_iconst (pc := 616) (v := (2 : Int32)) X dL_law_616 (by decide) ?_
        refine g_iadd (pc := 617) X dL_law_617 ?_
        obtain ⟨q288, hV⟩ := hV
        refine g_sld (pc := 618) X S9 q288 dL_law_618 ?_
        obtain ⟨q289, hV⟩ := hV
        obtain ⟨P290, t291, hV⟩ := hV
        refine g_cVI (pc := 619) X (As := [Value.int (xs (x3 + (1 : Int32)).toNatClampNeg), Value.int (xs (x3 + (2 : Int32)).toNatClampNeg)]) ml_L_92 rfl q289 t291 (by rw [hR]; exact ⟨by decide, by decide, by decide, by decide⟩) rfl rfl (Nat.zero_le _) dL_law_619 (fun v294 h293 p292 => ?_)
        have hV := hV v294 h293 p292
        refine g_aload_n (pc := 622) X 2 rfl rfl dL_law_622 ?_
        refine g_sload_n (pc := 623) X 0 rfl rfl dL_law_623 ?_
        refine g_iload_n (pc := 624) X 3 rfl rfl dL_law_624 ?_
        refine g_iconst (pc := 625) (v := (1 : Int32)) X dL_law_625 (by decide) ?_
        refine g_iadd (pc := 626) X dL_law_626 ?_
        obtain ⟨q295, hV⟩ := hV
        refine g_sld (pc := 627) X S9 q295 dL_law_627 ?_
        refine g_sload_n (pc := 628) X 0 rfl rfl dL_law_628 ?_
        refine g_iload_n (pc := 629) X 3 rfl rfl dL_law_629 ?_
        refine g_iconst (pc := 630) (v := (2 : Int32)) X dL_law_630 (by decide) ?_
        refine g_iadd (pc := 631) X dL_law_631 ?_
        obtain ⟨q296, hV⟩ := hV
        refine g_sld (pc := 632) X S9 q296 dL_law_632 ?_
        obtain ⟨q297, hV⟩ := hV
        obtain ⟨P298, t299, hV⟩ := hV
        refine g_cVI (pc := 633) X (As := [Value.int (xs (x3 + (1 : Int32)).toNatClampNeg), Value.int (xs (x3 + (2 : Int32)).toNatClampNeg)]) ml_L_95 rfl q297 t299 (by rw [hR]; exact ⟨by decide, by decide, by decide, by decide⟩) rfl rfl (Nat.le_of_ble_eq_true rfl) dL_law_633 (fun v302 h301 p300 => ?_)
        have hV := hV v302 h301 p300
        refine g_icmp_eq (pc := 636) X 641 dL_law_636 (by decide) (fun c303 => ?_) (fun c303 => ?_)
        · have hV := hV.1 c303
          exact W_L_law_641 X S9 RQ hR hL18 hV
        · have hV := hV.2 c303
          refine g_iconst (pc := 639) (v := (0 : Int32)) X dL_law_639 (by decide) ?_
          exact g_lawret (pc := 640) X RQ hV dL_law_640
