/-! an opener at the cell 49: a window's codes run (printed twice by wip/whole/genopen.py) -/
theorem k49_0 {h : Hp} (f : Fin h) : h.2.1 49 0 = 18 := f (49, 0, 18) (by decide +kernel)
theorem k49_1 {h : Hp} (f : Fin h) : h.2.1 49 1 = 24 := f (49, 1, 24) (by decide +kernel)
theorem k49_2 {h : Hp} (f : Fin h) : h.2.1 49 2 = 21 := f (49, 2, 21) (by decide +kernel)
theorem k49_4 {h : Hp} (f : Fin h) : h.2.1 49 4 = 50 := f (49, 4, 50) (by decide +kernel)
theorem k49_5 {h : Hp} (f : Fin h) : h.2.1 49 5 = 53 := f (49, 5, 53) (by decide +kernel)
theorem k49_6 {h : Hp} (f : Fin h) : h.2.1 49 6 = 56 := f (49, 6, 56) (by decide +kernel)
theorem k49_7 {h : Hp} (f : Fin h) : h.2.1 49 7 = 59 := f (49, 7, 59) (by decide +kernel)
theorem k49_8 {h : Hp} (f : Fin h) : h.2.1 49 8 = 62 := f (49, 8, 62) (by decide +kernel)
theorem k49_9 {h : Hp} (f : Fin h) : h.2.1 49 9 = 65 := f (49, 9, 65) (by decide +kernel)
theorem lc49 {h : Hp} (f : Fin h) : LogC true h 21 22 23 := ⟨rfl, f (21, 0, 22) (by decide +kernel), f (21, 1, 23) (by decide +kernel), rfl, rfl, by decide⟩
theorem cc49 {h : Hp} (f : Fin h) : CacC h 24 25 26 32 4096 := ⟨rfl, f (24, 0, 25) (by decide +kernel), f (24, 1, 26) (by decide +kernel), rfl, rfl, by decide, by decide, by decide⟩
def RS49 (rs : Nat) : List Nat := [49, 56, 53, 59, 24, 25, 26, 21, 22, 23, rs, rs + 1]
def RV49 (h : Hp) (ra rs : Nat) (c : Wc) (s : Wst) (base pre : List Nat) (gr sp ft : Nat) (pl : Int32) (cp : Nat) : Prop := (Fin h) ∧ (2 ≤ ra ∧ ra ≤ 6 ∧ 2 ≤ rs ∧ rs ≤ 6 ∧ ra ≠ rs ∧ ra + 1 ≠ rs ∧ rs + 1 ≠ ra) ∧ (RowV SH h ra (ra + 1) 8000 c.src false) ∧ (RowV SH h rs (rs + 1) 8000 (pre ++ s.sp.drop c.ss) false) ∧ (RowV SH h 8 9 4000 base false) ∧ ((gr = 8 ∧ s.sp.take c.ss = (base.drop sp).take c.ss ∧ sp + c.ss ≤ base.length) ∨ (gr = rs ∧ s.sp.take c.ss = (pre.drop sp).take c.ss ∧ sp + c.ss ≤ pre.length)) ∧ (h.2.1 65 0 = gr ∧ h.1 65 1 = nI sp ∧ h.1 65 2 = nI c.ss ∧ h.2.1 65 3 = rs ∧ h.1 65 4 = nI pre.length) ∧ (TabV h 18 19 20 c.T) ∧ (CurV h 56 ra s.ca c.cE) ∧ (CurV h 53 ra s.da c.dE) ∧ (CurV h 59 ra s.aa c.aE) ∧ (CacW h 24 25 26 c.T.2.1 c.T.2.2 s.nr s.sm s.nx) ∧ (LogW true h 21 22 23 s.tl s.ac) ∧ (h.2.1 49 11 = rs ∧ h.1 49 12 = nI ft ∧ h.1 49 13 = pl ∧ h.1 49 17 = nI c.tz ∧ h.1 49 18 = nI cp ∧ h.1 49 3 = 6) ∧ (c.own = true) ∧ (c.T.2.1 ≤ 32 ∧ 256 * c.T.2.2 ≤ 4096) ∧ (WcOk c) ∧ (WOk c s) ∧ (pre.length + c.tz ≤ 8000)
theorem RV49.of {h : Hp} {ra rs : Nat} {c : Wc} {s : Wst} {base pre : List Nat} {gr sp ft : Nat} {pl : Int32} {cp : Nat} (X : (Fin h) ∧ (2 ≤ ra ∧ ra ≤ 6 ∧ 2 ≤ rs ∧ rs ≤ 6 ∧ ra ≠ rs ∧ ra + 1 ≠ rs ∧ rs + 1 ≠ ra) ∧ (RowV SH h ra (ra + 1) 8000 c.src false) ∧ (RowV SH h rs (rs + 1) 8000 (pre ++ s.sp.drop c.ss) false) ∧ (RowV SH h 8 9 4000 base false) ∧ ((gr = 8 ∧ s.sp.take c.ss = (base.drop sp).take c.ss ∧ sp + c.ss ≤ base.length) ∨ (gr = rs ∧ s.sp.take c.ss = (pre.drop sp).take c.ss ∧ sp + c.ss ≤ pre.length)) ∧ (h.2.1 65 0 = gr ∧ h.1 65 1 = nI sp ∧ h.1 65 2 = nI c.ss ∧ h.2.1 65 3 = rs ∧ h.1 65 4 = nI pre.length) ∧ (TabV h 18 19 20 c.T) ∧ (CurV h 56 ra s.ca c.cE) ∧ (CurV h 53 ra s.da c.dE) ∧ (CurV h 59 ra s.aa c.aE) ∧ (CacW h 24 25 26 c.T.2.1 c.T.2.2 s.nr s.sm s.nx) ∧ (LogW true h 21 22 23 s.tl s.ac) ∧ (h.2.1 49 11 = rs ∧ h.1 49 12 = nI ft ∧ h.1 49 13 = pl ∧ h.1 49 17 = nI c.tz ∧ h.1 49 18 = nI cp ∧ h.1 49 3 = 6) ∧ (c.own = true) ∧ (c.T.2.1 ≤ 32 ∧ 256 * c.T.2.2 ≤ 4096) ∧ (WcOk c) ∧ (WOk c s) ∧ (pre.length + c.tz ≤ 8000)) : RV49 h ra rs c s base pre gr sp ft pl cp := X
theorem RV49.f {h : Hp} {ra rs : Nat} {c : Wc} {s : Wst} {base pre : List Nat} {gr sp ft : Nat} {pl : Int32} {cp : Nat} (X : RV49 h ra rs c s base pre gr sp ft pl cp) : Fin h := X.1
theorem RV49.b {h : Hp} {ra rs : Nat} {c : Wc} {s : Wst} {base pre : List Nat} {gr sp ft : Nat} {pl : Int32} {cp : Nat} (X : RV49 h ra rs c s base pre gr sp ft pl cp) : 2 ≤ ra ∧ ra ≤ 6 ∧ 2 ≤ rs ∧ rs ≤ 6 ∧ ra ≠ rs ∧ ra + 1 ≠ rs ∧ rs + 1 ≠ ra := X.2.1
theorem RV49.rr {h : Hp} {ra rs : Nat} {c : Wc} {s : Wst} {base pre : List Nat} {gr sp ft : Nat} {pl : Int32} {cp : Nat} (X : RV49 h ra rs c s base pre gr sp ft pl cp) : RowV SH h ra (ra + 1) 8000 c.src false := X.2.2.1
theorem RV49.ro {h : Hp} {ra rs : Nat} {c : Wc} {s : Wst} {base pre : List Nat} {gr sp ft : Nat} {pl : Int32} {cp : Nat} (X : RV49 h ra rs c s base pre gr sp ft pl cp) : RowV SH h rs (rs + 1) 8000 (pre ++ s.sp.drop c.ss) false := X.2.2.2.1
theorem RV49.rb {h : Hp} {ra rs : Nat} {c : Wc} {s : Wst} {base pre : List Nat} {gr sp ft : Nat} {pl : Int32} {cp : Nat} (X : RV49 h ra rs c s base pre gr sp ft pl cp) : RowV SH h 8 9 4000 base false := X.2.2.2.2.1
theorem RV49.g {h : Hp} {ra rs : Nat} {c : Wc} {s : Wst} {base pre : List Nat} {gr sp ft : Nat} {pl : Int32} {cp : Nat} (X : RV49 h ra rs c s base pre gr sp ft pl cp) : (gr = 8 ∧ s.sp.take c.ss = (base.drop sp).take c.ss ∧ sp + c.ss ≤ base.length) ∨ (gr = rs ∧ s.sp.take c.ss = (pre.drop sp).take c.ss ∧ sp + c.ss ≤ pre.length) := X.2.2.2.2.2.1
theorem RV49.p {h : Hp} {ra rs : Nat} {c : Wc} {s : Wst} {base pre : List Nat} {gr sp ft : Nat} {pl : Int32} {cp : Nat} (X : RV49 h ra rs c s base pre gr sp ft pl cp) : h.2.1 65 0 = gr ∧ h.1 65 1 = nI sp ∧ h.1 65 2 = nI c.ss ∧ h.2.1 65 3 = rs ∧ h.1 65 4 = nI pre.length := X.2.2.2.2.2.2.1
theorem RV49.t {h : Hp} {ra rs : Nat} {c : Wc} {s : Wst} {base pre : List Nat} {gr sp ft : Nat} {pl : Int32} {cp : Nat} (X : RV49 h ra rs c s base pre gr sp ft pl cp) : TabV h 18 19 20 c.T := X.2.2.2.2.2.2.2.1
theorem RV49.cc {h : Hp} {ra rs : Nat} {c : Wc} {s : Wst} {base pre : List Nat} {gr sp ft : Nat} {pl : Int32} {cp : Nat} (X : RV49 h ra rs c s base pre gr sp ft pl cp) : CurV h 56 ra s.ca c.cE := X.2.2.2.2.2.2.2.2.1
theorem RV49.cd {h : Hp} {ra rs : Nat} {c : Wc} {s : Wst} {base pre : List Nat} {gr sp ft : Nat} {pl : Int32} {cp : Nat} (X : RV49 h ra rs c s base pre gr sp ft pl cp) : CurV h 53 ra s.da c.dE := X.2.2.2.2.2.2.2.2.2.1
theorem RV49.ca {h : Hp} {ra rs : Nat} {c : Wc} {s : Wst} {base pre : List Nat} {gr sp ft : Nat} {pl : Int32} {cp : Nat} (X : RV49 h ra rs c s base pre gr sp ft pl cp) : CurV h 59 ra s.aa c.aE := X.2.2.2.2.2.2.2.2.2.2.1
theorem RV49.k {h : Hp} {ra rs : Nat} {c : Wc} {s : Wst} {base pre : List Nat} {gr sp ft : Nat} {pl : Int32} {cp : Nat} (X : RV49 h ra rs c s base pre gr sp ft pl cp) : CacW h 24 25 26 c.T.2.1 c.T.2.2 s.nr s.sm s.nx := X.2.2.2.2.2.2.2.2.2.2.2.1
theorem RV49.l {h : Hp} {ra rs : Nat} {c : Wc} {s : Wst} {base pre : List Nat} {gr sp ft : Nat} {pl : Int32} {cp : Nat} (X : RV49 h ra rs c s base pre gr sp ft pl cp) : LogW true h 21 22 23 s.tl s.ac := X.2.2.2.2.2.2.2.2.2.2.2.2.1
theorem RV49.o {h : Hp} {ra rs : Nat} {c : Wc} {s : Wst} {base pre : List Nat} {gr sp ft : Nat} {pl : Int32} {cp : Nat} (X : RV49 h ra rs c s base pre gr sp ft pl cp) : h.2.1 49 11 = rs ∧ h.1 49 12 = nI ft ∧ h.1 49 13 = pl ∧ h.1 49 17 = nI c.tz ∧ h.1 49 18 = nI cp ∧ h.1 49 3 = 6 := X.2.2.2.2.2.2.2.2.2.2.2.2.2.1
theorem RV49.own {h : Hp} {ra rs : Nat} {c : Wc} {s : Wst} {base pre : List Nat} {gr sp ft : Nat} {pl : Int32} {cp : Nat} (X : RV49 h ra rs c s base pre gr sp ft pl cp) : c.own = true := X.2.2.2.2.2.2.2.2.2.2.2.2.2.2.1
theorem RV49.kN {h : Hp} {ra rs : Nat} {c : Wc} {s : Wst} {base pre : List Nat} {gr sp ft : Nat} {pl : Int32} {cp : Nat} (X : RV49 h ra rs c s base pre gr sp ft pl cp) : c.T.2.1 ≤ 32 ∧ 256 * c.T.2.2 ≤ 4096 := X.2.2.2.2.2.2.2.2.2.2.2.2.2.2.2.1
theorem RV49.C {h : Hp} {ra rs : Nat} {c : Wc} {s : Wst} {base pre : List Nat} {gr sp ft : Nat} {pl : Int32} {cp : Nat} (X : RV49 h ra rs c s base pre gr sp ft pl cp) : WcOk c := X.2.2.2.2.2.2.2.2.2.2.2.2.2.2.2.2.1
theorem RV49.W {h : Hp} {ra rs : Nat} {c : Wc} {s : Wst} {base pre : List Nat} {gr sp ft : Nat} {pl : Int32} {cp : Nat} (X : RV49 h ra rs c s base pre gr sp ft pl cp) : WOk c s := X.2.2.2.2.2.2.2.2.2.2.2.2.2.2.2.2.2.1
theorem RV49.z {h : Hp} {ra rs : Nat} {c : Wc} {s : Wst} {base pre : List Nat} {gr sp ft : Nat} {pl : Int32} {cp : Nat} (X : RV49 h ra rs c s base pre gr sp ft pl cp) : pre.length + c.tz ≤ 8000 := X.2.2.2.2.2.2.2.2.2.2.2.2.2.2.2.2.2.2
theorem RV49.mvC {h h1 : Hp} {ra rs : Nat} {c : Wc} {s : Wst} {base pre : List Nat} {gr sp ft : Nat} {pl : Int32} {cp : Nat} {q : Nat} (X : RV49 h ra rs c s base pre gr sp ft pl cp) (F : Fr [56] h h1) (V : CurV h1 56 ra q c.cE) (hq : q ≤ c.cE) : RV49 h1 ra rs c (s.sca q) base pre gr sp ft pl cp := by
  have b := X.b
  exact RV49.of ⟨
    (X.f.fr F),
    (X.b),
    (X.rr.fr F (by simp; omega) (by simp; omega)),
    (X.ro.fr F (by simp; omega) (by simp; omega)),
    (X.rb.fr F (by decide) (by decide)),
    (X.g),
    (by rw [F.1, F.2.2 65 (by decide) ]; exact X.p),
    (X.t.ag ⟨F.2.2 _ (by decide) , by rw [F.1]⟩ ⟨F.2.2 _ (by decide) , by rw [F.1]⟩ (F.2.2 _ (by decide) )),
    (V),
    (X.cd.fr F (by decide)),
    (X.ca.fr F (by decide)),
    (X.k.fr F (by decide) (by decide) (by decide)),
    (X.l.fr F (by decide) (by decide) (by decide)),
    (by rw [F.1, F.2.2 49 (by decide) ]; exact X.o),
    (X.own),
    (X.kN),
    (X.C),
    (WOk.of ⟨hq, X.W.da, X.W.aa, X.W.s1, X.W.s2, X.W.nr, X.W.sm, X.W.nx, X.W.ac, X.W.by_⟩),
    (X.z)
  ⟩
theorem RV49.mvD {h h1 : Hp} {ra rs : Nat} {c : Wc} {s : Wst} {base pre : List Nat} {gr sp ft : Nat} {pl : Int32} {cp : Nat} {q : Nat} (X : RV49 h ra rs c s base pre gr sp ft pl cp) (F : Fr [53] h h1) (V : CurV h1 53 ra q c.dE) (hq : q ≤ c.dE) : RV49 h1 ra rs c (s.sda q) base pre gr sp ft pl cp := by
  have b := X.b
  exact RV49.of ⟨
    (X.f.fr F),
    (X.b),
    (X.rr.fr F (by simp; omega) (by simp; omega)),
    (X.ro.fr F (by simp; omega) (by simp; omega)),
    (X.rb.fr F (by decide) (by decide)),
    (X.g),
    (by rw [F.1, F.2.2 65 (by decide) ]; exact X.p),
    (X.t.ag ⟨F.2.2 _ (by decide) , by rw [F.1]⟩ ⟨F.2.2 _ (by decide) , by rw [F.1]⟩ (F.2.2 _ (by decide) )),
    (X.cc.fr F (by decide)),
    (V),
    (X.ca.fr F (by decide)),
    (X.k.fr F (by decide) (by decide) (by decide)),
    (X.l.fr F (by decide) (by decide) (by decide)),
    (by rw [F.1, F.2.2 49 (by decide) ]; exact X.o),
    (X.own),
    (X.kN),
    (X.C),
    (WOk.of ⟨X.W.ca, hq, X.W.aa, X.W.s1, X.W.s2, X.W.nr, X.W.sm, X.W.nx, X.W.ac, X.W.by_⟩),
    (X.z)
  ⟩
theorem RV49.mvA {h h1 : Hp} {ra rs : Nat} {c : Wc} {s : Wst} {base pre : List Nat} {gr sp ft : Nat} {pl : Int32} {cp : Nat} {q : Nat} (X : RV49 h ra rs c s base pre gr sp ft pl cp) (F : Fr [59] h h1) (V : CurV h1 59 ra q c.aE) (hq : q ≤ c.aE) : RV49 h1 ra rs c (s.saa q) base pre gr sp ft pl cp := by
  have b := X.b
  exact RV49.of ⟨
    (X.f.fr F),
    (X.b),
    (X.rr.fr F (by simp; omega) (by simp; omega)),
    (X.ro.fr F (by simp; omega) (by simp; omega)),
    (X.rb.fr F (by decide) (by decide)),
    (X.g),
    (by rw [F.1, F.2.2 65 (by decide) ]; exact X.p),
    (X.t.ag ⟨F.2.2 _ (by decide) , by rw [F.1]⟩ ⟨F.2.2 _ (by decide) , by rw [F.1]⟩ (F.2.2 _ (by decide) )),
    (X.cc.fr F (by decide)),
    (X.cd.fr F (by decide)),
    (V),
    (X.k.fr F (by decide) (by decide) (by decide)),
    (X.l.fr F (by decide) (by decide) (by decide)),
    (by rw [F.1, F.2.2 49 (by decide) ]; exact X.o),
    (X.own),
    (X.kN),
    (X.C),
    (WOk.of ⟨X.W.ca, X.W.da, hq, X.W.s1, X.W.s2, X.W.nr, X.W.sm, X.W.nx, X.W.ac, X.W.by_⟩),
    (X.z)
  ⟩
theorem RV49.psh {h h1 : Hp} {ra rs : Nat} {c : Wc} {s : Wst} {base pre : List Nat} {gr sp ft : Nat} {pl : Int32} {cp : Nat} {x : Nat} (X : RV49 h ra rs c s base pre gr sp ft pl cp) (F : Fr [rs, rs + 1] h h1) (V : RowV SH h1 rs (rs + 1) 8000 (pre ++ s.sp.drop c.ss ++ [x]) false) (hx : x < 256) (hl : s.sp.length < c.ss + c.tz) : RV49 h1 ra rs c (s.ssp (s.sp ++ [x])) base pre gr sp ft pl cp := by
  have b := X.b
  exact RV49.of ⟨
    (X.f.fr F),
    (X.b),
    (X.rr.fr F (by simp; omega) (by simp; omega)),
    (by
      have e : (s.sp ++ [x]).drop c.ss = s.sp.drop c.ss ++ [x] := by rw [List.drop_append, show c.ss - s.sp.length = 0 from Nat.sub_eq_zero_of_le X.W.s1]; rfl
      show RowV SH h1 rs (rs + 1) 8000 (pre ++ (s.sp ++ [x]).drop c.ss) false
      rw [e, ← List.append_assoc]; exact V),
    (X.rb.fr F (by simp; omega) (by simp; omega)),
    (by
      have e : (s.sp ++ [x]).take c.ss = s.sp.take c.ss := by rw [List.take_append, show c.ss - s.sp.length = 0 from Nat.sub_eq_zero_of_le X.W.s1]; simp
      show (gr = 8 ∧ (s.sp ++ [x]).take c.ss = (base.drop sp).take c.ss ∧ sp + c.ss ≤ base.length) ∨ (gr = rs ∧ (s.sp ++ [x]).take c.ss = (pre.drop sp).take c.ss ∧ sp + c.ss ≤ pre.length)
      rw [e]; exact X.g),
    (by rw [F.1, F.2.2 65 (by simp; omega) ]; exact X.p),
    (X.t.ag ⟨F.2.2 _ (by simp; omega) , by rw [F.1]⟩ ⟨F.2.2 _ (by simp; omega) , by rw [F.1]⟩ (F.2.2 _ (by simp; omega) )),
    (X.cc.fr F (by simp; omega)),
    (X.cd.fr F (by simp; omega)),
    (X.ca.fr F (by simp; omega)),
    (X.k.fr F (by simp; omega) (by simp; omega) (by simp; omega)),
    (X.l.fr F (by simp; omega) (by simp; omega) (by simp; omega)),
    (by rw [F.1, F.2.2 49 (by simp; omega) ]; exact X.o),
    (X.own),
    (X.kN),
    (X.C),
    (WOk.of ⟨X.W.ca, X.W.da, X.W.aa, by have := X.W.s1; show c.ss ≤ (s.sp ++ [x]).length; simp; omega, by show (s.sp ++ [x]).length ≤ _; simp; omega, X.W.nr, X.W.sm, X.W.nx, X.W.ac, fun b hb => by
      rcases List.mem_append.mp hb with q | q
      · exact X.W.by_ b q
      · rw [List.mem_singleton.mp q]; exact hx⟩),
    (X.z)
  ⟩
theorem RV49.kp {h h1 : Hp} {ra rs : Nat} {c : Wc} {s : Wst} {base pre : List Nat} {gr sp ft : Nat} {pl : Int32} {cp : Nat} {nr sm : Nat → Nat} {nx : Nat} (X : RV49 h ra rs c s base pre gr sp ft pl cp) (F : Fr [24, 25, 26] h h1) (V : CacW h1 24 25 26 c.T.2.1 c.T.2.2 nr sm nx) (W : WOk c (((s.snr nr).ssm sm).snx nx)) : RV49 h1 ra rs c (((s.snr nr).ssm sm).snx nx) base pre gr sp ft pl cp := by
  have b := X.b
  exact RV49.of ⟨
    (X.f.fr F),
    (X.b),
    (X.rr.fr F (by simp; omega) (by simp; omega)),
    (X.ro.fr F (by simp; omega) (by simp; omega)),
    (X.rb.fr F (by decide) (by decide)),
    (X.g),
    (by rw [F.1, F.2.2 65 (by decide) ]; exact X.p),
    (X.t.ag ⟨F.2.2 _ (by decide) , by rw [F.1]⟩ ⟨F.2.2 _ (by decide) , by rw [F.1]⟩ (F.2.2 _ (by decide) )),
    (X.cc.fr F (by decide)),
    (X.cd.fr F (by decide)),
    (X.ca.fr F (by decide)),
    (V),
    (X.l.fr F (by decide) (by decide) (by decide)),
    (by rw [F.1, F.2.2 49 (by decide) ]; exact X.o),
    (X.own),
    (X.kN),
    (X.C),
    (W),
    (X.z)
  ⟩
theorem RV49.lg {h h1 : Hp} {ra rs : Nat} {c : Wc} {s : Wst} {base pre : List Nat} {gr sp ft : Nat} {pl : Int32} {cp : Nat} {tl : Nat → Nat} {ac : AcL} (X : RV49 h ra rs c s base pre gr sp ft pl cp) (F : Fr [21, 22, 23] h h1) (V : LogW true h1 21 22 23 tl ac) (hl : ac.length ≤ 2000) : RV49 h1 ra rs c ((s.stl tl).sac ac) base pre gr sp ft pl cp := by
  have b := X.b
  exact RV49.of ⟨
    (X.f.fr F),
    (X.b),
    (X.rr.fr F (by simp; omega) (by simp; omega)),
    (X.ro.fr F (by simp; omega) (by simp; omega)),
    (X.rb.fr F (by decide) (by decide)),
    (X.g),
    (by rw [F.1, F.2.2 65 (by decide) ]; exact X.p),
    (X.t.ag ⟨F.2.2 _ (by decide) , by rw [F.1]⟩ ⟨F.2.2 _ (by decide) , by rw [F.1]⟩ (F.2.2 _ (by decide) )),
    (X.cc.fr F (by decide)),
    (X.cd.fr F (by decide)),
    (X.ca.fr F (by decide)),
    (X.k.fr F (by decide) (by decide) (by decide)),
    (V),
    (by rw [F.1, F.2.2 49 (by decide) ]; exact X.o),
    (X.own),
    (X.kN),
    (X.C),
    (WOk.of ⟨X.W.ca, X.W.da, X.W.aa, X.W.s1, X.W.s2, X.W.nr, X.W.sm, X.W.nx, hl, X.W.by_⟩),
    (X.z)
  ⟩
theorem RV49.ob {h h1 : Hp} {ra rs : Nat} {c : Wc} {s : Wst} {base pre : List Nat} {gr sp ft : Nat} {pl : Int32} {cp : Nat} {ft1 : Nat} {pl1 : Int32} {cp1 : Nat} (X : RV49 h ra rs c s base pre gr sp ft pl cp) (F : Fr [49] h h1) (V : h1.1 49 12 = nI ft1 ∧ h1.1 49 13 = pl1 ∧ h1.1 49 17 = nI c.tz ∧ h1.1 49 18 = nI cp1 ∧ h1.1 49 3 = 6) : RV49 h1 ra rs c s base pre gr sp ft1 pl1 cp1 := by
  have b := X.b
  exact RV49.of ⟨
    (X.f.fr F),
    (X.b),
    (X.rr.fr F (by simp; omega) (by simp; omega)),
    (X.ro.fr F (by simp; omega) (by simp; omega)),
    (X.rb.fr F (by decide) (by decide)),
    (X.g),
    (by rw [F.1, F.2.2 65 (by decide) ]; exact X.p),
    (X.t.ag ⟨F.2.2 _ (by decide) , by rw [F.1]⟩ ⟨F.2.2 _ (by decide) , by rw [F.1]⟩ (F.2.2 _ (by decide) )),
    (X.cc.fr F (by decide)),
    (X.cd.fr F (by decide)),
    (X.ca.fr F (by decide)),
    (X.k.fr F (by decide) (by decide) (by decide)),
    (X.l.fr F (by decide) (by decide) (by decide)),
    (⟨by rw [F.1]; exact X.o.1, V⟩),
    (X.own),
    (X.kN),
    (X.C),
    (X.W),
    (X.z)
  ⟩
theorem RV49.sm {h h1 : Hp} {ra rs : Nat} {c : Wc} {s : Wst} {base pre : List Nat} {gr sp ft : Nat} {pl : Int32} {cp : Nat}  (X : RV49 h ra rs c s base pre gr sp ft pl cp) (F : Fr [62] h h1)  : RV49 h1 ra rs c s base pre gr sp ft pl cp := by
  have b := X.b
  exact RV49.of ⟨
    (X.f.fr F),
    (X.b),
    (X.rr.fr F (by simp; omega) (by simp; omega)),
    (X.ro.fr F (by simp; omega) (by simp; omega)),
    (X.rb.fr F (by decide) (by decide)),
    (X.g),
    (by rw [F.1, F.2.2 65 (by decide) ]; exact X.p),
    (X.t.ag ⟨F.2.2 _ (by decide) , by rw [F.1]⟩ ⟨F.2.2 _ (by decide) , by rw [F.1]⟩ (F.2.2 _ (by decide) )),
    (X.cc.fr F (by decide)),
    (X.cd.fr F (by decide)),
    (X.ca.fr F (by decide)),
    (X.k.fr F (by decide) (by decide) (by decide)),
    (X.l.fr F (by decide) (by decide) (by decide)),
    (by rw [F.1, F.2.2 49 (by decide) ]; exact X.o),
    (X.own),
    (X.kN),
    (X.C),
    (X.W),
    (X.z)
  ⟩
theorem len49 {h : Hp} {ra rs : Nat} {c : Wc} {s : Wst} {base pre : List Nat} {gr sp ft : Nat} {pl : Int32} {cp : Nat} (X : RV49 h ra rs c s base pre gr sp ft pl cp) : (pre ++ s.sp.drop c.ss).length = pre.length + (s.sp.length - c.ss) := by simp
theorem tlen49 {w : Wd} {h : Hp} {ra rs : Nat} {c : Wc} {s : Wst} {base pre : List Nat} {gr sp ft : Nat} {pl : Int32} {cp : Nat} (X : RV49 h ra rs c s base pre gr sp ft pl cp) : C_X9_targetLength w SH 65 h (fun v h1 => h1 = h ∧ v = nI (s.sp.length - c.ss)) := by
  obtain ⟨p0, p1, p2, p3, p4⟩ := X.p
  refine K_X9_targetLength ⟨rfl, by rw [p3]; exact X.ro.1, _, by rw [p3]; exact S_length X.ro, fun v7 h6 hp => ?_⟩
  obtain ⟨rfl, rfl⟩ := hp
  exact ⟨rfl, by rw [p4, len49 X, pk_sub (by omega)]; congr 1; omega⟩
theorem here49 {w : Wd} {h : Hp} {ra rs : Nat} {c : Wc} {s : Wst} {base pre : List Nat} {gr sp ft : Nat} {pl : Int32} {cp : Nat} (X : RV49 h ra rs c s base pre gr sp ft pl cp) : C_X9_here w SH 65 h (fun v h1 => h1 = h ∧ v = nI s.sp.length) := by
  obtain ⟨p0, p1, p2, p3, p4⟩ := X.p
  refine K_X9_here ⟨rfl, _, tlen49 X, fun v6 h5 hp => ?_⟩
  obtain ⟨rfl, rfl⟩ := hp
  have := X.W.s1
  exact ⟨rfl, by rw [p2, nI_add]; congr 1; omega⟩
theorem spAt49 {w : Wd} {h : Hp} {ra rs : Nat} {c : Wc} {s : Wst} {base pre : List Nat} {gr sp ft : Nat} {pl : Int32} {cp : Nat} (X : RV49 h ra rs c s base pre gr sp ft pl cp) (a : Nat) (ha : a < s.sp.length) : C_X9_at w SH 65 (nI a) h (fun v h1 => h1 = h ∧ v = nI (s.sp.getD a 0)) := by
  obtain ⟨p0, p1, p2, p3, p4⟩ := X.p
  have w1 := X.W.s1
  have w2 := X.W.s2
  have c1 := X.C.s
  have c2 := X.C.z
  have hz := X.z
  refine K_X9_at ⟨rfl, fun c7 => ?_, fun c7 => ?_⟩
  · rw [p2, nI_leI (by omega) (by omega)] at c7
    refine ⟨by rw [p3]; exact X.ro.1, _, by rw [p3, p4, p2, nI_add, pk_sub (by omega)]; exact S_at X.ro _ (by omega), fun v8 h7 hp => ?_⟩
    obtain ⟨rfl, rfl⟩ := hp
    have hlt : pre.length + a - c.ss < (pre ++ s.sp.drop c.ss).length := by rw [len49 X]; omega
    refine ⟨rfl, ?_⟩
    rw [dif_pos hlt, List.getElem_append_right (by omega), getD_at ha, List.getElem_drop]
    congr 2; omega
  · rw [p2, nI_leI (by omega) (by omega)] at c7
    have key : ∀ (l : List Nat), s.sp.take c.ss = (l.drop sp).take c.ss → sp + c.ss ≤ l.length → ∃ q : sp + a < l.length, l[sp + a] = s.sp.getD a 0 := by
      intro l e hl
      refine ⟨by omega, ?_⟩
      have h1 : (s.sp.take c.ss)[a]'(by simp; omega) = ((l.drop sp).take c.ss)[a]'(by simp; omega) := by simp only [e]
      rw [List.getElem_take, List.getElem_take, List.getElem_drop] at h1
      rw [getD_at ha, h1]
    rcases X.g with ⟨g1, g2, g3⟩ | ⟨g1, g2, g3⟩
    · subst g1
      obtain ⟨q, e⟩ := key _ g2 g3
      have hb := X.rb.2.2.2.2.1
      refine ⟨by rw [p0]; rfl, _, by rw [p0, p1, nI_add]; exact S_at X.rb _ (by omega), fun v14 h13 hp => ?_⟩
      obtain ⟨rfl, rfl⟩ := hp
      exact ⟨rfl, by rw [dif_pos q, e]⟩
    · subst g1
      obtain ⟨q, e⟩ := key _ g2 g3
      refine ⟨by rw [p0]; exact X.ro.1, _, by rw [p0, p1, nI_add]; exact S_at X.ro _ (by omega), fun v14 h13 hp => ?_⟩
      obtain ⟨rfl, rfl⟩ := hp
      refine ⟨rfl, ?_⟩
      rw [dif_pos (by rw [len49 X]; omega), List.getElem_append_left q, e]
theorem push49 {w : Wd} {h : Hp} {ra rs : Nat} {c : Wc} {s : Wst} {base pre : List Nat} {gr sp ft : Nat} {pl : Int32} {cp : Nat} (X : RV49 h ra rs c s base pre gr sp ft pl cp) (x : Nat) (hx : x < 256) (hl : s.sp.length < c.ss + c.tz) : ∃ P, C_X8_push w SH rs (nI x) h P ∧ ∀ h1, P h1 → RV49 h1 ra rs c (s.ssp (s.sp ++ [x])) base pre gr sp ft pl cp ∧ Fr [rs, rs + 1] h h1 := by
  have hp := S_push (w := w) X.ro (nI x)
  have hz := X.z
  have w1 := X.W.s1
  rw [un_nI hx] at hp
  have e : pushL 8000 (pre ++ s.sp.drop c.ss, false) x = (pre ++ s.sp.drop c.ss ++ [x], false) := by
    unfold pushL
    rw [if_pos (by simp only; rw [len49 X]; omega)]
  rw [e] at hp
  exact ⟨_, hp, fun h1 q => ⟨X.psh q.2 q.1 hx hl, q.2⟩⟩
