/-! caches wiped and fitted; cells not made yet are 0 -/
theorem S_wipe {w : Wd} {sh : List Sh} {h : Hp} {c an as Nn Ns : Nat} (hc : shAt sh c = some (.inr 0)) (e0 : h.2.1 c 0 = an) (e1 : h.2.1 c 1 = as) (ha : shAt sh an = some (.inl (1, Nn))) (hs : shAt sh as = some (.inl (1, Ns))) (hN : Nn < 2 ^ 31) (hS : Ns < 2 ^ 31) (hne : an ≠ as) : C_X0_wipe w sh c h (fun h1 => (∀ j, j < Nn → h1.1 an j = 0) ∧ (∀ j, j < Ns → h1.1 as j = 0) ∧ h1.1 c 4 = 0 ∧ (∀ k, k ≠ 4 → h1.1 c k = h.1 c k) ∧ Fr [c, an, as] h h1) := by
  have nca : c ≠ an := fun e => by rw [e, ha] at hc; cases hc
  have ncs : c ≠ as := fun e => by rw [e, hs] at hc; cases hc
  refine K_X0_wipe ⟨hc, _, by rw [e0]; exact S_fill ha hN 0, fun h5 hp => ?_⟩
  obtain ⟨A1, F1⟩ := hp
  refine ⟨_, by rw [F1.1, e1]; exact S_fill hs hS 0, fun h9 hp h10 e10 => ?_⟩
  obtain ⟨A2, F2⟩ := hp
  subst e10
  refine ⟨fun j hj => ?_, fun j hj => ?_, wI_same, fun k hk => ?_, ((F1.mono (by simp)).tr1 (F2.mono (by simp))).put (by simp)⟩
  · rw [wI_cell (Ne.symm nca), F2.2.2 an (by simpa using hne)]; exact A1 j hj
  · rw [wI_cell (Ne.symm ncs)]; exact A2 j hj
  · rw [wI_idx hk, F2.2.2 c (by simpa using ncs), F1.2.2 c (by simpa using nca)]
theorem clampN {n c : Nat} (h : n ≤ c) (hc : c < 2 ^ 31) : (if (0 : Int32) < (if Int32.ofNat c < nI n then Int32.ofNat c else nI n) then (if Int32.ofNat c < nI n then Int32.ofNat c else nI n) else 0) = nI n := by
  have h1 : ¬ Int32.ofNat c < nI n := by rw [ofN, nI_ltI hc (by omega)]; omega
  rw [if_neg h1]
  by_cases h0 : n = 0
  · subst h0; rfl
  · rw [if_pos (by rw [show (0 : Int32) = nI 0 from rfl, nI_ltI (by decide) (by omega)]; omega)]
theorem S_fit {w : Wd} {sh : List Sh} {h : Hp} {c an as Nn Ns : Nat} (hc : shAt sh c = some (.inr 0)) (e0 : h.2.1 c 0 = an) (e1 : h.2.1 c 1 = as) (ha : shAt sh an = some (.inl (1, Nn))) (hs : shAt sh as = some (.inl (1, Ns))) (hN : Nn < 2 ^ 31) (hS : Ns < 2 ^ 31) (hne : an ≠ as) (N S : Nat) (h1 : N ≤ Nn) (h2 : 256 * S ≤ Ns) : C_X0_fit w sh c (nI N) (nI S) h (fun h1 => (∀ j, j < Nn → h1.1 an j = 0) ∧ (∀ j, j < Ns → h1.1 as j = 0) ∧ h1.1 c 4 = 0 ∧ h1.1 c 2 = nI N ∧ h1.1 c 3 = nI (256 * S) ∧ Fr [c, an, as] h h1) := by
  refine K_X0_fit ⟨hc, Nn, by rw [e0]; exact ha, fun h4 e4 => ⟨Ns, by rw [e1]; exact hs, fun h8 e8 => ?_⟩⟩
  have ms : nI S * (256 : Int32) = nI (256 * S) := by rw [show (256 : Int32) = nI 256 from rfl, pk_mul, Nat.mul_comm]
  rw [clampN h1 hN] at e4
  rw [ms, clampN h2 hS] at e8
  subst e4; subst e8
  have F : Fr [c, an, as] h (wI (wI h c 2 (nI N)) c 3 (nI (256 * S))) := (Fr.rf.put (by simp)).put (by simp)
  refine ⟨_, S_wipe hc (by rw [F.1]; exact e0) (by rw [F.1]; exact e1) ha hs hN hS hne, fun h13 hp => ?_⟩
  obtain ⟨p1, p2, p3, p4, p5⟩ := hp
  exact ⟨p1, p2, p3, by rw [p4 2 (by decide), wI_idx (by decide), wI_same], by rw [p4 3 (by decide), wI_same], F.tr1 p5⟩
/-- beyond the first n cells all is 0 -/
def Zr (n : Nat) (h : Hp) : Prop := ∀ c, n < c → ∀ k, h.1 c k = 0 ∧ h.2.1 c k = 0 ∧ h.2.2 c k = 0
theorem Zr.up {n m : Nat} {h : Hp} (Z : Zr n h) (hm : n ≤ m) : Zr m h := fun c hc k => Z c (by omega) k
theorem Zr.setR {n : Nat} {h : Hp} (Z : Zr n h) (a b r : Nat) (ha : a ≤ n) : Zr n (wR h a b r) := fun c hc k => ⟨(Z c hc k).1, by
  have : c ≠ a := by omega
  simp [wR, this]; exact (Z c hc k).2.1, (Z c hc k).2.2⟩
theorem Zr.setI {n : Nat} {h : Hp} (Z : Zr n h) (a b : Nat) (v : Int32) (ha : a ≤ n) : Zr n (wI h a b v) := fun c hc k => ⟨by
  have : c ≠ a := by omega
  simp [wI, this]; exact (Z c hc k).1, (Z c hc k).2.1, (Z c hc k).2.2⟩
theorem Zr.fr {n : Nat} {h h1 : Hp} {S : List Nat} (Z : Zr n h) (F : Fr S h h1) (hs : ∀ c, c ∈ S → c ≤ n) : Zr n h1 := fun c hc k => ⟨by rw [F.2.2 c (fun q => by have := hs c q; omega)]; exact (Z c hc k).1, by rw [F.1]; exact (Z c hc k).2.1, by rw [F.2.1]; exact (Z c hc k).2.2⟩
def uR (f : Nat → Nat → Nat) (L : List (Nat × Nat × Nat)) : Nat → Nat → Nat := L.foldl (fun f q a j => if a = q.1 ∧ j = q.2.1 then q.2.2 else f a j) f
def uI (f : Nat → Nat → Int32) (L : List (Nat × Nat × Int32)) : Nat → Nat → Int32 := L.foldl (fun f q a j => if a = q.1 ∧ j = q.2.1 then q.2.2 else f a j) f
theorem uR_app (f : Nat → Nat → Nat) (L M : List (Nat × Nat × Nat)) : uR (uR f L) M = uR f (L ++ M) := by unfold uR; rw [List.foldl_append]
theorem uI_app (f : Nat → Nat → Int32) (L M : List (Nat × Nat × Int32)) : uI (uI f L) M = uI f (L ++ M) := by unfold uI; rw [List.foldl_append]
/-- what a constructor has done: the cells are the first n, refs and ints are written as told -/
def Bt (n : Nat) (h : Hp) (L : List (Nat × Nat × Nat)) (M : List (Nat × Nat × Int32)) (sh1 : List Sh) (h1 : Hp) : Prop := sh1 = SH.take n ∧ Zr n h1 ∧ h1.2.1 = uR h.2.1 L ∧ h1.1 = uI h.1 M ∧ h1.2.2 = h.2.2
theorem Bt.go {n m : Nat} {h h1 h2 : Hp} {L L2 : List (Nat × Nat × Nat)} {M M2 : List (Nat × Nat × Int32)} {sh1 sh2 : List Sh} (a : Bt n h L M sh1 h1) (b : Bt m h1 L2 M2 sh2 h2) : Bt m h (L ++ L2) (M ++ M2) sh2 h2 := ⟨b.1, b.2.1, by rw [b.2.2.1, a.2.2.1, uR_app], by rw [b.2.2.2.1, a.2.2.2.1, uI_app], b.2.2.2.2.trans a.2.2.2.2⟩
theorem Bt.setR {n : Nat} {h h1 : Hp} {L : List (Nat × Nat × Nat)} {M : List (Nat × Nat × Int32)} {sh1 : List Sh} (a : Bt n h L M sh1 h1) (c k r : Nat) (hc : c ≤ n) : Bt n h (L ++ [(c, k, r)]) M sh1 (wR h1 c k r) := ⟨a.1, a.2.1.setR c k r hc, by rw [← uR_app, ← a.2.2.1]; rfl, a.2.2.2.1, a.2.2.2.2⟩
theorem Bt.setI {n : Nat} {h h1 : Hp} {L : List (Nat × Nat × Nat)} {M : List (Nat × Nat × Int32)} {sh1 : List Sh} (a : Bt n h L M sh1 h1) (c k : Nat) (v : Int32) (hc : c ≤ n) : Bt n h L (M ++ [(c, k, v)]) sh1 (wI h1 c k v) := ⟨a.1, a.2.1.setI c k v hc, a.2.2.1, by rw [← uI_app, ← a.2.2.2.1]; rfl, a.2.2.2.2⟩
theorem Bt.rf {n : Nat} {h : Hp} (Z : Zr n h) : Bt n h [] [] (SH.take n) h := ⟨rfl, Z, rfl, rfl, rfl⟩
theorem Bt.more {n m : Nat} {h h1 : Hp} {L : List (Nat × Nat × Nat)} {M : List (Nat × Nat × Int32)} {sh1 sh2 : List Sh} (a : Bt n h L M sh1 h1) (hm : n ≤ m) (e : sh2 = SH.take m) : Bt m h L M sh2 h1 := ⟨e, a.2.1.up hm, a.2.2.1, a.2.2.2.1, a.2.2.2.2⟩
