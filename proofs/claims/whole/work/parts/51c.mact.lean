/-! the reference: one instruction (my own) -/
theorem ActV.push {h h1 : Hp} {ac : AcL} (V : ActV h ac) (hl : ac.length < 2000) (x : Nat × Nat × Int32 × Nat) (e0 : h1.1 97 31 = nI (ac.length + 1)) (e1 : ∀ j, h1.1 111 j = if j = ac.length then nI x.1 else h.1 111 j) (e2 : ∀ j, h1.1 112 j = if j = ac.length then nI x.2.1 else h.1 112 j) (e3 : ∀ j, h1.1 113 j = if j = ac.length then x.2.2.1 else h.1 113 j) (e4 : ∀ j, h1.1 114 j = if j = ac.length then nI x.2.2.2 else h.1 114 j) : ActV h1 (ac ++ [x]) := by
  obtain ⟨v1, v2, v3⟩ := V
  refine ⟨by rw [e0]; simp, by simp; omega, fun i hi => ?_⟩
  rw [e1, e2, e3, e4]
  simp at hi
  by_cases hi2 : i = ac.length
  · subst hi2
    rw [if_pos rfl, if_pos rfl, if_pos rfl, if_pos rfl]
    simp
  · rw [if_neg hi2, if_neg hi2, if_neg hi2, if_neg hi2, List.getElem_append_left (by omega)]
    exact v3 i (by omega)
def AK : List Nat := [6, 7, 14, 26, 29, 31, 36, 37, 38, 40]
def AS : List Nat := [107, 110, 111, 112, 113, 114]
def AL : List Nat := [108, 109]
theorem wI_if {h : Hp} {c k j : Nat} {v : Int32} : (wI h c k v).1 c j = if j = k then v else h.1 c j := by
  by_cases q : j = k
  · subst q; rw [wI_same, if_pos rfl]
  · rw [wI_idx q, if_neg q]
theorem M_act302 {w : Wd} {h : Hp} {t : Nat} {c : Wc} {s : Wst} (X : MR h t c s) (kind mode n inc : Nat) (x9 : Int64) (hk : kind = 1 ∨ kind = 2 ∨ kind = 3) (hn : n < 2 ^ 31) (hm : mode < 2 ^ 31) (hi : s.da + inc ≤ c.dE) {L : Nat → Int32 → Int32 → Int64 → Int64 → Int32 → Hp → Prop} {R : Hp → Prop} (k : ∀ h1, MR h1 t c (((s.sda (s.da + inc)).stl (thrT c.own s.tl kind n)).sac (thrA c.own s.ac kind n x9.toInt32 (if kind = 3 then mode else 0))) → Fm AK AS AL h h1 → h1.1 97 6 = h.1 97 6 → R h1) : V_X12_act_302 w SH 97 (nI kind) (nI mode) (lN n) x9 (nI inc) (h.1 97 38) 97 h L R := by
  have f := X.r.1
  have k30 := fx f 97 30 110 (by decide +kernel)
  have k32 := fx f 97 32 111 (by decide +kernel)
  have k33 := fx f 97 33 112 (by decide +kernel)
  have k34 := fx f 97 34 113 (by decide +kernel)
  have k35 := fx f 97 35 114 (by decide +kernel)
  rw [X.i38]
  refine ⟨rfl, fun h2 e2 => ⟨rfl, ?_⟩⟩
  rw [nI_add] at e2
  have F2 : Fm [38] [] [] h h2 := by rw [e2]; exact Fm.rf.put (by simp)
  have X2 : MR h2 t c (s.sda (s.da + inc)) := X.da F2 (by rw [e2, wI_same]) hi
  have G2 : Fm AK AS AL h h2 := F2.mono (by decide) (by decide) (by decide)
  rw [X2.i19]
  cases ho : c.own with
  | false =>
    rw [ho] at k
    refine ⟨fun c7 => absurd (if_neg (by simp)) c7, fun _ => k h2 ?_ G2 (F2.2.2.2 6 (by decide))⟩
    exact X2
  | true =>
  rw [ho] at k
  refine ⟨fun _ => ?_, fun c7 => absurd c7 (by rw [if_pos rfl]; decide)⟩
  have hk8 : kind < 8 := by omega
  rw [k30, nI_clamp (by omega)]
  refine ⟨8, rfl, vp_in_nI hk8 (by decide), vp_in_nI hk8 (by decide), fun h10 e10 => ⟨vp_in_nI (n := 5) (by decide) (by decide), vp_in_nI (n := 5) (by decide) (by decide), fun h14 e14 => ?_⟩⟩
  have cl5 : (5 : Int32).toNatClampNeg = 5 := by decide
  rw [cl5, lN_i] at e14
  have t14 : ∀ j, j < 8 → h14.1 110 j = nI (thrT true s.tl kind n j) := by
    intro j hj
    unfold thrT cntP
    rw [if_pos rfl, if_pos rfl]
    unfold updN
    rw [e14, wI_if, e10, wI_if, wI_if, X2.tl kind hk8, X2.tl 5 (by decide), nI_1]
    show (if j = 5 then (if 5 = kind then nI (s.tl kind + 1) else nI (s.tl 5)) + nI n else if j = kind then nI (s.tl kind + 1) else h2.1 110 j) = _
    rw [if_neg (show ¬ 5 = kind by omega), X2.tl j hj]
    by_cases j5 : j = 5
    · rw [if_pos j5, if_pos j5, if_neg (by omega), nI_add]
    · rw [if_neg j5, if_neg j5]
      by_cases jk : j = kind
      · rw [if_pos jk, if_pos jk]
      · rw [if_neg jk, if_neg jk]
  have F14 : Fm [31] [110, 111, 112, 113, 114] [] h2 h14 := by rw [e14, e10]; exact (Fm.rf.putC (by decide) (by simp)).putC (by decide) (by simp)
  have A14 : ActV h14 s.ac := X2.ac.fm (K := []) (S := [110]) (L := []) (by rw [e14, e10]; exact (Fm.rf.putC (by decide) (by simp)).putC (by decide) (by simp)) (by decide) (by decide) (by decide) (by decide) (by decide)
  have hal := A14.2.1
  rw [A14.1, show (2000 : Int32) = nI 2000 from rfl, nI_leI (by omega) (by omega)]
  refine ⟨fun c7 => ?_, fun c7 => ?_⟩
  · refine k h14 ?_ (G2.tr (F14.mono (by decide) (by decide) (by decide))) ((F14.2.2.2 6 (by decide)).trans (F2.2.2.2 6 (by decide)))
    have := X2.lg F14 t14 A14
    unfold thrA
    rw [if_neg (by simp; omega)]
    exact this
  · rw [k32, k33, k34, k35, nI_clamp (by omega)]
    refine ⟨2000, rfl, vp_in_nI (by omega) (by decide), fun h20 e20 => ?_⟩
    have i20 : h20.1 97 31 = nI s.ac.length := by rw [e20, wI_cell (by decide)]; exact A14.1
    rw [i20, nI_clamp (by omega)]
    refine ⟨2000, rfl, vp_in_nI (by omega) (by decide), fun h25 e25 => ?_⟩
    have i25 : h25.1 97 31 = nI s.ac.length := by rw [e25, wI_cell (by decide)]; exact i20
    rw [i25, nI_clamp (by omega)]
    refine ⟨2000, rfl, vp_in_nI (by omega) (by decide), fun h30 e30 => ?_⟩
    have i30 : h30.1 97 31 = nI s.ac.length := by rw [e30, wI_cell (by decide)]; exact i25
    rw [i30]
    have last : ∀ m : Nat, m = (if kind = 3 then mode else 0) → V_X12_act_398 w SH 97 (nI m) (nI s.ac.length) 114 h30 L R := by
      intro m em
      refine ⟨2000, rfl, vp_in_nI (by omega) (by decide), fun h4 e4 => ⟨rfl, fun h7 e7 => ?_⟩⟩
      rw [nI_clamp (by omega)] at e4
      have i4 : h4.1 97 31 = nI s.ac.length := by rw [e4, wI_cell (by decide)]; exact i30
      rw [i4, nI_1] at e7
      rw [lN_i] at e25
      have FF : Fm [31] [110, 111, 112, 113, 114] [] h2 h7 := by
        rw [e7, e4, e30, e25, e20]
        exact ((((F14.putC (by decide) (by simp)).putC (by decide) (by simp)).putC (by decide) (by simp)).putC (by decide) (by simp)).put (by simp)
      have c111 : ∀ j, h7.1 111 j = if j = s.ac.length then nI kind else h14.1 111 j := fun j => by
        rw [e7, wI_cell (by decide), e4, wI_cell (by decide), e30, wI_cell (by decide), e25, wI_cell (by decide), e20, wI_if]
      have c112 : ∀ j, h7.1 112 j = if j = s.ac.length then nI n else h14.1 112 j := fun j => by
        rw [e7, wI_cell (by decide), e4, wI_cell (by decide), e30, wI_cell (by decide), e25, wI_if, e20, wI_cell (by decide)]
      have c113 : ∀ j, h7.1 113 j = if j = s.ac.length then x9.toInt32 else h14.1 113 j := fun j => by
        rw [e7, wI_cell (by decide), e4, wI_cell (by decide), e30, wI_if, e25, wI_cell (by decide), e20, wI_cell (by decide)]
      have c114 : ∀ j, h7.1 114 j = if j = s.ac.length then nI m else h14.1 114 j := fun j => by
        rw [e7, wI_cell (by decide), e4, wI_if, e30, wI_cell (by decide), e25, wI_cell (by decide), e20, wI_cell (by decide)]
      have A7 : ActV h7 (s.ac ++ [(kind, n, x9.toInt32, m)]) := A14.push (by omega) (kind, n, x9.toInt32, m) (by rw [e7, wI_same]) c111 c112 c113 c114
      have t7 : ∀ j, j < 8 → h7.1 110 j = nI (thrT true s.tl kind n j) := fun j hj => by
        rw [e7, wI_cell (by decide), e4, wI_cell (by decide), e30, wI_cell (by decide), e25, wI_cell (by decide), e20, wI_cell (by decide)]
        exact t14 j hj
      refine k h7 ?_ (G2.tr (FF.mono (by decide) (by decide) (by decide))) ((FF.2.2.2 6 (by decide)).trans (F2.2.2.2 6 (by decide)))
      have := X2.lg FF t7 A7
      unfold thrA
      rw [if_pos ⟨rfl, by omega⟩, ← em]
      exact this
    rw [show (3 : Int32) = nI 3 from rfl, nI_eq (by omega) (by omega)]
    refine ⟨fun c8 => last 0 (by rw [if_neg c8]), fun c8 => last mode (by rw [if_pos c8])⟩
/-- bytes that follow one another -/
def spG (g : Nat → List Nat → Nat) : Nat → Nat → List Nat → List Nat
  | _, 0, l => l
  | k, n + 1, l => spG g (k + 1) n (l ++ [g k l])
theorem spG_len (g : Nat → List Nat → Nat) : ∀ (n k : Nat) (l : List Nat), (spG g k n l).length = l.length + n
  | 0, _, _ => rfl
  | n + 1, k, l => by rw [spG, spG_len]; simp; omega
theorem spG_copy (a : Nat) : ∀ (n k : Nat) (l : List Nat), spG (fun k l => l.getD (a + k) 0) k n l = copyL (a + k) n l
  | 0, _, _ => rfl
  | n + 1, k, l => by rw [spG, copyL, spG_copy, Nat.add_assoc]
theorem spG_run (b : Nat) : ∀ (n k : Nat) (l : List Nat), spG (fun _ _ => b) k n l = l ++ List.replicate n b
  | 0, _, _ => by simp [spG]
  | n + 1, k, l => by rw [spG, spG_run, List.append_assoc]; rfl
theorem spG_add (src : List Nat) (d : Nat) : ∀ (n k : Nat) (l : List Nat), d + k + n ≤ src.length → spG (fun k _ => src.getD (d + k) 0) k n l = l ++ (src.drop (d + k)).take n
  | 0, _, _, _ => by simp [spG]
  | n + 1, k, l, h => by
    rw [spG, spG_add src d n (k + 1) _ (by omega), List.append_assoc]
    congr 1
    have h1 : d + k < src.length := by omega
    rw [List.drop_eq_getElem_cons h1, List.take_succ_cons, getD_at h1]
    rfl
theorem b8_by {h : Hp} {a j : Nat} {bs : List Nat} (B : ByV h a bs) (hj : j < bs.length) : un (b8 (h.1 a j)) = bs.getD j 0 := by
  rw [un_b8, B j hj, getD_at hj]
