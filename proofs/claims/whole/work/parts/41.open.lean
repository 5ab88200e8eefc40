/-! the law's loop, and the claim's walk, from what open and make are owed (my own) -/
theorem XS.ag {h h1 : Hp} {s : St} (X : XS h s) (A : Ag MCells h h1) (f : Fin h1) : XS h1 s := by
  obtain ⟨-, ⟨ra, rc, rs, pm, e1, e2, e3, r1, r2, ⟨sp, lo, r3⟩, r4⟩, o⟩ := X
  have b := pm.b
  have nm : ∀ c, c ≤ 96 → c ∉ MCells := fun c hc q => by
    obtain ⟨k, -, rfl⟩ := List.mem_map.mp q
    omega
  have E : ∀ c, c ≤ 96 → h1.1 c = h.1 c ∧ h1.2.1 c = h.2.1 c := fun c hc => ⟨(A c (nm c hc)).1, (A c (nm c hc)).2.1⟩
  exact ⟨f, ⟨ra, rc, rs, pm, by rw [(E 1 (by decide)).2]; exact e1, by rw [(E 1 (by decide)).2]; exact e2, by rw [(E 1 (by decide)).2]; exact e3, r1.ag (E _ (by omega)) (E _ (by omega)).1, r2.ag (E _ (by omega)) (E _ (by omega)).1, ⟨sp, lo, r3.ag (E _ (by omega)) (E _ (by omega)).1⟩, r4.ag (E 8 (by decide)) (E 9 (by decide)).1⟩, o.cong fun c _ h2 => E c h2⟩
theorem MS.ag {h h1 : Hp} {s : St} (X : MS h s) (A : Ag XCells h h1) (f : Fin h1) : MS h1 s := by
  obtain ⟨-, ⟨⟨a1, a2, a3⟩, ⟨a4, a5, a6⟩, ⟨a7, a8, a9⟩⟩, o⟩ := X
  have nm : ∀ c, 97 ≤ c → c ∉ XCells := fun c hc q => by
    have := List.mem_range.mp q
    omega
  have E : ∀ c, 97 ≤ c → h1.1 c = h.1 c ∧ h1.2.2 c = h.2.2 c := fun c hc => ⟨(A c (nm c hc)).1, (A c (nm c hc)).2.2⟩
  have e97 := (E 97 (by decide)).1
  exact ⟨f, ⟨⟨by rw [e97]; exact a1, a2.of (E 98 (by decide)).1, a3⟩, ⟨by rw [e97]; exact a4, a5.of (E 99 (by decide)).1, a6⟩, ⟨by rw [e97]; exact a7, a8.of (E 100 (by decide)).1, a9⟩⟩, o.cong (fun c h1 _ => E c (by omega)) (by rw [e97]) (by rw [e97])⟩
/-- what open is owed: class and reference do one and the same -/
def OpenOk : Prop := ∃ f : St → Int32 × St, (∀ (w : Wd) (h : Hp) (s : St), XS h s → C_X11_open w SH 1 h (fun r h1 => r = (f s).1 ∧ XS h1 (f s).2 ∧ Ag XCells h h1)) ∧ (∀ (w : Wd) (h : Hp) (s : St), MS h s → C_X12_open w SH 97 h (fun r h1 => r = (f s).1 ∧ MS h1 (f s).2 ∧ Ag MCells h h1))
/-- what make is owed -/
def MakeOk : Prop := ∃ f : St → Int32 → Int32 × St, (∀ (w : Wd) (h : Hp) (s : St) (q : Int32), XS h s → C_X11_make w SH 1 q h (fun r h1 => r = (f s q).1 ∧ XS h1 (f s q).2 ∧ Ag XCells h h1)) ∧ (∀ (w : Wd) (h : Hp) (s : St) (q : Int32), MS h s → C_X12_make w SH 97 q h (fun r h1 => r = (f s q).1 ∧ MS h1 (f s q).2 ∧ Ag MCells h h1))
set_option maxRecDepth 20000 in
set_option maxHeartbeats 8000000 in
theorem law_step (HO : OpenOk) (HM : MakeOk) {w : Wd} {L : Nat} {xs : Nat → Int32} (hL : L ≤ 2048) {i : Nat} (hi : i ≤ 4096) {h : Hp} {s : St} (X0 : XS h s) (M0 : MS h s) {L18 : Nat → Nat → Int32 → Hp → Prop} (ih : ∀ (h2 : Hp) (s2 : St), i + 4 ≤ L → XS h2 s2 → MS h2 s2 → L18 1 97 (nI (i + 4)) h2) : V_L_law_18 w L xs SH 1 97 (nI i) h L18 := by
  obtain ⟨fo, xo, mo⟩ := HO
  obtain ⟨fm, xm, mm⟩ := HM
  have fin : i + 4 ≤ L → ∀ (h2 : Hp) (s2 : St), XS h2 s2 → MS h2 s2 → V_L_law_641 w L xs SH 1 97 (nI i) h2 L18 := by
    intro hl h2 s2 X2 M2
    intro y1 e1
    rw [show (4 : Int32) = nI 4 from rfl, nI_add] at e1
    subst e1
    exact ih h2 s2 hl X2 M2
  refine ⟨fun _ => rfl, fun c => ?_⟩
  have hl : i + 4 ≤ L := by
    have h1 := Int32.not_lt.mp c
    rw [Int32.le_iff_toInt_le, nI_toInt (by omega), ofN, show (4 : Int32) = nI 4 from rfl, pk_sub_toInt (by omega) (by omega)] at h1
    omega
  have q0 : vp_in (nI i) L := vp_in_nI (by omega) (by omega)
  have q1 : vp_in (nI i + 1) L := by rw [nI_1]; exact vp_in_nI (by omega) (by omega)
  have q2 : vp_in (nI i + 2) L := by rw [show (2 : Int32) = nI 2 from rfl, nI_add]; exact vp_in_nI (by omega) (by omega)
  have q3 : vp_in (nI i + 3) L := by rw [show (3 : Int32) = nI 3 from rfl, nI_add]; exact vp_in_nI (by omega) (by omega)
  refine ⟨q0, fun _ => fin hl h s X0 M0, ?_, ?_, ?_, ?_, ?_, ?_, ?_, ?_, ?_, ?_, ?_, ?_, ?_, ?_, ?_, ?_, ?_, ?_, ?_⟩
  · intro _
    refine ⟨q1, q2, q3, rfl, _, X_feed X0 _ _, fun v h1 hp => ?_⟩
    obtain ⟨hv, X1, A1⟩ := hp
    have M1 := M0.ag A1 X1.1
    refine ⟨q1, q2, q3, rfl, _, M_feed M1 _ _, fun v2 h2 hp => ?_⟩
    obtain ⟨hv2, M2, A2⟩ := hp
    exact ⟨fun _ => fin hl h2 _ (X1.ag A2 M2.1) M2, fun ne => absurd (hv.trans hv2.symm) ne⟩
  · intro _
    refine ⟨q1, q2, q3, rfl, _, X_fill X0 _ _ _, fun v h1 hp => ?_⟩
    obtain ⟨hv, X1, A1⟩ := hp
    have M1 := M0.ag A1 X1.1
    refine ⟨q1, q2, q3, rfl, _, M_fill M1 _ _ _, fun v2 h2 hp => ?_⟩
    obtain ⟨hv2, M2, A2⟩ := hp
    exact ⟨fun _ => fin hl h2 _ (X1.ag A2 M2.1) M2, fun ne => absurd (hv.trans hv2.symm) ne⟩
  · intro _
    refine ⟨q1, q2, rfl, _, X_again X0 _ _, fun v h1 hp => ?_⟩
    obtain ⟨hv, X1, A1⟩ := hp
    have M1 := M0.ag A1 X1.1
    refine ⟨q1, q2, rfl, _, M_again M1 _ _, fun v2 h2 hp => ?_⟩
    obtain ⟨hv2, M2, A2⟩ := hp
    exact ⟨fun _ => fin hl h2 _ (X1.ag A2 M2.1) M2, fun ne => absurd (hv.trans hv2.symm) ne⟩
  · intro _
    refine ⟨rfl, _, X_size X0, fun v h1 hp => ?_⟩
    obtain ⟨hv, X1, A1⟩ := hp
    have M1 := M0.ag A1 X1.1
    refine ⟨rfl, _, M_size M1, fun v2 h2 hp => ?_⟩
    obtain ⟨hv2, M2, A2⟩ := hp
    exact ⟨fun _ => fin hl h2 _ (X1.ag A2 M2.1) M2, fun ne => absurd (hv.trans hv2.symm) ne⟩
  · intro _
    refine ⟨q1, q2, rfl, _, X_set X0 _ _, fun v h1 hp => ?_⟩
    obtain ⟨hv, X1, A1⟩ := hp
    have M1 := M0.ag A1 X1.1
    refine ⟨q1, q2, rfl, _, M_set M1 _ _, fun v2 h2 hp => ?_⟩
    obtain ⟨hv2, M2, A2⟩ := hp
    exact ⟨fun _ => fin hl h2 _ (X1.ag A2 M2.1) M2, fun ne => absurd (hv.trans hv2.symm) ne⟩
  · intro _
    refine ⟨q1, rfl, _, X_cut X0 _, fun v h1 hp => ?_⟩
    obtain ⟨hv, X1, A1⟩ := hp
    have M1 := M0.ag A1 X1.1
    refine ⟨q1, rfl, _, M_cut M1 _, fun v2 h2 hp => ?_⟩
    obtain ⟨hv2, M2, A2⟩ := hp
    exact ⟨fun _ => fin hl h2 _ (X1.ag A2 M2.1) M2, fun ne => absurd (hv.trans hv2.symm) ne⟩
  · intro _
    refine ⟨rfl, _, X_swap X0, fun v h1 hp => ?_⟩
    obtain ⟨hv, X1, A1⟩ := hp
    have M1 := M0.ag A1 X1.1
    refine ⟨rfl, _, M_swap M1, fun v2 h2 hp => ?_⟩
    obtain ⟨hv2, M2, A2⟩ := hp
    exact ⟨fun _ => fin hl h2 _ (X1.ag A2 M2.1) M2, fun ne => absurd (hv.trans hv2.symm) ne⟩
  · intro _
    refine ⟨rfl, _, X_differ X0, fun v h1 hp => ?_⟩
    obtain ⟨hv, X1, A1⟩ := hp
    have M1 := M0.ag A1 X1.1
    refine ⟨rfl, _, M_differ M1, fun v2 h2 hp => ?_⟩
    obtain ⟨hv2, M2, A2⟩ := hp
    exact ⟨fun _ => fin hl h2 _ (X1.ag A2 M2.1) M2, fun ne => absurd (hv.trans hv2.symm) ne⟩
  · intro _
    refine ⟨q1, rfl, _, X_out X0 _, fun v h1 hp => ?_⟩
    obtain ⟨hv, X1, A1⟩ := hp
    have M1 := M0.ag A1 X1.1
    refine ⟨q1, rfl, _, M_out M1 _, fun v2 h2 hp => ?_⟩
    obtain ⟨hv2, M2, A2⟩ := hp
    exact ⟨fun _ => fin hl h2 _ (X1.ag A2 M2.1) M2, fun ne => absurd (hv.trans hv2.symm) ne⟩
  · intro _
    refine ⟨rfl, _, X_old X0, fun v h1 hp => ?_⟩
    obtain ⟨hv, X1, A1⟩ := hp
    have M1 := M0.ag A1 X1.1
    refine ⟨rfl, _, M_old M1, fun v2 h2 hp => ?_⟩
    obtain ⟨hv2, M2, A2⟩ := hp
    exact ⟨fun _ => fin hl h2 _ (X1.ag A2 M2.1) M2, fun ne => absurd (hv.trans hv2.symm) ne⟩
  · intro _
    refine ⟨q1, q2, rfl, _, X_given X0 _ _, fun v h1 hp => ?_⟩
    obtain ⟨hv, X1, A1⟩ := hp
    have M1 := M0.ag A1 X1.1
    refine ⟨q1, q2, rfl, _, M_given M1 _ _, fun v2 h2 hp => ?_⟩
    obtain ⟨hv2, M2, A2⟩ := hp
    exact ⟨fun _ => fin hl h2 _ (X1.ag A2 M2.1) M2, fun ne => absurd (hv.trans hv2.symm) ne⟩
  · intro _
    refine ⟨q1, q2, q3, rfl, _, X_entry X0 _ _ _, fun v h1 hp => ?_⟩
    obtain ⟨hv, X1, A1⟩ := hp
    have M1 := M0.ag A1 X1.1
    refine ⟨q1, q2, q3, rfl, _, M_entry M1 _ _ _, fun v2 h2 hp => ?_⟩
    obtain ⟨hv2, M2, A2⟩ := hp
    exact ⟨fun _ => fin hl h2 _ (X1.ag A2 M2.1) M2, fun ne => absurd (hv.trans hv2.symm) ne⟩
  · intro _
    refine ⟨q1, rfl, _, xm w _ _ _ X0, fun v h1 hp => ?_⟩
    obtain ⟨hv, X1, A1⟩ := hp
    have M1 := M0.ag A1 X1.1
    refine ⟨q1, rfl, _, mm w _ _ _ M1, fun v2 h2 hp => ?_⟩
    obtain ⟨hv2, M2, A2⟩ := hp
    exact ⟨fun _ => fin hl h2 _ (X1.ag A2 M2.1) M2, fun ne => absurd (hv.trans hv2.symm) ne⟩
  · intro _
    refine ⟨rfl, _, xo w _ _ X0, fun v h1 hp => ?_⟩
    obtain ⟨hv, X1, A1⟩ := hp
    have M1 := M0.ag A1 X1.1
    refine ⟨rfl, _, mo w _ _ M1, fun v2 h2 hp => ?_⟩
    obtain ⟨hv2, M2, A2⟩ := hp
    exact ⟨fun _ => fin hl h2 _ (X1.ag A2 M2.1) M2, fun ne => absurd (hv.trans hv2.symm) ne⟩
  · intro _
    refine ⟨rfl, _, X_place X0, fun v h1 hp => ?_⟩
    obtain ⟨hv, X1, A1⟩ := hp
    have M1 := M0.ag A1 X1.1
    refine ⟨rfl, _, M_place M1, fun v2 h2 hp => ?_⟩
    obtain ⟨hv2, M2, A2⟩ := hp
    exact ⟨fun _ => fin hl h2 _ (X1.ag A2 M2.1) M2, fun ne => absurd (hv.trans hv2.symm) ne⟩
  · intro _
    refine ⟨q1, rfl, _, X_told X0 _, fun v h1 hp => ?_⟩
    obtain ⟨hv, X1, A1⟩ := hp
    have M1 := M0.ag A1 X1.1
    refine ⟨q1, rfl, _, M_told M1 _, fun v2 h2 hp => ?_⟩
    obtain ⟨hv2, M2, A2⟩ := hp
    exact ⟨fun _ => fin hl h2 _ (X1.ag A2 M2.1) M2, fun ne => absurd (hv.trans hv2.symm) ne⟩
  · intro _
    refine ⟨q1, q2, rfl, _, X_instruction X0 _ _, fun v h1 hp => ?_⟩
    obtain ⟨hv, X1, A1⟩ := hp
    have M1 := M0.ag A1 X1.1
    refine ⟨q1, q2, rfl, _, M_instruction M1 _ _, fun v2 h2 hp => ?_⟩
    obtain ⟨hv2, M2, A2⟩ := hp
    exact ⟨fun _ => fin hl h2 _ (X1.ag A2 M2.1) M2, fun ne => absurd (hv.trans hv2.symm) ne⟩
  · intro _
    refine ⟨q1, q2, rfl, _, X_table X0 _ _, fun v h1 hp => ?_⟩
    obtain ⟨hv, X1, A1⟩ := hp
    have M1 := M0.ag A1 X1.1
    refine ⟨q1, q2, rfl, _, M_table M1 _ _, fun v2 h2 hp => ?_⟩
    obtain ⟨hv2, M2, A2⟩ := hp
    exact ⟨fun _ => fin hl h2 _ (X1.ag A2 M2.1) M2, fun ne => absurd (hv.trans hv2.symm) ne⟩
  · intro _
    refine ⟨q1, q2, rfl, _, X_cache X0 _ _, fun v h1 hp => ?_⟩
    obtain ⟨hv, X1, A1⟩ := hp
    have M1 := M0.ag A1 X1.1
    refine ⟨q1, q2, rfl, _, M_cache M1 _ _, fun v2 h2 hp => ?_⟩
    obtain ⟨hv2, M2, A2⟩ := hp
    exact ⟨fun _ => fin hl h2 _ (X1.ag A2 M2.1) M2, fun ne => absurd (hv.trans hv2.symm) ne⟩
theorem FinAll {h0 h1 h2 : Hp} (z0 : ∀ c k, h0.2.1 c k = 0) (e1 : h1.2.1 = uR (uR h0.2.1 LX1) LX2) (e2 : h2.2.1 = uR h1.2.1 LM1) : Fin h2 := by
  have hz : h0.2.1 = fun _ _ => 0 := funext fun c => funext fun k => z0 c k
  have key : ∀ q ∈ FINS, uR (uR (uR (fun _ _ => 0) LX1) LX2) LM1 q.1 q.2.1 = q.2.2 := by decide +kernel
  intro q hq
  rw [e2, e1, hz]
  exact key q hq
theorem LM1_x : ∀ q ∈ LM1, 97 ≤ q.1 := by decide +kernel
theorem uR_far {L : List (Nat × Nat × Nat)} {f : Nat → Nat → Nat} {c : Nat} (h : ∀ q ∈ L, q.1 ≠ c) : uR f L c = f c := by
  induction L generalizing f with
  | nil => rfl
  | cons q L ih =>
    show uR (fun a j => if a = q.1 ∧ j = q.2.1 then q.2.2 else f a j) L c = f c
    rw [ih (fun p hp => h p (List.mem_cons_of_mem _ hp))]
    funext j
    have := h q List.mem_cons_self
    simp [Ne.symm this]
set_option maxRecDepth 20000 in
set_option maxHeartbeats 8000000 in
theorem whole_open (HO : OpenOk) (HM : MakeOk) {p : Program} {e : Env} {s : State} {m : MethodId} {below : List Frame} {meth : Method} {c : Code} (l : Launch) {b L : Nat} {xs : Nat → Int32} (hL : L ≤ 2048) (C0 : lw_At p s m meth c b L xs) : W p l e room_1 s m #[Value.ref b] below meth c s.heap [] 0 0 (lw_Z below #[Value.ref b] s) (entryFrame m ([Value.ref b] : List Value).toArray 4) := by
  obtain ⟨hx, hb, hr, hml, hown, hts, hX, hbl, hlocks, hgv⟩ := id C0
  have hta : ∀ w ∈ ALLW, w.before #[Value.ref b] s = true := fun w hw => hts w (List.mem_filter.mp hw).1
  have hnest : Nst s := fun x hx => by
    rcases nest_cases (List.mem_filter.mp hx).2 with ⟨a, i, b', n, d, k, rfl⟩ | ⟨a, i, y, k, rfl⟩
    · exact va_Nw.of rfl (hts _ (List.mem_filter.mp hx).1)
    · exact va_Nw.of rfl (hts _ (List.mem_filter.mp hx).1)
  obtain ⟨c0, iS0, hKn0⟩ := u_known (C := RX0) (T := TX0) (N := 5) (n := 5) hta inU_X0 (hta _ (inT1 (List.mem_of_getElem? (i := 89) rfl) rfl))
  obtain ⟨c1, iS1, hKn1⟩ := u_known (C := RX1) (T := TX1) (N := 2) (n := 2) hta inU_X1 (hta _ (inT1 (List.mem_of_getElem? (i := 170) rfl) rfl))
  obtain ⟨c2, iS2, hKn2⟩ := u_known (C := RX2) (T := TX2) (N := 3) (n := 3) hta inU_X2 (hta _ (inT2 (List.mem_of_getElem? (i := 24) rfl) rfl))
  obtain ⟨c3, iS3, hKn3⟩ := u_known (C := RX3) (T := TX3) (N := 6) (n := 6) hta inU_X3 (hta _ (inT1 (List.mem_of_getElem? (i := 122) rfl) rfl))
  obtain ⟨c4, iS4, hKn4⟩ := u_known (C := RX4) (T := TX4) (N := 3) (n := 3) hta inU_X4 (hta _ (inT1 (List.mem_of_getElem? (i := 71) rfl) rfl))
  obtain ⟨c5, iS5, hKn5⟩ := u_known (C := RX5) (T := TX5) (N := 7) (n := 7) hta inU_X5 (hta _ (inT1 (List.mem_of_getElem? (i := 116) rfl) rfl))
  obtain ⟨c6, iS6, hKn6⟩ := u_known (C := RX6) (T := TX6) (N := 4) (n := 4) hta inU_X6 (hta _ (inT1 (List.mem_of_getElem? (i := 151) rfl) rfl))
  obtain ⟨c7, iS7, hKn7⟩ := u_known (C := RX7) (T := TX7) (N := 19) (n := 19) hta inU_X7 (hta _ (inT2 (List.mem_of_getElem? (i := 18) rfl) rfl))
  obtain ⟨c8, iS8, hKn8⟩ := u_known (C := RX8) (T := TX8) (N := 3) (n := 3) hta inU_X8 (hta _ (inT1 (List.mem_of_getElem? (i := 26) rfl) rfl))
  obtain ⟨c9, iS9, hKn9⟩ := u_known (C := RX9) (T := TX9) (N := 5) (n := 5) hta inU_X9 (hta _ (inT2 (List.mem_of_getElem? (i := 45) rfl) rfl))
  obtain ⟨c10, iS10, hKn10⟩ := u_known (C := RX10) (T := TX10) (N := 3) (n := 3) hta inU_X10 (hta _ (inT1 (List.mem_of_getElem? (i := 46) rfl) rfl))
  obtain ⟨c11, iS11, hKn11⟩ := u_known (C := RX11) (T := TX11) (N := 13) (n := 13) hta inU_X11 (hta _ (inT1 (List.mem_of_getElem? (i := 18) rfl) rfl))
  obtain ⟨c12, iS12, hKn12⟩ := u_known (C := RX12) (T := TX12) (N := 61) (n := 61) hta inU_X12 (hta _ (inT4 (List.mem_of_getElem? (i := 184) rfl) rfl))
  obtain ⟨dC, dI, hKc⟩ : ∃ (dC : Nat → ClassId) (dI : Nat → Nat → Nat), ∀ (k : Nat) (q : vw_C), cls[k]? = some q → u_Kn s q.1 q.2.1 q.2.2 (dC k) (dI k) := by
    refine ⟨fun k => [c0, c1, c2, c3, c4, c5, c6, c7, c8, c9, c10, c11, c12].getD k c0, fun k => [iS0, iS1, iS2, iS3, iS4, iS5, iS6, iS7, iS8, iS9, iS10, iS11, iS12].getD k iS0, ?_⟩
    intro k q hq
    match k, hq with
    | 0, hq => cases hq; exact hKn0
    | 1, hq => cases hq; exact hKn1
    | 2, hq => cases hq; exact hKn2
    | 3, hq => cases hq; exact hKn3
    | 4, hq => cases hq; exact hKn4
    | 5, hq => cases hq; exact hKn5
    | 6, hq => cases hq; exact hKn6
    | 7, hq => cases hq; exact hKn7
    | 8, hq => cases hq; exact hKn8
    | 9, hq => cases hq; exact hKn9
    | 10, hq => cases hq; exact hKn10
    | 11, hq => cases hq; exact hKn11
    | 12, hq => cases hq; exact hKn12
    | k + 13, hq => simp [cls] at hq
  obtain ⟨a0, kA0, cm0, ha0, hk0, hd0⟩ := Cond.arrayClass_spec (hta (.arrayClass .byte) (inT1 (List.mem_of_getElem? (i := 44) rfl) rfl))
  obtain ⟨a1, kA1, cm1, ha1, hk1, hd1⟩ := Cond.arrayClass_spec (hta (.arrayClass .int) (inT1 (List.mem_of_getElem? (i := 87) rfl) rfl))
  obtain ⟨a2, kA2, cm2, ha2, hk2, hd2⟩ := Cond.arrayClass_spec (hta (.arrayClass .long) (inT5 (List.mem_of_getElem? (i := 153) rfl) rfl))
  have hK : va_K (dC, dI) cls (tysOf (fun t => if t = 0 then a0 else if t = 1 then a1 else a2)) s := by
    refine ⟨hKc, fun k q hq => ?_⟩
    match k, hq with
    | 0, hq => cases hq; exact ⟨fun n z => ⟨fun k h => (by cases h), kA0, hk0, cm0, hd0⟩, ha0⟩
    | 1, hq => cases hq; exact ⟨fun n z => ⟨fun k h => (by cases h), kA1, hk1, cm1, hd1⟩, ha1⟩
    | 2, hq => cases hq; exact ⟨fun n z => ⟨fun k h => (by cases h), kA2, hk2, cm2, hd2⟩, ha2⟩
    | k + 3, hq => simp [tysOf] at hq
  obtain ⟨w, hw⟩ : ∃ w : Wd, w = (l, (dC, dI), (fun t => if t = 0 then a0 else if t = 1 then a1 else a2), s.heap.size - 1) := ⟨_, rfl⟩
  obtain ⟨E, hE⟩ : ∃ E : GE, E = (p, e, room_1, s, m, #[Value.ref b], below, meth, c, lw_Z below #[Value.ref b] s) := ⟨_, rfl⟩
  have hb1 : w.2.2.2 + 1 = s.heap.size := by rw [hw]; show s.heap.size - 1 + 1 = _; omega
  have X : Cx w E code 4 RL := by
    rw [hE]
    refine ⟨hx, hb, hml, hown, hta, ?_, by show w.2.2.2 < s.heap.size; omega, hnest⟩
    rw [hw]; exact hK
  have S9 : Scr w E b L xs := by rw [hE]; exact ⟨hX, hbl, by omega⟩
  have RQ : LwQ w E b := by rw [hE]; exact ⟨rfl, hr, hlocks, rfl, rfl, hb1.symm⟩
  have hR : gR E = room_1 := by rw [hE]
  have hl := lv_entry ([Value.ref b]) (n := 4) (Nat.le_of_ble_eq_true rfl)
  rw [lg_entry_eq]
  generalize (lg_sl ([Value.ref b]) ++ List.replicate (4 - (lg_sl ([Value.ref b])).length) Slot.unset).toArray = ls at hl ⊢
  have hl : lv_has ls 4 [(0, Value.ref b)] := hl
  suffices hG : G w E 4 0 [(0, Value.ref b)] [] [] ((fun _ _ => 0, fun _ _ => 0, fun _ _ => 0) : Hp) 0 0 by
    have h9 := hG s.heap [] ls (fun k q h => by simp [wld] at h) (by rw [hE]; show s.heap.size + 0 = w.2.2.2 + 1 + 0; omega) (by rw [hE]; exact va_S.rf) hl
    rw [hE, hw] at h9
    exact h9
  obtain ⟨h0, eh0⟩ : ∃ z : Hp, z = (fun _ _ => 0, fun _ _ => 0, fun _ _ => 0) := ⟨_, rfl⟩
  rw [← eh0]
  have Z0 : Zr 0 h0 := fun c _ k => by rw [eh0]; exact ⟨rfl, rfl, rfl⟩
  have z0 : ∀ c k, h0.2.1 c k = 0 := fun c k => by rw [eh0]
  -- the loop
  have loop : ∀ (n i : Nat) (h : Hp) (st : St), i ≤ L + 3 → L + 4 ≤ i + n → XS h st → MS h st → G w E 4 18 [(0, Value.ref b), (1, rv w.2.2.2 1), (2, rv w.2.2.2 97), (3, Value.int (nI i))] [] SH h 125 287739 := by
    intro n
    induction n with
    | zero => intro i h st h1 h2; omega
    | succ n ihn =>
      intro i h st hi hn X1 M1
      refine W_L_law_18 (x1 := 1) (x2 := 97) (x3 := nI i) (L18 := fun x1 x2 x3 h2 => ∃ (st2 : St), x1 = 1 ∧ x2 = 97 ∧ i + 4 ≤ L ∧ x3 = nI (i + 4) ∧ XS h2 st2 ∧ MS h2 st2) X S9 RQ hR ?_ ?_
      · rintro x1 x2 x3 h2 ⟨st2, rfl, rfl, hle, rfl, X2, M2⟩
        exact ihn (i + 4) h2 st2 (by omega) (by omega) X2 M2
      · exact law_step HO HM hL (by omega) X1 M1 (fun h2 s2 hle X2 M2 => ⟨s2, rfl, rfl, hle, rfl, X2, M2⟩)
  refine g_new (pc := 0) X cl_L_7 (fun k => ⟨(Z0 _ (by decide) k).1, (Z0 _ (by decide) k).2.1⟩) (by rw [hR]; exact ⟨by decide, by decide⟩) dL_law_0 ?_
  refine g_dup (pc := 3) X dL_law_3 (rv_cat _ _) ?_
  refine g_invI (pc := 4) X (r := 1) (As := []) ml_L_9 (s0 := .inr 11) rfl (X_init (w := w) Z0) (by rw [hR]; exact ⟨by decide, by decide, by decide, by decide⟩) rfl rfl (by simp [rv_cat]) dL_law_4 ?_
  rintro q sh1 h1 ⟨rfl, rfl, Z1, eR1, xa, xo⟩
  refine g_eq (pc2 := 7) (st2 := [rv w.2.2.2 1]) rfl rfl ?_
  refine g_astore_n (pc := 7) X (i := 1) (rest := [(0, Value.ref b)]) rfl (by decide) rfl dL_law_7 (fun y ey => ?_)
  subst ey
  refine g_new (pc := 8) X cl_L_10 (fun k => ⟨(Z1 _ (by decide) k).1, (Z1 _ (by decide) k).2.1⟩) (by rw [hR]; exact ⟨by decide, by decide⟩) dL_law_8 ?_
  refine g_dup (pc := 11) X dL_law_11 (rv_cat _ _) ?_
  refine g_invI (pc := 12) X (r := 97) (As := []) ml_L_12 (s0 := .inr 12) rfl (M_init (w := w) Z1) (by rw [hR]; exact ⟨by decide, by decide, by decide, by decide⟩) rfl rfl (by simp [rv_cat]) dL_law_12 ?_
  rintro q sh2 h2 ⟨rfl, rfl, eR2, ke, ma, mo⟩
  refine g_eq (pc2 := 15) (st2 := [rv w.2.2.2 97]) rfl rfl ?_
  refine g_astore_n (pc := 15) X (i := 2) (rest := [(1, rv w.2.2.2 1), (0, Value.ref b)]) rfl (by decide) (by simp [flt1, rv_cat]) dL_law_15 (fun y ey => ?_)
  subst ey
  refine g_iconst (pc := 16) (v := (0 : Int32)) X dL_law_16 (by decide) ?_
  refine g_istore_n (pc := 17) X (i := 3) (rest := [(2, rv w.2.2.2 97), (1, rv w.2.2.2 1), (0, Value.ref b)]) rfl (by decide) (by simp [flt1, rv_cat]) dL_law_17 (fun y ey => ?_)
  subst ey
  refine g_lv [3, 2, 1, 0] rfl ?_
  have F2 : Fin h2 := FinAll z0 eR1 eR2
  have rx : ∀ q, q ≤ 96 → h2.2.1 q = h1.2.1 q := fun q hq => by
    rw [eR2]
    exact uR_far (fun p hp e => by have := LM1_x p hp; omega)
  have xa2 : XA h2 [] [] [] := by
    obtain ⟨ra, rc, rs, pm, e1, e2, e3, r1, r2, ⟨sp, lo, r3⟩, r4⟩ := xa
    have b := pm.b
    exact ⟨ra, rc, rs, pm, by rw [rx 1 (by decide)]; exact e1, by rw [rx 1 (by decide)]; exact e2, by rw [rx 1 (by decide)]; exact e3, r1.ag ⟨(ke _ (by omega)).1, rx _ (by omega)⟩ (ke _ (by omega)).1, r2.ag ⟨(ke _ (by omega)).1, rx _ (by omega)⟩ (ke _ (by omega)).1, ⟨sp, lo, r3.ag ⟨(ke _ (by omega)).1, rx _ (by omega)⟩ (ke _ (by omega)).1⟩, r4.ag ⟨(ke 8 (by decide)).1, rx 8 (by decide)⟩ (ke 9 (by decide)).1⟩
  have xo2 : XO h2 (UBy, 4, 3) oi0 := xo.cong fun c _ hc => ⟨(ke c hc).1, rx c hc⟩
  exact loop (L + 5) 0 h2 ([], [], [], (UBy, 4, 3), oi0) (by omega) (by omega) ⟨F2, xa2, xo2⟩ ⟨F2, ma, mo⟩
