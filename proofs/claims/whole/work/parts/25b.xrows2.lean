/-! swap -/
theorem wR_1 {h : Hp} {c k r : Nat} : (wR h c k r).1 = h.1 := rfl
theorem wR_same {h : Hp} {c k r : Nat} : (wR h c k r).2.1 c k = r := by simp [wR]
theorem wR_idx {h : Hp} {c k j r : Nat} (hj : j ≠ k) : (wR h c k r).2.1 c j = h.2.1 c j := by simp [wR, hj]
theorem wR_cell {h : Hp} {c k d r : Nat} (hd : d ≠ c) : (wR h c k r).2.1 d = h.2.1 d := by funext j; simp [wR, hd]
theorem FINS_1 : ∀ q ∈ FINS, q.1 = 1 → 3 ≤ q.2.1 := by decide +kernel
theorem X_swap {w : Wd} {h : Hp} {s : St} (X : XS h s) : C_X11_swap w SH 1 h (fun r h1 => r = nI s.2.1.length ∧ XS h1 (s.2.1, s.1, s.2.2) ∧ Ag XCells h h1) := by
  obtain ⟨f, ⟨ra, rc, rs, pm, e1, e2, e3, r1, r2, ⟨sp, lo, r3⟩, r4⟩, o⟩ := X
  have b := pm.b
  refine K_X11_swap ⟨rfl, fun y2 ey2 h4 e4 h6 e6 => ?_⟩
  rw [e1] at ey2
  rw [e2] at e4
  have hI : h6.1 = h.1 := by rw [e6, e4]; rfl
  have hJ : h6.2.2 = h.2.2 := by rw [e6, e4]; rfl
  have hR : ∀ c, c ≠ 1 → h6.2.1 c = h.2.1 c := fun c hc => by rw [e6, e4, wR_cell hc, wR_cell hc]
  have k0 : h6.2.1 1 0 = rc := by rw [e6, wR_idx (by decide), e4, wR_same]
  have k1 : h6.2.1 1 1 = ra := by rw [e6, wR_same, ey2]
  have kn : ∀ k, k ≠ 0 → k ≠ 1 → h6.2.1 1 k = h.2.1 1 k := fun k h0 h1 => by rw [e6, wR_idx h1, e4, wR_idx h0]
  have rr : ∀ {r a N : Nat} {bs : List Nat} {l : Bool}, r ≠ 1 → RowV SH h r a N bs l → RowV SH h6 r a N bs l := fun hr R => R.ag ⟨by rw [hI], hR _ hr⟩ (by rw [hI])
  have rc' := rr (by omega) r2
  refine ⟨by rw [k0]; exact r2.1, _, by rw [k0]; exact S_length rc', fun v13 h12 hp => ?_⟩
  obtain ⟨rfl, rfl⟩ := hp
  refine ⟨rfl, ⟨fun q hq => ?_, ⟨rc, ra, rs, ?_, k0, k1, by rw [kn 2 (by decide) (by decide)]; exact e3, rc', rr (by omega) r1, ⟨sp, lo, rr (by omega) r3⟩, rr (by decide) r4⟩, o.cong fun c h1 h2 => ⟨by rw [hI], hR c (by omega)⟩⟩, fun c hc => ?_⟩
  · by_cases hq1 : q.1 = 1
    · have := FINS_1 q hq hq1
      rw [hq1, kn _ (by omega) (by omega), ← hq1]; exact f q hq
    · rw [hR _ hq1]; exact f q hq
  · have := pm.cs
    simp only [PermR, List.mem_cons, List.mem_nil_iff, or_false, Prod.mk.injEq]
    omega
  · have : c ≠ 1 := fun q => hc (q ▸ mem_X (by decide))
    exact ⟨by rw [hI], hR c this, by rw [hJ]⟩
