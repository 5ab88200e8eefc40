/-! out, old -/
def outF (came : List Nat) (i : Int32) : Int32 := if i < 0 ∨ came.length ≤ i.toNatClampNeg then -2 else nI (came.getD i.toNatClampNeg 0)
theorem X_out {w : Wd} {h : Hp} {s : St} (X : XS h s) (i : Int32) : C_X11_out w SH 1 i h (fun r h1 => r = outF s.2.1 i ∧ XS h1 s ∧ Ag XCells h h1) := by
  obtain ⟨rc, ec, b3, b4, Rc⟩ := X.getC
  have hM := Rc.2.2.2.2.1
  unfold outF
  refine K_X11_out ⟨fun c => ?_, fun c => ?_⟩
  · rw [if_pos (Or.inl c)]; exact ⟨rfl, X, Ag.rf⟩
  · obtain ⟨j, hj, rfl⟩ := nI_of c
    rw [nI_clamp hj]
    refine ⟨rfl, by rw [ec]; exact Rc.1, _, by rw [ec]; exact S_length Rc, fun v8 h7 hp => ?_⟩
    obtain ⟨rfl, rfl⟩ := hp
    rw [nI_ltI hj (by omega)]
    refine ⟨fun c3 => ⟨by rw [ec]; exact Rc.1, _, by rw [ec]; exact S_at Rc j hj, fun v15 h14 hp => ?_⟩, fun c3 => ?_⟩
    · obtain ⟨rfl, rfl⟩ := hp
      rw [if_neg (by simp [c]; omega), dif_pos c3, getD_at c3]
      exact ⟨rfl, X, Ag.rf⟩
    · rw [if_pos (Or.inr (by omega))]; exact ⟨rfl, X, Ag.rf⟩
def oldF (row old : List Nat) : Int32 × List Nat := if 4000 < row.length then (-4, old) else (nI row.length, row)
theorem X_old {w : Wd} {h : Hp} {s : St} (X : XS h s) : C_X11_old w SH 1 h (fun r h1 => r = (oldF s.1 s.2.2.1).1 ∧ XS h1 (s.1, s.2.1, (oldF s.1 s.2.2.1).2, s.2.2.2) ∧ Ag XCells h h1) := by
  obtain ⟨f, ⟨ra, rc, rs, pm, e1, e2, e3, r1, r2, ⟨sp, lo, r3⟩, r4⟩, o⟩ := id X
  have b := pm.b
  have hN := r1.2.2.2.2.1
  have k3 : h.2.1 1 3 = 8 := f (1, 3, 8) (by decide +kernel)
  unfold oldF
  refine K_X11_old ⟨rfl, by rw [e1]; exact r1.1, _, by rw [e1]; exact S_length r1, fun v7 h6 hp => ?_⟩
  obtain ⟨rfl, rfl⟩ := hp
  rw [show (4000 : Int32) = nI 4000 from rfl, nI_leI (by omega) (by omega)]
  refine ⟨fun c => ⟨by rw [k3]; exact r4.1, _, by rw [k3]; exact S_clear r4, fun h13 hp => ?_⟩, fun c => ?_⟩
  · obtain ⟨R1, F1⟩ := hp
    have r1' := r1.fr F1 (by simp; omega) (by simp; omega)
    have a1 : h13.2.1 1 0 = ra := by rw [F1.1]; exact e1
    have a3 : h13.2.1 1 3 = 8 := by rw [F1.1]; exact k3
    refine ⟨by rw [a1]; exact r1.1, _, by rw [a1]; exact S_length r1', fun v19 h18 hp => ?_⟩
    obtain ⟨rfl, rfl⟩ := hp
    refine ⟨by rw [a3]; exact r4.1, _, by rw [a3, a1]; exact S_append R1 r1' 0 s.1.length (by omega), fun h24 hp => ?_⟩
    rw [List.drop_zero, List.take_length, appL_ok (by simp; omega), List.nil_append] at hp
    obtain ⟨R2, F2⟩ := hp
    have c3 : h24.2.1 1 3 = 8 := by rw [F2.1]; exact a3
    refine ⟨by rw [c3]; exact r4.1, _, by rw [c3]; exact S_length R2, fun v30 h29 hp => ?_⟩
    obtain ⟨rfl, rfl⟩ := hp
    have F : Fr [8, 9] h6 h29 := (F1.mono (by simp)).tr1 F2
    rw [if_neg (by omega)]
    refine ⟨rfl, ⟨f.fr F, ⟨ra, rc, rs, pm, by rw [F.1]; exact e1, by rw [F.1]; exact e2, by rw [F.1]; exact e3, r1.fr F (by simp; omega) (by simp; omega), r2.fr F (by simp; omega) (by simp; omega), ⟨sp, lo, r3.fr F (by simp; omega) (by simp; omega)⟩, R2⟩, o.fr F (by simp)⟩, F.ag fun c hc => mem_X (by simp at hc; omega)⟩
  · rw [if_pos (by omega)]; exact ⟨rfl, X, Ag.rf⟩
