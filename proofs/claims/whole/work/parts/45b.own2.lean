/-! an opener at the cell 49: instructions (printed twice by wip/whole/genopen.py) -/
theorem RV49.bad {h : Hp} {ra rs : Nat} {c : Wc} {s : Wst} {base pre : List Nat} {gr sp ft : Nat} {pl : Int32} {cp : Nat} (X : RV49 h ra rs c s base pre gr sp ft pl cp) (f : Nat) (q : Int32) : RV49 (wI (wI h 49 12 (nI f)) 49 13 q) ra rs c s base pre gr sp f q cp ∧ Fr (RS49 rs) h (wI (wI h 49 12 (nI f)) 49 13 q) := by
  have F : Fr [49] h (wI (wI h 49 12 (nI f)) 49 13 q) := (Fr.rf.put (by simp)).put (by simp)
  refine ⟨X.ob F ⟨?_, wI_same, ?_, ?_, ?_⟩, F.mono (by simp [RS49])⟩
  · rw [wI_idx (by decide), wI_same]
  · rw [wI_idx (by decide), wI_idx (by decide)]; exact X.o.2.2.2.1
  · rw [wI_idx (by decide), wI_idx (by decide)]; exact X.o.2.2.2.2.1
  · rw [wI_idx (by decide), wI_idx (by decide)]; exact X.o.2.2.2.2.2
theorem runAdd49 {w : Wd} {h : Hp} {ra rs : Nat} {c : Wc} {s : Wst} {base pre : List Nat} {gr sp : Nat} {pl : Int32} {cp : Nat} (X : RV49 h ra rs c s base pre gr sp 0 pl cp) (n : Nat) (hn : s.sp.length - c.ss + n ≤ c.tz) : C_X7_runAdd w SH 49 (nI n) h (fun v h1 => PH (fun s f q => RV49 h1 ra rs c s base pre gr sp f q cp) (if c.dE - s.da < n then .inl 12 else .inr ((((s.sda (s.da + n)).ssp (s.sp ++ (c.src.drop s.da).take n)).stl (thrT c.own s.tl 1 n)).sac (thrA c.own s.ac 1 n (-1) 0))) s cp pl v ∧ Fr (RS49 rs) h h1) := by
  have w1 := X.W.s1
  have w2 := X.W.s2
  have wd := X.W.da
  have cd := X.C.d
  have cl := X.C.l
  have cz := X.C.z
  have cs := X.C.s
  refine K_X7_runAdd nlt_wf (fun m x0 x1 x2 h' => x0 = 49 ∧ x1 = nI n ∧ ∃ k, m = n - k ∧ k ≤ n ∧ n ≤ c.dE - s.da ∧ x2 = nI k ∧ RV49 h' ra rs c ((s.sda (s.da + k)).ssp (s.sp ++ (c.src.drop s.da).take k)) base pre gr sp 0 pl cp ∧ Fr (RS49 rs) h h') ?_ ?_
  · refine ⟨rfl, by rw [k49_5 X.f]; rfl, _, by rw [k49_5 X.f]; exact S_left X.cd wd, fun v7 h6 hp => ?_⟩
    obtain ⟨rfl, rfl⟩ := hp
    refine ⟨fun c7 y9 e9 => ?_, fun c7 => ⟨_, S_fail rfl 12 _, fun v15 h14 hp => ?_⟩⟩
    · rw [nI_leI (by omega) (by omega)] at c7
      refine ⟨n, rfl, rfl, 0, rfl, Nat.zero_le _, c7, e9, ?_, Fr.rf⟩
      rw [List.take_zero, List.append_nil]; exact X
    · rw [nI_leI (by omega) (by omega)] at c7
      obtain ⟨rfl, rfl⟩ := hp
      rw [if_pos (by omega), X.o.2.2.2.2.1]
      have B := X.bad 12 (nI cp)
      exact ⟨Or.inl rfl, ⟨rfl, s.ca, s.da, s.aa, B.1⟩, B.2⟩
  · rintro m x0 x1 x2 h' ⟨rfl, rfl, k, rfl, hk, hd, rfl, Y, F⟩
    refine ⟨fun c7 => ⟨rfl, by rw [k49_2 Y.f]; rfl, _, by rw [k49_2 Y.f]; exact S_through (lc49 Y.f) Y.l 1 n 0 (-1) (by decide), fun h7 hp => ?_⟩, fun c7 => ⟨rfl, by rw [k49_5 Y.f]; rfl, _, by rw [k49_5 Y.f]; exact S_next Y.cd Y.rr cd Y.W.da, fun v14 h13 hp => ?_⟩⟩
    · rw [nI_leI (by omega) (by omega)] at c7
      have : k = n := by omega
      subst this
      obtain ⟨V, F2⟩ := hp
      rw [if_neg (by omega)]
      have Z := Y.lg F2 V (thrA_len Y.W.ac)
      refine ⟨⟨rfl, ?_⟩, F.tr1 (F2.mono (by simp [RS49]))⟩
      rw [X.own]; exact Z
    · rw [nI_leI (by omega) (by omega)] at c7
      have hlt : s.da + k < c.dE := by omega
      obtain ⟨q1, q2, F2⟩ := hp
      obtain ⟨rfl, V⟩ := q1 hlt
      have Z := Y.mvD F2 V hlt
      have hx : c.src.getD (s.da + k) 0 < 256 := getD_lt X.C.b _
      obtain ⟨P, hC, hP⟩ := push49 (w := w) Z (c.src.getD (s.da + k) 0) hx (by show (s.sp ++ (c.src.drop s.da).take k).length < _; simp; omega)
      refine ⟨by rw [Y.o.1]; exact X.ro.1, P, by rw [Y.o.1]; exact hC, fun h19 hp y20 e20 => ?_⟩
      obtain ⟨U, F3⟩ := hP h19 hp
      refine ⟨n - (k + 1), by omega, rfl, rfl, k + 1, rfl, by omega, hd, by rw [e20, nI_1], ?_, (F.tr1 (F2.mono (by simp [RS49]))).tr1 (F3.mono (by simp [RS49]))⟩
      have e : s.sp ++ (c.src.drop s.da).take (k + 1) = s.sp ++ (c.src.drop s.da).take k ++ [c.src.getD (s.da + k) 0] := by rw [take_snoc _ _ _ (by omega), List.append_assoc]
      rw [e]; exact U
theorem runRun49 {w : Wd} {h : Hp} {ra rs : Nat} {c : Wc} {s : Wst} {base pre : List Nat} {gr sp : Nat} {pl : Int32} {cp : Nat} (X : RV49 h ra rs c s base pre gr sp 0 pl cp) (n : Nat) (hn : s.sp.length - c.ss + n ≤ c.tz) : C_X7_runRun w SH 49 (nI n) h (fun v h1 => PH (fun s f q => RV49 h1 ra rs c s base pre gr sp f q cp) (if c.dE ≤ s.da then .inl 12 else .inr ((((s.sda (s.da + 1)).ssp (s.sp ++ List.replicate n (c.src.getD s.da 0))).stl (thrT c.own s.tl 2 n)).sac (thrA c.own s.ac 2 n (-1) 0))) s cp pl v ∧ Fr (RS49 rs) h h1) := by
  have w1 := X.W.s1
  have w2 := X.W.s2
  have wd := X.W.da
  have cd := X.C.d
  have cl := X.C.l
  have cz := X.C.z
  have cs := X.C.s
  have hx : c.src.getD s.da 0 < 256 := getD_lt X.C.b _
  refine K_X7_runRun nlt_wf (fun m x0 x1 x2 x3 h' => x0 = 49 ∧ x1 = nI n ∧ x2 = nI (c.src.getD s.da 0) ∧ ∃ k, m = n - k ∧ k ≤ n ∧ s.da < c.dE ∧ x3 = nI k ∧ RV49 h' ra rs c ((s.sda (s.da + 1)).ssp (s.sp ++ List.replicate k (c.src.getD s.da 0))) base pre gr sp 0 pl cp ∧ Fr (RS49 rs) h h') ?_ ?_
  · refine ⟨rfl, by rw [k49_5 X.f]; rfl, _, by rw [k49_5 X.f]; exact S_next X.cd X.rr cd wd, fun v7 h6 hp y8 e8 => ?_⟩
    obtain ⟨q1, q2, F2⟩ := hp
    by_cases hlt : s.da < c.dE
    · obtain ⟨rfl, V⟩ := q1 hlt
      have Z := X.mvD F2 V hlt
      refine ⟨fun c7 y11 e11 => ?_, fun c7 => ?_⟩
      · refine ⟨n, rfl, rfl, e8, 0, rfl, Nat.zero_le _, hlt, e11, ?_, F2.mono (by simp [RS49])⟩
        rw [List.replicate_zero, List.append_nil]; exact Z
      · rw [e8] at c7
        exact absurd (Int32.not_lt.mp (nI_pos (by omega))) c7
    · obtain ⟨rfl, rfl⟩ := q2 hlt
      subst e8
      refine ⟨fun c7 => absurd c7 (by decide), fun c7 => ⟨_, S_fail rfl 12 _, fun v17 h16 hp => ?_⟩⟩
      obtain ⟨rfl, rfl⟩ := hp
      rw [if_pos (by omega), X.o.2.2.2.2.1]
      have B := X.bad 12 (nI cp)
      exact ⟨Or.inl rfl, ⟨rfl, s.ca, s.da, s.aa, B.1⟩, B.2⟩
  · rintro m x0 x1 x2 x3 h' ⟨rfl, rfl, rfl, k, rfl, hk, hd, rfl, Y, F⟩
    refine ⟨fun c7 => ⟨rfl, by rw [k49_2 Y.f]; rfl, _, by rw [k49_2 Y.f]; exact S_through (lc49 Y.f) Y.l 2 n 0 (-1) (by decide), fun h7 hp => ?_⟩, fun c7 => ?_⟩
    · rw [nI_leI (by omega) (by omega)] at c7
      have : k = n := by omega
      subst this
      obtain ⟨V, F2⟩ := hp
      rw [if_neg (by omega)]
      have Z := Y.lg F2 V (thrA_len Y.W.ac)
      refine ⟨⟨rfl, ?_⟩, F.tr1 (F2.mono (by simp [RS49]))⟩
      rw [X.own]; exact Z
    · rw [nI_leI (by omega) (by omega)] at c7
      obtain ⟨P, hC, hP⟩ := push49 (w := w) Y (c.src.getD s.da 0) hx (by show (s.sp ++ List.replicate k _).length < _; simp; omega)
      refine ⟨rfl, by rw [Y.o.1]; exact X.ro.1, P, by rw [Y.o.1]; exact hC, fun h13 hp y14 e14 => ?_⟩
      obtain ⟨U, F3⟩ := hP h13 hp
      refine ⟨n - (k + 1), by omega, rfl, rfl, rfl, k + 1, rfl, by omega, hd, by rw [e14, nI_1], ?_, F.tr1 (F3.mono (by simp [RS49]))⟩
      have e : s.sp ++ List.replicate (k + 1) (c.src.getD s.da 0) = s.sp ++ List.replicate k (c.src.getD s.da 0) ++ [c.src.getD s.da 0] := by rw [List.replicate_succ', List.append_assoc]
      rw [e]; exact U
