/-! the class: open, from its beginning (my own) -/
theorem openSubA {w : Wd} {h : Hp} {ra rs e : Nat} {src : List Nat} {p : Nat} (H : HP70 h ra rs e src UBy (UBy, 4, 3) (ost0 p fun _ => 0)) : ∃ P : Hp → Prop, C_X7_readAppendix w SH 70 h P ∧ ∀ h1, P h1 → (∃ s2 p', HV70 h1 ra rs e src UBy (UBy, 4, 3) s2 ∧ winsP false (UBy, 4, 3) UBy src e (e - s2.fa) s2 = (subP src p e).sfa p') ∧ Fr [70, 77, 75] h h1 := by
  unfold HP70 at H
  have hfa : (ost0 p fun _ => 0).fa = p := rfl
  rw [hfa] at H
  cases hH : headP false src e p with
  | inl x =>
    obtain ⟨f, q⟩ := x
    rw [hH] at H
    obtain ⟨hf, p1, K⟩ := H
    refine ⟨_, readAppendixF70 K hf, fun h1 e1 => ?_⟩
    subst e1
    refine ⟨⟨_, p1, K, ?_⟩, Fr.rf⟩
    rw [winsP_stop (Or.inl hf)]
    have : subP src p e = (ost0 p fun _ => 0).bad f q := by simp only [subP, hH]
    rw [this]; rfl
  | inr x =>
    obtain ⟨b, q⟩ := x
    rw [hH] at H
    have hk := headP_ok hH
    obtain ⟨m, K⟩ := H
    have hb : b = 0 ∨ b = 4 := by
      rcases hk.2.2 with a | a | a
      · exact Or.inl a
      · exact Or.inr a
      · exact absurd a.1 (by decide)
    rw [if_neg (by omega)] at K
    refine ⟨_, readAppendix70 K rfl b (by omega) m, fun h1 hp => ⟨?_, hp.2⟩⟩
    obtain ⟨s2, p', K2, e2⟩ := hp.1
    refine ⟨s2, p', K2, ?_⟩
    rw [e2]
    have : subP src p e = bodyP false (UBy, 4, 3) UBy src e b (ost0 q fun _ => 0) := by simp only [subP, hH]
    rw [this]; rfl
theorem S_open {w : Wd} {h : Hp} {s : St} (X : XS h s) : C_X11_open w SH 1 h (OpEnd h s) := by
  obtain ⟨row, came, old, g, o⟩ := s
  obtain ⟨f, ⟨ra, rc, rs, hp, r0, r1, r2, rw_, rcm, ⟨sp, lo, rsp⟩, rol⟩, XO_⟩ := X
  obtain ⟨pb, pc⟩ := perm_b hp
  have t12 := XO_.1
  have t18 := XO_.2.2.1
  have p3 := XO_.2.2.2.2.2.2.2.1
  have p70 := XO_.2.2.2.2.2.2.2.2.1
  have rb13 := t12.2.2.1
  have lrow := rw_.2.2.2.2.1
  refine K_X11_open ⟨rfl, by rw [fx f 1 5 12 (by decide +kernel)]; rfl, by rw [fx f 1 7 18 (by decide +kernel)]; rfl, _, by rw [fx f 1 7 18 (by decide +kernel), fx f 1 5 12 (by decide +kernel), fx f 12 0 13 (by decide +kernel)]; exact S_become t18 ⟨by decide, by decide⟩ rb13 (by decide) UBy_len 4 3 (by decide) (by decide), fun h7 hp7 => ?_⟩
  obtain ⟨T7, F7⟩ := hp7
  have f7 := f.fr F7
  have ra7 := rw_.fr F7 (by simp; omega) (by simp; omega)
  have rs7 := rsp.fr F7 (by simp; omega) (by simp; omega)
  have ro7 := rol.fr F7 (by decide) (by decide)
  have q0 : h7.2.1 1 0 = ra := by rw [F7.1]; exact r0
  have q2 : h7.2.1 1 2 = rs := by rw [F7.1]; exact r2
  refine ⟨by rw [q0]; exact ra7.1, _, by rw [q0]; exact S_length ra7, fun v13 h12 hp12 => ?_⟩
  obtain ⟨e1, e2⟩ := hp12
  obtain rfl := e1.symm
  subst e2
  refine ⟨by rw [fx f7 1 10 49 (by decide +kernel)]; rfl, _, by rw [fx f7 1 10 49 (by decide +kernel), q0, fx f7 1 3 8 (by decide +kernel), q2]; exact begin49 f7 pb ra7 rs7 ro7 T7 (by rw [F7.2.2 49 (by decide)]; exact p3) ⟨by decide, by decide⟩ GoodU 0 ⟨by omega, Nat.le_refl _⟩, fun h18 hp18 => ?_⟩
  obtain ⟨H18, F18⟩ := hp18
  have f18 := H18.f
  refine ⟨by rw [fx f18 1 10 49 (by decide +kernel)]; rfl, _, by rw [fx f18 1 10 49 (by decide +kernel)]; exact readHead49 H18, fun h23 hp23 => ?_⟩
  obtain ⟨HPx, F23⟩ := hp23
  have f23 := f18.fr F23
  have G23 : Rg (OS rs) OR h h23 := ((F7.up (by simp [OS])).tr (F18.mono (by simp [OS]) (by decide))).tr (F23.up (by simp [OS]))
  have s23 : h23.1 70 3 = 4 := by rw [F23.2.2 70 (by decide), F18.1 70 (by simp; omega), F7.2.2 70 (by decide)]; exact p70
  have ta : ∀ {P : Hp → Prop}, C_X7_readAppendix w SH 49 h23 P → (∀ h6, P h6 → (∃ s2, HV49 h6 ra rs row.length row old (openP old row).1 s2 ∧ ∃ p o', winsP true (openP old row).1 old row row.length (row.length - s2.fa) s2 = ((openP old row).2.sfa p).sout o' ∧ ((openP old row).2.ft = 0 → o' = (openP old row).2.out)) ∧ Fr [49, 50, 22] h23 h6) → V_X11_open_139 w SH 1 h23 (OpEnd h (row, came, old, g, o)) := fun c k => openTail hp XO_ ⟨r0, r1, r2⟩ rw_ rcm rol f23 G23 s23 ⟨_, c, k⟩
  unfold HP49 at HPx
  rw [show (ost0 0 fun _ => 0).fa = 0 from rfl] at HPx
  have stop : ∀ (f' q' p p0 : Nat), f' ≠ 0 → HV49 h23 ra rs row.length row old (UBy, 4, 3) (((ost0 0 fun _ => 0).sfa p).bad f' q') → openP old row = ((UBy, 4, 3), (ost0 p0 fun _ => 0).bad f' q') → ∃ P25 : Int32 → Hp → Prop, C_X7_wantsTable w SH 49 h23 P25 ∧ ∀ (v29 : Int32) (h28 : Hp), P25 v29 h28 → v29 = 0 ∧ V_X11_open_139 w SH 1 h28 (OpEnd h (row, came, old, g, o)) := by
    intro f' q' p p0 hf K hO
    have hk := K.ft
    have hk : f' < 17 := hk
    refine ⟨_, K_X7_wantsTable (RET := fun v h1 => h1 = h23 ∧ v = 0) ⟨rfl, fun _ => ⟨rfl, rfl⟩, fun c7 => ?_⟩, fun v29 h28 hp28 => ?_⟩
    · rw [K.o.2.2.1] at c7
      exact absurd ((nIz (by show f' < 2 ^ 31; omega)).mp c7) hf
    · obtain ⟨e1, e2⟩ := hp28
      obtain rfl := e1.symm
      refine ⟨e2, ta (readAppendixF49 K hf) fun h6 e6 => ?_⟩
      subst e6
      rw [hO]
      refine ⟨⟨_, K, p, [], ?_, fun q => absurd q hf⟩, Fr.rf⟩
      rw [winsP_stop (Or.inl hf)]
      rfl
  cases hH : headP true row row.length 0 with
  | inl x =>
    obtain ⟨f', q'⟩ := x
    rw [hH] at HPx
    obtain ⟨hf, p, K⟩ := HPx
    obtain ⟨P, c1, k1⟩ := stop f' q' p 0 hf K (by simp only [openP, hH])
    refine ⟨by rw [fx f23 1 10 49 (by decide +kernel)]; rfl, P, by rw [fx f23 1 10 49 (by decide +kernel)]; exact c1, fun v29 h28 hp28 => ?_⟩
    obtain ⟨e1, e2⟩ := k1 v29 h28 hp28
    exact ⟨fun _ => e2, fun c => absurd e1 c⟩
  | inr x =>
  obtain ⟨b, p⟩ := x
  rw [hH] at HPx
  obtain ⟨m23, HPx⟩ := HPx
  have hk := headP_ok hH
  have hb4 : b = 0 ∨ b = 2 ∨ b = 4 ∨ b = 6 := by
    rcases hk.2.2 with a | a | ⟨_, a⟩ <;> omega
  by_cases hb : b = 2 ∨ b = 6
  case neg =>
    rw [if_neg hb] at HPx
    have hO : openP old row = ((UBy, 4, 3), bodyP true (UBy, 4, 3) old row row.length b (ost0 p fun _ => 0)) := by
      simp only [openP, hH]
      rw [if_neg hb]
    have wt : C_X7_wantsTable w SH 49 h23 (fun v h1 => h1 = h23 ∧ v = 0) := K_X7_wantsTable ⟨rfl, fun _ => ⟨rfl, rfl⟩, fun c7 => ⟨fun _ => ⟨rfl, rfl⟩, fun c8 => by
      rw [m23, and2 b (by omega)] at c8
      exact absurd c8 (by omega)⟩⟩
    refine ⟨by rw [fx f23 1 10 49 (by decide +kernel)]; rfl, _, by rw [fx f23 1 10 49 (by decide +kernel)]; exact wt, fun v29 h28 hp28 => ?_⟩
    · obtain ⟨e1, e2⟩ := hp28
      obtain rfl := e1.symm
      refine ⟨fun _ => ta (readAppendix49 HPx rfl b hb4 m23) fun h6 hp6 => ⟨?_, hp6.2⟩, fun c => absurd e2 c⟩
      obtain ⟨s2, p', K, ew⟩ := hp6.1
      rw [hO]
      exact ⟨s2, K, p', (bodyP true (UBy, 4, 3) old row row.length b (ost0 p fun _ => 0)).out, ew, fun _ => rfl⟩
  rw [if_pos hb] at HPx
  cases hT : tabHP row row.length p with
  | inl x =>
    obtain ⟨f', q'⟩ := x
    rw [hT] at HPx
    obtain ⟨hf, p1, K⟩ := HPx
    obtain ⟨P, c1, k1⟩ := stop f' q' p1 p hf K (by
      simp only [openP, hH]
      rw [if_pos hb, hT])
    refine ⟨by rw [fx f23 1 10 49 (by decide +kernel)]; rfl, P, by rw [fx f23 1 10 49 (by decide +kernel)]; exact c1, fun v29 h28 hp28 => ?_⟩
    obtain ⟨e1, e2⟩ := k1 v29 h28 hp28
    exact ⟨fun _ => e2, fun c => absurd e1 c⟩
  | inr x =>
  obtain ⟨n, q⟩ := x
  rw [hT] at HPx
  obtain ⟨H, u15, u16⟩ := HPx
  have H : HV49 h23 ra rs row.length row old (UBy, 4, 3) (ost0 (q + 2) fun _ => 0) := H
  have ht := tabHP_ok hT
  have wt : C_X7_wantsTable w SH 49 h23 (fun v h1 => h1 = h23 ∧ v = 1) := K_X7_wantsTable ⟨rfl, fun c7 => absurd H.o.2.2.1 c7, fun c7 => ⟨fun c8 => by
    rw [m23, and2 b (by omega)] at c8
    exact absurd (by omega) c8, fun _ => ⟨rfl, rfl⟩⟩⟩
  refine ⟨by rw [fx f23 1 10 49 (by decide +kernel)]; rfl, _, by rw [fx f23 1 10 49 (by decide +kernel)]; exact wt, fun v29 h28 hp28 => ?_⟩
  obtain ⟨e1, e2⟩ := hp28
  obtain rfl := e1.symm
  subst e2
  refine ⟨fun c => absurd c (by decide), fun _ => ⟨by rw [fx f23 1 10 49 (by decide +kernel)]; rfl, _, by rw [fx f23 1 10 49 (by decide +kernel)]; exact K_X7_reached (RET := fun v h1 => h1 = h23 ∧ v = nI (q + 2)) ⟨rfl, by rw [k49_4 f23]; rfl, rfl, by rw [k49_4 f23]; exact H.cf.2.2.1⟩, fun v36 h35 hp35 => ?_⟩⟩
  obtain ⟨e1, e2⟩ := hp35
  obtain rfl := e1.symm
  subst e2
  refine ⟨by rw [fx f23 1 10 49 (by decide +kernel)]; rfl, _, by rw [fx f23 1 10 49 (by decide +kernel)]; exact K_X7_tableEnd (RET := fun v h1 => h1 = h23 ∧ v = nI (q + n)) ⟨rfl, rfl, by rw [u15, u16, nI_add]⟩, fun v42 h41 hp41 => ?_⟩
  obtain ⟨e1, e2⟩ := hp41
  obtain rfl := e1.symm
  subst e2
  have z0 : h23.2.1 1 0 = ra := by rw [G23.2.1 1 0 (by decide)]; exact r0
  have z2 : h23.2.1 1 2 = rs := by rw [G23.2.1 1 2 (by decide)]; exact r2
  have t70 : TabV h23 12 13 14 (UBy, 4, 3) := t12.rg G23 (by simp [OS]; omega) (by simp [OS]; omega) (by simp [OS]; omega) (by decide) (by decide)
  refine ⟨by rw [fx f23 1 5 12 (by decide +kernel)]; rfl, by rw [fx f23 1 11 70 (by decide +kernel)]; rfl, _, by rw [fx f23 1 11 70 (by decide +kernel), z0, fx f23 1 5 12 (by decide +kernel), fx f23 12 0 13 (by decide +kernel), z2]; exact begin70 f23 pb H.rr H.ro t70.2.2.1 t70 s23 ⟨by decide, by decide⟩ GoodU (q + 2) ⟨by omega, by omega⟩, fun h48 hp48 => ?_⟩
  obtain ⟨K48, F48⟩ := hp48
  refine ⟨by rw [fx K48.f 1 11 70 (by decide +kernel)]; rfl, _, by rw [fx K48.f 1 11 70 (by decide +kernel)]; exact readHead70 K48, fun h53 hp53 => ?_⟩
  obtain ⟨HP7, F53⟩ := hp53
  have f53 := K48.f.fr F53
  obtain ⟨P, c1, k1⟩ := openSubA (w := w) HP7
  refine ⟨by rw [fx f53 1 11 70 (by decide +kernel)]; rfl, P, by rw [fx f53 1 11 70 (by decide +kernel)]; exact c1, fun h58 hp58 => ?_⟩
  obtain ⟨⟨s2, p', K58, ew⟩, F58⟩ := k1 h58 hp58
  refine ⟨by rw [fx K58.f 1 11 70 (by decide +kernel)]; rfl, _, by rw [fx K58.f 1 11 70 (by decide +kernel)]; exact readWindows70 K58, fun h63 hp63 => ?_⟩
  obtain ⟨⟨p2, K63⟩, F63⟩ := hp63
  rw [ew] at K63
  have FT : Rg [70, 71, 72, 73, 74, 75, 76, 77, 80, 83, 86, 89, 92, rs, rs + 1] [(77, 0), (80, 0), (83, 0), (86, 0), (89, 0), (92, 0), (92, 3), (70, 10), (70, 11)] h23 h63 := (((F48.mono (by simp) (by decide)).tr (F53.up (by simp))).tr (F58.up (by simp))).tr (F63.mono (by intro c hc; simp [WS70] at hc; simp; omega) (by decide))
  generalize hsub : subP row (q + 2) (q + n) = sub at K63
  have H63 : HV49 h63 ra rs row.length row old (UBy, 4, 3) ((ost0 (q + 2) fun _ => 0).sout sub.out) := H.tab FT K63.ro
  have f63 := K63.f
  have G63 : Rg (OS rs) OR h h63 := G23.tr (FT.mono (by intro c hc; simp at hc; simp [OS]; omega) (by decide))
  have i63 : h63.1 49 = h23.1 49 := FT.1 49 (by simp; omega)
  have s63 : h63.1 70 3 = 4 := K63.o.2.2.2.2
  have hft : sub.ft < 17 := K63.ft
  refine ⟨by rw [fx f63 1 11 70 (by decide +kernel)]; rfl, _, by rw [fx f63 1 11 70 (by decide +kernel)]; exact K_X7_faultFound (RET := fun v h1 => h1 = h63 ∧ v = nI sub.ft) ⟨rfl, rfl, K63.o.2.2.1⟩, fun v69 h68 hp68 => ?_⟩
  obtain ⟨e1, e2⟩ := hp68
  obtain rfl := e1.symm
  subst e2
  have fin : ∀ oo : Int32, (oo = 0 ∧ sub.ft ≠ 0 ∨ oo = 1 ∧ sub.ft = 0) → V_X11_open_136 w SH 1 oo (h63.2.1 1 10) h63 (OpEnd h (row, came, old, g, o)) := by
    intro oo ho
    refine ⟨by rw [fx f63 1 10 49 (by decide +kernel)]; rfl, _, by rw [fx f63 1 10 49 (by decide +kernel)]; exact takeTable H63 oo (ho.elim (fun a => Or.inl a.1) (fun a => Or.inr a.1)) q n (by rw [i63]; exact u15) (by rw [i63]; exact u16) ht.2.1 ht.2.2.1 ht.2.2.2.1 ht.2.2.2.2 rfl, fun h5 hp5 => ?_⟩
    obtain ⟨R5, O5, F5⟩ := hp5
    have G5 : Rg (OS rs) OR h h5 := G63.tr (F5.mono (by simp [OS]) (by decide))
    have s5 : h5.1 70 3 = 4 := by rw [F5.1 70 (by simp; omega)]; exact s63
    have m5 : h5.1 49 14 = nI b := by rw [O5 14 (by decide), i63]; exact m23
    have sout : ((ost0 (q + 2) fun _ => 0).sout sub.out).out = sub.out := rfl
    rw [sout] at R5
    by_cases cd : oo = 1 ∧ sub.out.length = 1536 ∧ goodB (sub.out, row.getD q 0, row.getD (q + 1) 0) = true
    · rw [if_pos cd] at R5
      have hO : openP old row = ((sub.out, row.getD q 0, row.getD (q + 1) 0), bodyP true (sub.out, row.getD q 0, row.getD (q + 1) 0) old row row.length b (ost0 (q + n) (cntP true (fun _ => 0) 7 1))) := by
        simp only [openP, hH]
        rw [if_pos hb, hT]
        simp only [hsub]
        rw [if_pos ⟨(ho.resolve_left fun a => absurd (a.1.symm.trans cd.1) (by decide)).2, cd.2⟩]
      have R5 : HV49 h5 ra rs row.length row old (sub.out, row.getD q 0, row.getD (q + 1) 0) (ost0 (q + n) (cntP true (fun _ => 0) 7 1)) := R5
      refine openTail hp XO_ ⟨r0, r1, r2⟩ rw_ rcm rol R5.f G5 s5 ⟨_, readAppendix49 R5 rfl b hb4 m5, fun h6 hp6 => ⟨?_, hp6.2⟩⟩
      obtain ⟨s2, p', K, ew⟩ := hp6.1
      rw [hO]
      exact ⟨s2, K, p', _, ew, fun _ => rfl⟩
    · rw [if_neg cd] at R5
      have hO : openP old row = ((UBy, 4, 3), (ost0 p fun _ => 0).bad 5 q) := by
        simp only [openP, hH]
        rw [if_pos hb, hT]
        simp only [hsub]
        rw [if_neg]
        intro a
        rcases ho with h1 | h1
        · exact h1.2 a.1
        · exact cd ⟨h1.1, a.2⟩
      have hf5 : (5 : Nat) ≠ 0 := by decide
      refine openTail hp XO_ ⟨r0, r1, r2⟩ rw_ rcm rol R5.f G5 s5 ⟨_, readAppendixF49 R5 hf5, fun h6 e6 => ?_⟩
      subst e6
      rw [hO]
      refine ⟨⟨_, R5, q + 2, sub.out, ?_, fun q => absurd q hf5⟩, Fr.rf⟩
      rw [winsP_stop (Or.inl hf5)]
      rfl
  rw [nIz (by omega)]
  exact ⟨fun c => fin 0 (Or.inl ⟨rfl, c⟩), fun c => fin 1 (Or.inr ⟨rfl, c⟩)⟩
