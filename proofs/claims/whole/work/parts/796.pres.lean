/-- a tree or none yet -/
def sb_OT (c : Int) (n0 n1 : Int32) (S : md_S) (A : Int32 → Prop) (h : Nat) (s : Int32) : Prop := (s = -1 ∧ 0 ≤ c ∧ n0.toInt ≤ n1.toInt) ∨ sb_Tr c n0 n1 S A h s
theorem sb_OT_G {c : Int} {n0 n1 : Int32} {S q : md_S} {A : Int32 → Prop} {h : Nat} {s : Int32} (g : sb_G1 S q) (t : sb_OT c n0 n1 S A h s) : sb_OT c n0 n1 q A h s := t.imp id (sb_Tr_G g)
theorem sb_OT_t {c : Int} {n0 n1 : Int32} {S : md_S} {A : Int32 → Prop} {h : Nat} {s : Int32} (t : sb_OT c n0 n1 S A h s) (hs : ¬ s = -1) : sb_Tr c n0 n1 S A h s := t.resolve_left (fun h => hs h.1)
theorem sb_OT_n {c : Int} {n0 n1 : Int32} {S : md_S} {A : Int32 → Prop} {h : Nat} {s : Int32} (t : sb_OT c n0 n1 S A h s) (hs : s = -1) : 0 ≤ c ∧ n0.toInt ≤ n1.toInt := by
  rcases t with t | t
  · exact t.2
  · have := t.1; rw [hs, il_m1] at this; omega
theorem jg_present (T : mm_T2) (hT : mm_ST2 T) (S : md_S) (p1 : Int32) (j : sb_J S) : dc_pw (mm_present_I T S p1) (sb_C2 (sb_hs S + 24) S) := by
  have L157 : ∀ S2 x2 x3 y0, sb_J S2 → sb_G S S2 → (S2.1 10 = 0 → S2.1 11 = S.1 11) → (S2.1 10 = 0 → S2.1 12 = 0 → sb_QS S2 x2 ∧ ∃ nm : Int32, ∃ c1 c2 : Int, c1 + c2 ≤ sb_c S S2 ∧ sb_Tr c1 (S.1 15) nm S2 (sb_A S) (sb_hs S + 6) x3 ∧ sb_Tr c2 nm (S2.1 15) S2 (sb_A S) (sb_hs S + 6) y0) → dc_pw (mm_present_I_L157 T S2 p1 x2 x3 y0) (sb_C2 (sb_hs S + 24) S) := by
    intro S2 x2 x3 y0 j2 g2 o2 t
    unfold mm_present_I_L157
    refine pw_bind (jg_node 3 x3 y0 (-1) p1 x2 j2) (fun q1 p => ?_)
    have hf : q1.1.1 10 = 0 → S2.1 10 = 0 := fun h => by rw [← p.1.2.2.2.1]; exact h
    refine pw_some ⟨p.1.1, sb_G_tr g2 p.1.2.1, fun h => p.1.2.2.1.trans (o2 (hf h)), fun h h2 => ?_⟩
    obtain ⟨he, nm, c1, c2, hc, t, u⟩ := t (hf h) (sb_G_gt p.1.2.1 h2)
    have n := p.2 h2
    refine sb_Tr_mono (N_pres n t u he) ?_ (by omega) (fun _ h => h) (Int.le_refl _) (by rw [n.2.2.2.1]; exact Int.le_refl _)
    have := sb_N_c n
    dsimp only [sb_c] at *; omega
  have L138 : ∀ S2 x2 x4 y0, sb_J S2 → sb_G S S2 → (S2.1 10 = 0 → S2.1 11 = S.1 11) → (S2.1 10 = 0 → S2.1 12 = 0 → sb_QS S2 x2 ∧ ∃ nm : Int32, ∃ c1 c2 : Int, c1 + c2 ≤ sb_c S S2 ∧ sb_Tr c1 (S.1 15) nm S2 (sb_A S) (sb_hs S + 6) y0 ∧ sb_OT c2 nm (S2.1 15) S2 (sb_A S) (sb_hs S + 6) x4) → dc_pw (mm_present_I_L138 T S2 p1 x2 x4 y0) (sb_C2 (sb_hs S + 24) S) := by
    intro S2 x2 x4 y0 j2 g2 o2 t
    unfold mm_present_I_L138
    refine pw_ifB (fun h4 => ?_) (fun h4 => L157 _ _ _ _ j2 g2 o2 (fun h h2 => ?_))
    · refine pw_bind (jg_leaf 0 (-1) p1 j2) (fun q2 p => ?_)
      have hf : q2.1.1 10 = 0 → S2.1 10 = 0 := fun h => by rw [← p.1.2.2.2.1]; exact h
      refine L157 _ _ _ _ p.1.1 (sb_G_tr g2 p.1.2.1) (fun h => p.1.2.2.1.trans (o2 (hf h))) (fun h h2 => ?_)
      obtain ⟨he, nm, c1, c2, hc, t, u⟩ := t (hf h) (sb_G_gt p.1.2.1 h2)
      have l := p.2 h2
      have un := sb_OT_n u h4
      refine ⟨sb_QS_G p.1.2.1.1 _ he, nm, c1, 1, ?_, sb_Tr_G p.1.2.1.1 t, l.2 _ _ _ _ (by omega) (by rw [p.1.2.2.2.2]; exact un.2) (.inl rfl)⟩
      have l := l.1
      dsimp only [sb_c] at *; omega
    · obtain ⟨he, nm, c1, c2, hc, t, u⟩ := t h h2
      exact ⟨he, nm, c1, c2, hc, t, sb_OT_t u h4⟩
  have L109 : ∀ S2 x2 x3 x4 x5, sb_J S2 → sb_G S S2 → (S2.1 10 = 0 → S2.1 11 = S.1 11) → (S2.1 10 = 0 → S2.1 12 = 0 → sb_QS S2 x2 ∧ ∃ nm : Int32, ∃ c1 c2 : Int, c1 + c2 ≤ sb_c S S2 ∧ sb_OT c1 (S.1 15) nm S2 (sb_A S) (sb_hs S + 6) x3 ∧ sb_OT c2 nm (S2.1 15) S2 (sb_A S) (sb_hs S + 6) x4) → dc_pw (mm_present_I_L109 T S2 p1 x2 x3 x4 x5) (sb_C2 (sb_hs S + 24) S) := by
    intro S2 x2 x3 x4 x5 j2 g2 o2 t
    unfold mm_present_I_L109
    refine pw_bind (pw_and (jg_mustWord _ j2) (jb_mustWord _)) ?_
    rintro q3 ⟨⟨j3, g3, o3⟩, b3⟩
    refine pw_letB ?_; rintro _ rfl
    have e : sb_E q3 (md_i q3 29 x5) := sb_E_i rfl
    have j4 := sb_E_J e j3
    have g4 := sb_G_tr g3 (sb_E_G e)
    have b4 := sb_B_tr b3 (sb_E_B e)
    have o4 : (md_i q3 29 x5).1 10 = 0 → (md_i q3 29 x5).1 11 = S.1 11 := fun h => ((e.1 11 (by decide)).trans o3).trans (o2 (sb_G_fa g4 h))
    have t4 : (md_i q3 29 x5).1 10 = 0 → (md_i q3 29 x5).1 12 = 0 → sb_QS (md_i q3 29 x5) x2 ∧ ∃ nm : Int32, ∃ c1 c2 : Int, c1 + c2 ≤ sb_c S (md_i q3 29 x5) ∧ sb_OT c1 (S.1 15) nm (md_i q3 29 x5) (sb_A S) (sb_hs S + 6) x3 ∧ sb_OT c2 nm ((md_i q3 29 x5).1 15) (md_i q3 29 x5) (sb_A S) (sb_hs S + 6) x4 := by
      intro h h2
      obtain ⟨he, nm, c1, c2, hc, t, u⟩ := t (sb_G_fa g4 h) (sb_G_gt g4 h2)
      refine ⟨sb_QS_G g4.1 _ he, nm, c1, c2, ?_, sb_OT_G g4.1 t, ?_⟩
      · unfold sb_c at *; rw [b4.1 27 (by decide)]; exact hc
      · rw [b4.1 15 (by decide)]; exact sb_OT_G g4.1 u
    revert j4 g4 b4 o4 t4
    generalize md_i q3 29 x5 = S4
    intro j4 g4 b4 o4 t4
    have g5 := sb_G_tr g2 g4
    refine pw_ifB (fun h3 => ?_) (fun h3 => L138 _ _ _ _ j4 g5 o4 (fun h h2 => ?_))
    · refine pw_bind (jg_leaf 0 (-1) p1 j4) (fun q2 p => ?_)
      have hf : q2.1.1 10 = 0 → S4.1 10 = 0 := fun h => by rw [← p.1.2.2.2.1]; exact h
      refine L138 _ _ _ _ p.1.1 (sb_G_tr g5 p.1.2.1) (fun h => p.1.2.2.1.trans (o4 (hf h))) (fun h h2 => ?_)
      obtain ⟨he, nm, c1, c2, hc, t, u⟩ := t4 (hf h) (sb_G_gt p.1.2.1 h2)
      have l := p.2 h2
      have un := sb_OT_n t h3
      refine ⟨sb_QS_G p.1.2.1.1 _ he, nm, 1, c2, ?_, l.2 _ _ _ _ (by omega) un.2 (.inl rfl), ?_⟩
      · have l := l.1
        dsimp only [sb_c] at *; omega
      · rw [p.1.2.2.2.2]; exact sb_OT_G p.1.2.1.1 u
    · obtain ⟨he, nm, c1, c2, hc, t, u⟩ := t4 h h2
      exact ⟨he, nm, c1, c2, hc, sb_OT_t t h3, u⟩
  have L75 : ∀ S2 x2 x3 x5, sb_J S2 → sb_G S S2 → (S2.1 10 = 0 → S2.1 11 = S.1 11) → (S2.1 10 = 0 → S2.1 12 = 0 → sb_QS S2 x2 ∧ sb_OT (sb_c S S2) (S.1 15) (S2.1 15) S2 (sb_A S) (sb_hs S + 6) x3) → dc_pw (mm_present_I_L75 T S2 p1 x2 x3 (-1) x5) (sb_C2 (sb_hs S + 24) S) := by
    intro S2 x2 x3 x5 j2 g2 o2 t
    unfold mm_present_I_L75
    refine pw_bind (jg_meetsWord _ _) (fun q6 e => ?_)
    have j6 := sb_E_J e j2
    have g6 := sb_G_tr g2 (sb_E_G e)
    have o6 : q6.1.1 10 = 0 → q6.1.1 11 = S.1 11 := fun h => (e.1 11 (by decide)).trans (o2 (sb_G_fa (sb_E_G e) h))
    have t6 : q6.1.1 10 = 0 → q6.1.1 12 = 0 → sb_QS q6.1 x2 ∧ sb_OT (sb_c S q6.1) (S.1 15) (q6.1.1 15) q6.1 (sb_A S) (sb_hs S + 6) x3 := by
      intro h h2
      obtain ⟨he, u⟩ := t (sb_G_fa (sb_E_G e) h) (sb_G_gt (sb_E_G e) h2)
      refine ⟨sb_QS_G (sb_E_G e).1 _ he, ?_⟩
      have hc : sb_c S q6.1 = sb_c S S2 := by unfold sb_c; rw [e.1 27 (by decide)]
      rw [hc, e.1 15 (by decide)]; exact sb_OT_G (sb_E_G e).1 u
    refine pw_ifB (fun _ => ?_) (fun _ => ?_)
    · refine pw_letB (fun v7 _ => ?_)
      refine L109 _ _ _ _ _ j6 g6 o6 (fun h h2 => ?_)
      obtain ⟨he, u⟩ := t6 h h2
      exact ⟨he, q6.1.1 15, sb_c S q6.1, 0, by omega, u, .inl ⟨rfl, by omega, Int.le_refl _⟩⟩
    · refine pw_bind (hT.1 _ j6) (fun q8 c => ?_)
      refine pw_letB (fun v9 _ => ?_)
      have hf : q8.1.1 10 = 0 → q6.1.1 10 = 0 := fun h => sb_G_fa c.2.1 h
      refine L109 _ _ _ _ _ c.1 (sb_G_tr g6 c.2.1) (fun h => (c.2.2.1 h).trans (o6 (hf h))) (fun h h2 => ?_)
      obtain ⟨he, u⟩ := t6 (hf h) (sb_G_gt c.2.1 h2)
      have w := c.2.2.2 h h2
      rw [sb_hs_eq (o6 (hf h))] at w
      exact ⟨sb_QS_G c.2.1.1 _ he, q6.1.1 15, sb_c S q6.1, sb_c q6.1 q8.1, by rw [sb_c_tr S q6.1 q8.1]; exact Int.le_refl _, sb_OT_G c.2.1.1 u, .inr (sb_Tr_mono w (Int.le_refl _) (Nat.le_refl _) (fun x h => sb_al_G g6 x h) (Int.le_refl _) (Int.le_refl _))⟩
  have L34 : ∀ S2 x2, sb_J S2 → sb_G S S2 → (S2.1 10 = 0 → S2.1 11 = S.1 11) → sb_D S S2 → (S2.1 10 = 0 → S2.1 12 = 0 → sb_QS S2 x2) → dc_pw (mm_present_I_L34 T S2 p1 x2) (sb_C2 (sb_hs S + 24) S) := by
    intro S2 x2 j2 g2 o2 d2 t
    unfold mm_present_I_L34
    refine pw_bind (jg_meetsWord _ _) (fun q6 e => ?_)
    have j6 := sb_E_J e j2
    have g6 := sb_G_tr g2 (sb_E_G e)
    have d6 := sb_D_tr d2 (sb_B_D (sb_E_B e))
    have o6 : q6.1.1 10 = 0 → q6.1.1 11 = S.1 11 := fun h => (e.1 11 (by decide)).trans (o2 (sb_G_fa (sb_E_G e) h))
    have t6 : q6.1.1 10 = 0 → q6.1.1 12 = 0 → sb_QS q6.1 x2 := fun h h2 => sb_QS_G (sb_E_G e).1 _ (t (sb_G_fa (sb_E_G e) h) (sb_G_gt (sb_E_G e) h2))
    refine pw_ifB (fun _ => ?_) (fun _ => ?_)
    · refine pw_letB (fun v7 _ => ?_)
      refine L75 _ _ _ _ j6 g6 o6 (fun h h2 => ⟨t6 h h2, .inl ⟨rfl, ?_, ?_⟩⟩)
      · unfold sb_c; rw [d6.1 27 (by decide)]; omega
      · rw [d6.1 15 (by decide)]; exact Int.le_refl _
    · refine pw_bind (hT.1 _ j6) (fun q8 c => ?_)
      refine pw_letB (fun v9 _ => ?_)
      have hf : q8.1.1 10 = 0 → q6.1.1 10 = 0 := fun h => sb_G_fa c.2.1 h
      have c' := sb_C2_D d6 g6 o6 c
      refine L75 _ _ _ _ c'.1 c'.2.1 c'.2.2.1 (fun h h2 => ⟨sb_QS_G c.2.1.1 _ (t6 (hf h) (sb_G_gt c.2.1 h2)), .inr ?_⟩)
      have w := c'.2.2.2 h h2
      rw [sb_hs_eq (o6 (hf h))] at w
      exact w
  unfold mm_present_I
  refine pw_bind (pw_and (jg_asked_r j) jd_asked) ?_
  rintro q14 ⟨a, d⟩
  have ok := L34 q14.1 q14.2 a.1 a.2.1 a.2.2.1 d (fun h h2 => sb_QT_QS (a.2.2.2 h h2))
  refine pw_any (fun q15 => ?_)
  refine pw_ifB (fun _ => ?_) (fun _ => ok)
  refine pw_any (fun q16 => ?_)
  refine pw_ifB (fun _ => ?_) (fun _ => ok)
  refine pw_bind (pw_and (jg_fail a.1 (.inl rfl)) (jb_fail _ _)) ?_
  rintro q17 ⟨h, b⟩
  exact L34 _ _ h.1 (sb_G_tr a.2.1 h.2.1) (fun h0 => absurd h0 h.2.2.1) (sb_D_tr d (sb_B_D b)) (fun h0 => absurd h0 h.2.2.1)
theorem jg_every (T : mm_T2) (hT : mm_ST2 T) (S : md_S) (p1 : Int32) (j : sb_J S) : dc_pw (mm_every T S p1) (sb_C2 (sb_hs S + 24) S) := by
  have L27 : ∀ S2 x2 y0, sb_TE (sb_hs S + 6) S S2 y0 x2 → dc_pw (mm_every_L27 T S2 p1 x2 y0) (sb_C2 (sb_hs S + 24) S) := by
    intro S2 x2 y0 c
    unfold mm_every_L27
    refine pw_letB (fun v1 _ => ?_)
    refine pw_bind (pw_and (jg_mustWord _ c.1.1) (jb_mustWord _)) ?_
    rintro q2 ⟨h, b⟩
    have c2 := sb_TE_must c h b
    refine pw_bind (jg_await p1 x2 c2.1.1) (fun q3 p3 => ?_)
    refine pw_bind (jg_again p1 y0 x2 v1 p3.1.1) (fun q4 p4 => ?_)
    refine pw_any (fun q5 => ?_)
    refine pw_letB ?_; rintro _ rfl
    have e : sb_E q4.1 (md_i q4.1 29 q5) := sb_E_i rfl
    refine pw_bind (jg_node 5 q3.2 q4.2 (-1) p1 (-1) (sb_E_J e p4.1.1)) (fun q7 p7 => ?_)
    have m7 := sb_E_M e p7.1
    refine pw_some (sb_C2_mk c2.1 (sb_M_tr p3.1 (sb_M_tr p4.1 m7)) (fun h7 g7 t => ?_))
    have g4 := sb_G_gt m7.2.1 g7
    have g3 := sb_G_gt p4.1.2.1 g4
    have g2 := sb_G_gt p3.1.2.1 g3
    have f2 : q2.1 10 = 0 := sb_G_fa (sb_M_tr p3.1 (sb_M_tr p4.1 m7)).2.1 h7
    have he := c2.2 f2 g2
    have t3 := p3.2 g3 he (sb_A S) (S.1 15)
    have t4 := p4.2 g4 (sb_QS_G p3.1.2.1.1 _ he) _ _ _ _ _ (by omega) (sb_Tr_G p3.1.2.1.1 t)
    have n := p7.2 g7
    have w := N_two n (sb_Tr_G (sb_G_tr p4.1.2.1 (sb_E_G e)).1 t3) (sb_Tr_G (sb_E_G e).1 t4) (.inl (by omega)) (.inl rfl)
    refine sb_Tr_mono w ?_ (by omega) (fun _ h => h) (Int.le_refl _) (Int.le_refl _)
    have cn := sb_N_c n
    rw [← sb_E_c e] at cn
    dsimp only [sb_c] at *; omega
  unfold mm_every
  refine pw_bind (pw_and (jg_asked_r j) jd_asked) ?_
  rintro q8 ⟨a, d⟩
  refine pw_bind (pw_and (jg_mustWord _ a.1) (jb_mustWord _)) ?_
  rintro q9 ⟨h, b⟩
  have g9 := sb_G_tr a.2.1 h.2.1
  have d9 := sb_D_tr d (sb_B_D b)
  have o9 : q9.1 10 = 0 → q9.1 11 = S.1 11 := fun h0 => h.2.2.trans (a.2.2.1 (sb_G_fa h.2.1 h0))
  refine pw_ifB (fun h0 => L27 _ _ _ ⟨sb_C2_no h.1 g9 (sb_pos h0), fun h1 => absurd h1 (sb_pos h0)⟩) (fun _ => ?_)
  refine pw_bind (hT.1 _ h.1) (fun q10 c => ?_)
  refine L27 _ _ _ ⟨sb_C2_D d9 g9 o9 (sb_C2_mono c (fun h0 => by rw [sb_hs_eq (o9 (sb_G_fa c.2.1 h0))]; exact Nat.le_refl _)), fun h1 h2 => ?_⟩
  have gg := sb_G_tr h.2.1 c.2.1
  exact sb_QS_G gg.1 _ (sb_QT_QS (a.2.2.2 (sb_G_fa gg h1) (sb_G_gt gg h2)))
