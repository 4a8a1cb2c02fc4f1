theorem jg_statement (T : mm_T2) (hT : mm_ST2 T) (S : md_S) (j : sb_J S) : dc_pw (mm_statement T S) (sb_C2 (sb_hs S) S) := by
  have L236 : ∀ S2 q, sb_D S S2 → sb_G S S2 → (S2.1 10 = 0 → S2.1 11 = S.1 11 + 1 ∧ (S.1 11).toInt ≤ 23) → sb_C2 (sb_hs S2 + 24) S2 q → dc_pw (mm_statement_L236 T q.1 q.2) (sb_C2 (sb_hs S) S) := by
    intro S2 q d g o c
    unfold mm_statement_L236
    refine pw_letB ?_; rintro _ rfl
    obtain ⟨c1, c2, c3, c4⟩ := c
    have hf : q.1.1 10 = 0 → S2.1 10 = 0 := fun h => sb_G_fa c2 h
    have ho : q.1.1 10 = 0 → q.1.1 11 - 1 = S.1 11 := fun h => by rw [c3 h, (o (hf h)).1, a11]
    refine pw_some ⟨sb_J_up c1 (fun h => by rw [ho h]; exact j.2.2.2.2.2 (sb_G_fa g (hf h))), sb_G_tr g (sb_G_tr c2 sb_G_11), ho, fun h h2 => ?_⟩
    have t := c4 h h2
    unfold sb_c sb_A at t
    rw [d.1 27 (by decide), d.1 15 (by decide), d.1 19 (by decide), d.2 26 (by decide)] at t
    refine sb_Tr_mono (S := md_i q.1 11 (q.1.1 11 - 1)) (n0 := S.1 15) (n1 := q.1.1 15) t (Int.le_refl _) ?_ (fun _ h => h) (Int.le_refl _) (Int.le_refl _)
    have o2 := o (hf h)
    unfold sb_hs
    rw [o2.1, a_add, il_1]
    have := i_lo (S.1 11)
    omega
  have L68 : ∀ S2 x1 x2 x4, sb_J S2 → sb_D S S2 → sb_G S S2 → (S2.1 10 = 0 → S2.1 11 = S.1 11 + 1 ∧ (S.1 11).toInt ≤ 23) → dc_pw (mm_statement_L68 T S2 x1 x2 x4) (sb_C2 (sb_hs S) S) := by
    intro S2 x1 x2 x4 j2 d g o
    unfold mm_statement_L68
    refine pw_ifB (fun h => pw_some (sb_C2_no j2 g (sb_pos h))) (fun _ => ?_)
    refine pw_letB (fun v2 _ => ?_)
    refine pw_bind (jg_advance _) (fun q3 e => ?_)
    have j3 := sb_E_J e j2
    have d3 := sb_D_tr d (sb_B_D (sb_E_B e))
    have g3 := sb_G_tr g (sb_E_G e)
    have o3 : q3.1 10 = 0 → q3.1 11 = S.1 11 + 1 ∧ (S.1 11).toInt ≤ 23 := fun h => by rw [e.1 11 (by decide)]; exact o (sb_G_fa (sb_E_G e) h)
    refine pw_ifB (fun _ => ?_) (fun _ => pw_bind (hT.2.2.2.1 _ j3) (fun q c => L236 _ q d3 g3 o3 c))
    refine pw_ifB (fun _ => pw_bind (hT.2.2.2.2.1 _ _ j3) (fun q c => L236 _ q d3 g3 o3 c)) (fun _ => ?_)
    refine pw_ifB (fun _ => pw_bind (hT.2.2.2.2.2.1 _ _ j3) (fun q c => L236 _ q d3 g3 o3 c)) (fun _ => ?_)
    refine pw_ifB (fun _ => pw_bind (hT.2.2.2.2.2.2.1 _ _ _ j3) (fun q c => L236 _ q d3 g3 o3 c)) (fun _ => ?_)
    refine pw_ifB (fun _ => pw_bind (hT.2.2.2.2.2.2.2.1 _ _ j3) (fun q c => L236 _ q d3 g3 o3 c)) (fun _ => ?_)
    refine pw_ifB (fun _ => pw_bind (hT.2.2.2.2.2.2.2.2.1 _ _ j3) (fun q c => L236 _ q d3 g3 o3 c)) (fun _ => ?_)
    refine pw_ifB (fun _ => pw_bind (hT.2.2.2.2.2.2.2.2.2.1 _ _ _ j3) (fun q c => L236 _ q d3 g3 o3 c)) (fun _ => ?_)
    refine pw_ifB (fun _ => pw_bind (hT.2.2.2.2.2.2.2.2.2.2.1 _ _ j3) (fun q c => L236 _ q d3 g3 o3 c)) (fun _ => ?_)
    refine pw_ifB (fun _ => pw_bind (hT.2.2.2.2.2.2.2.2.2.2.2 _ _ j3) (fun q c => L236 _ q d3 g3 o3 c)) (fun _ => ?_)
    exact pw_bind (jg_simple _ _ j3) (fun q c => L236 _ q d3 g3 o3 (sb_C2_mono c (fun _ => by omega)))
  have L57 : ∀ S2 x1 x2 x4, sb_J S2 → sb_D S S2 → sb_G S S2 → S2.1 11 = S.1 11 → dc_pw (mm_statement_L57 T S2 x1 x2 x4) (sb_C2 (sb_hs S) S) := by
    intro S2 x1 x2 x4 j2 d g o
    unfold mm_statement_L57
    refine pw_ifB (fun _ => ?_) (fun h => L68 _ _ _ _ j2 d g (fun h0 => absurd h0 h))
    refine pw_bind (pw_and (jg_deeper j2) jb_deeper) ?_
    rintro q14 ⟨⟨j4, g4, o4, p4⟩, b4⟩
    exact L68 _ _ _ _ j4 (sb_D_tr d (sb_B_D b4)) (sb_G_tr g g4) (fun h => ⟨by rw [o4, o], by rw [← o]; exact p4 h⟩)
  have L51 : ∀ x1 x2 x4, dc_pw (mm_statement_L51 T S x1 x2 x4) (sb_C2 (sb_hs S) S) := by
    intro x1 x2 x4
    unfold mm_statement_L51
    refine pw_bind (pw_and (jg_fail j (.inl rfl)) (jb_fail _ _)) ?_
    rintro q ⟨h, b⟩
    exact L57 _ _ _ _ h.1 (sb_B_D b) h.2.1 h.2.2.2
  have L23 : ∀ x1 y, dc_pw (mm_statement_L23 T S x1 y) (sb_C2 (sb_hs S) S) := by
    intro x1 y
    unfold mm_statement_L23
    refine pw_any (fun q16 => ?_)
    refine pw_ifB (fun _ => ?_) (fun _ => L57 _ _ _ _ j (sb_B_D sb_B_rf) sb_G_rf rfl)
    refine pw_any (fun q17 => ?_)
    refine pw_ifB (fun _ => L51 _ _ _) (fun _ => ?_)
    refine pw_any (fun q18 => ?_)
    exact pw_ifB (fun _ => L51 _ _ _) (fun _ => L57 _ _ _ _ j (sb_B_D sb_B_rf) sb_G_rf rfl)
  unfold mm_statement
  refine pw_letB (fun v19 _ => ?_)
  exact pw_ifB (fun _ => L23 _ _) (fun _ => L23 _ _)
/-- a tree goes on with what changes none of it -/
theorem sb_C2_E {H : Nat} {S : md_S} {q : md_S} {x : Int32} {q2 : md_S} (c : sb_C2 H S (q, x)) (e : sb_E q q2) : sb_C2 H S (q2, x) := by
  obtain ⟨a, b, d, t⟩ := c
  refine ⟨sb_E_J e a, sb_G_tr b (sb_E_G e), fun h => (e.1 11 (by decide)).trans (d (sb_G_fa (sb_E_G e) h)), fun h h2 => ?_⟩
  have t := t (sb_G_fa (sb_E_G e) h) (sb_G_gt (sb_E_G e) h2)
  show sb_Tr (sb_c S q2) (S.1 15) (q2.1 15) q2 (sb_A S) H x
  have hc : sb_c S q2 = sb_c S q := by unfold sb_c; rw [e.1 27 (by decide)]
  rw [hc, e.1 15 (by decide)]
  exact sb_Tr_G (sb_E_G e).1 t
/-- or fails -/
theorem sb_C2_B {H : Nat} {S : md_S} {q : md_S} {x : Int32} {q2 : md_S} (c : sb_C2 H S (q, x)) (j : sb_J q2) (g : sb_G q q2) (o : q2.1 10 = 0 → q2.1 11 = q.1 11) (d : sb_D q q2) : sb_C2 H S (q2, x) := by
  obtain ⟨a, b, d', t⟩ := c
  refine ⟨j, sb_G_tr b g, fun h => (o h).trans (d' (sb_G_fa g h)), fun h h2 => ?_⟩
  have t := t (sb_G_fa g h) (sb_G_gt g h2)
  show sb_Tr (sb_c S q2) (S.1 15) (q2.1 15) q2 (sb_A S) H x
  have hc : sb_c S q2 = sb_c S q := by unfold sb_c; rw [d.1 27 (by decide)]
  rw [hc, d.1 15 (by decide)]
  exact sb_Tr_G g.1 t
theorem jg_closed (T : mm_T2) (hT : mm_ST2 T) (S : md_S) (j : sb_J S) : dc_pw (mm_closed T S) (sb_C2 (sb_hs S + 24) S) := by
  unfold mm_closed
  refine pw_bind (hT.1 S j) (fun q1 c => ?_)
  refine pw_bind (jg_meetsSign _ _) (fun q2 e => ?_)
  have c2 : sb_C2 (sb_hs S + 24) S (q2.1, q1.2) := sb_C2_mono (sb_C2_E c e) (fun _ => by omega)
  refine pw_ifB (fun _ => ?_) (fun _ => pw_some c2)
  refine pw_bind (jg_fail c2.1 (.inl rfl)) (fun q3 h => ?_)
  exact pw_some (sb_C2_no h.1 (sb_G_tr c2.2.1 h.2.1) h.2.2.1)
/-- a tree and a test -/
def sb_TE (H : Nat) (S0 S : md_S) (x e : Int32) : Prop := sb_C2 H S0 (S, x) ∧ (S.1 10 = 0 → S.1 12 = 0 → sb_QS S e)
theorem sb_TE_asked {H : Nat} {S0 S : md_S} {x : Int32} {q : md_S × Int32} (c : sb_C2 H S0 (S, x)) (a : sb_C1 S q) (d : sb_D S q.1) : sb_TE H S0 q.1 x q.2 :=
  ⟨sb_C2_B c a.1 a.2.1 a.2.2.1 d, fun h h2 => sb_QT_QS (a.2.2.2 h h2)⟩
theorem sb_TE_must {H : Nat} {S0 S : md_S} {x e : Int32} {q : md_S} (c : sb_TE H S0 S x e) (h : sb_J q ∧ sb_G S q ∧ q.1 11 = S.1 11) (b : sb_B S q) : sb_TE H S0 q x e :=
  ⟨sb_C2_B c.1 h.1 h.2.1 (fun _ => h.2.2) (sb_B_D b), fun h1 h2 => sb_QS_G h.2.1.1 _ (c.2 (sb_G_fa h.2.1 h1) (sb_G_gt h.2.1 h2))⟩
theorem sb_C2_must {H : Nat} {S0 S : md_S} {x : Int32} {q : md_S} (c : sb_C2 H S0 (S, x)) (h : sb_J q ∧ sb_G S q ∧ q.1 11 = S.1 11) (b : sb_B S q) : sb_C2 H S0 (q, x) :=
  sb_C2_B c h.1 h.2.1 (fun _ => h.2.2) (sb_B_D b)
/-- a maker over a tree -/
theorem sb_C2_mk {H H2 : Nat} {S0 S : md_S} {x : Int32} {q : md_S × Int32} (c : sb_C2 H S0 (S, x)) (m : sb_M S q) (t : q.1.1 10 = 0 → q.1.1 12 = 0 → sb_Tr (sb_c S0 S) (S0.1 15) (S.1 15) S (sb_A S0) H x → sb_Tr (sb_c S0 S + sb_c S q.1) (S0.1 15) (S.1 15) q.1 (sb_A S0) H2 q.2) : sb_C2 H2 S0 q := by
  obtain ⟨a, b, d, u⟩ := c
  have hf : q.1.1 10 = 0 → S.1 10 = 0 := fun h => by rw [← m.2.2.2.1]; exact h
  refine ⟨m.1, sb_G_tr b m.2.1, fun h => m.2.2.1.trans (d (hf h)), fun h h2 => ?_⟩
  rw [sb_c_tr S0 S q.1, m.2.2.2.2]
  exact t h h2 (u (hf h) (sb_G_gt m.2.1 h2))
theorem jg_suspend (T : mm_T2) (hT : mm_ST2 T) (S : md_S) (p1 : Int32) (j : sb_J S) : dc_pw (mm_suspend T S p1) (sb_C2 (sb_hs S + 24) S) := by
  have L32 : ∀ S2 x2 x3 y0, sb_TE (sb_hs S + 6) S S2 x2 y0 → dc_pw (mm_suspend_L32 T S2 p1 x2 x3 y0) (sb_C2 (sb_hs S + 24) S) := by
    intro S2 x2 x3 y0 c
    unfold mm_suspend_L32
    refine pw_bind (pw_and (jg_mustWord _ c.1.1) (jb_mustWord _)) ?_
    rintro q1 ⟨h, b⟩
    have c1 := sb_TE_must c h b
    refine pw_letB ?_; rintro _ rfl
    have e : sb_E q1 (md_i q1 29 x3) := sb_E_i rfl
    have c2 := sb_C2_E c1.1 e
    refine pw_bind (jg_node 4 x2 (-1) (-1) p1 y0 c2.1) (fun q3 p => ?_)
    refine pw_some (sb_C2_mk c2 p.1 (fun h h2 t => ?_))
    have hf : q1.1 10 = 0 := sb_G_fa (sb_G_tr (sb_E_G e) p.1.2.1) h
    have hg : q1.1 12 = 0 := sb_G_gt (sb_G_tr (sb_E_G e) p.1.2.1) h2
    rw [sb_N_c (p.2 h2)]
    exact sb_Tr_mono (N_un (A := sb_A S) (p.2 h2) (sb_Tr_mono t (Int.le_refl _) (Nat.le_refl _) (fun x h => .inl h) (Int.le_refl _) (Int.le_refl _)) (.inl ⟨rfl, sb_QS_G (sb_E_G e).1 _ (c1.2 hf hg)⟩)) (Int.le_refl _) (by omega) (fun _ h => h) (Int.le_refl _) (Int.le_refl _)
  unfold mm_suspend
  refine pw_bind (hT.1 S j) (fun q4 c => ?_)
  refine pw_letB (fun v5 _ => ?_)
  refine pw_bind (pw_and (jg_mustWord _ c.1) (jb_mustWord _)) ?_
  rintro q6 ⟨h, b⟩
  have c6 := sb_C2_must c h b
  refine pw_ifB (fun h => L32 _ _ _ _ ⟨c6, fun h0 => absurd h0 (sb_pos h)⟩) (fun _ => ?_)
  refine pw_bind (pw_and (jg_asked_r c6.1) jd_asked) ?_
  rintro q7 ⟨a, d⟩
  exact L32 _ _ _ _ (sb_TE_asked c6 a d)
theorem jg_loop (T : mm_T2) (hT : mm_ST2 T) (S : md_S) (p1 p2 : Int32) (j : sb_J S) : dc_pw (mm_loop T S p1 p2) (sb_C2 (sb_hs S + 24) S) := by
  have L90 : ∀ S2 x3 x4 y0, sb_TE (sb_hs S + 6) S S2 x3 y0 → dc_pw (mm_loop_L90 T S2 p1 x3 x4 y0) (sb_C2 (sb_hs S + 24) S) := by
    intro S2 x3 x4 y0 c
    unfold mm_loop_L90
    refine pw_bind (pw_and (jg_mustWord _ c.1.1) (jb_mustWord _)) ?_
    rintro q1 ⟨h, b⟩
    have c1 := sb_TE_must c h b
    refine pw_bind (jg_again p1 x3 y0 x4 c1.1.1) (fun q3 p => ?_)
    refine pw_some (sb_C2_mk c1.1 p.1 (fun h h2 t => ?_))
    exact sb_Tr_mono (p.2 h2 (c1.2 (sb_G_fa p.1.2.1 h) (sb_G_gt p.1.2.1 h2)) _ _ _ _ _ (by omega) t) (Int.le_refl _) (by omega) (fun _ h => h) (Int.le_refl _) (Int.le_refl _)
  have L56 : ∀ S2 x3, sb_C2 (sb_hs S + 6) S (S2, x3) → dc_pw (mm_loop_L56 T S2 p1 x3) (sb_C2 (sb_hs S + 24) S) := by
    intro S2 x3 c
    unfold mm_loop_L56
    refine pw_bind (jg_node 6 x3 (-1) (-1) p1 (-1) c.1) (fun q3 p => ?_)
    refine pw_some (sb_C2_mk c p.1 (fun h h2 t => ?_))
    rw [sb_N_c (p.2 h2)]
    exact sb_Tr_mono (N_un (A := sb_A S) (p.2 h2) (sb_Tr_mono t (Int.le_refl _) (Nat.le_refl _) (fun x h => .inl h) (Int.le_refl _) (Int.le_refl _)) (.inr (.inl ⟨rfl, rfl⟩))) (Int.le_refl _) (by omega) (fun _ h => h) (Int.le_refl _) (Int.le_refl _)
  unfold mm_loop
  refine pw_bind (hT.1 S j) (fun q4 c => ?_)
  refine pw_letB (fun v5 _ => ?_)
  refine pw_ifB (fun h => pw_some (sb_C2_no c.1 c.2.1 (sb_pos h))) (fun _ => ?_)
  refine pw_bind (jg_meetsWord _ _) (fun q6 e => ?_)
  have c6 := sb_C2_E c e
  refine pw_ifB (fun _ => ?_) (fun _ => ?_)
  · refine pw_bind (pw_and (jg_mustWord _ c6.1) (jb_mustWord _)) ?_
    rintro q7 ⟨h, b⟩
    have c7 := sb_C2_must c6 h b
    refine pw_ifB (fun h => L90 _ _ _ _ ⟨c7, fun h0 => absurd h0 (sb_pos h)⟩) (fun _ => ?_)
    refine pw_bind (pw_and (jg_asked_r c7.1) jd_asked) ?_
    rintro q8 ⟨a, d⟩
    exact L90 _ _ _ _ (sb_TE_asked c7 a d)
  · refine pw_ifB (fun _ => ?_) (fun _ => L56 _ _ c6)
    refine pw_ifB (fun _ => ?_) (fun _ => L56 _ _ c6)
    refine pw_letB ?_; rintro _ rfl
    refine pw_letB ?_; rintro _ rfl
    exact L56 _ _ (sb_C2_E c6 (sb_E_tr (sb_E_i rfl) (sb_E_i rfl)))
theorem jg_abort (T : mm_T2) (hT : mm_ST2 T) (S : md_S) (p1 p2 : Int32) (j : sb_J S) : dc_pw (mm_abort T S p1 p2) (sb_C2 (sb_hs S + 24) S) := by
  have L33 : ∀ S2 x3 x4 y0, sb_TE (sb_hs S + 6) S S2 x3 y0 → dc_pw (mm_abort_L33 T S2 p1 p2 x3 x4 y0) (sb_C2 (sb_hs S + 24) S) := by
    intro S2 x3 x4 y0 c
    unfold mm_abort_L33
    refine pw_bind (pw_and (jg_mustWord _ c.1.1) (jb_mustWord _)) ?_
    rintro q1 ⟨h, b⟩
    have c1 := sb_TE_must c h b
    refine pw_bind (jg_aborted p1 x3 y0 p2 x4 c1.1.1) (fun q3 p => ?_)
    refine pw_some (sb_C2_mk c1.1 p.1 (fun h h2 t => ?_))
    exact sb_Tr_mono (p.2 h2 (c1.2 (sb_G_fa p.1.2.1 h) (sb_G_gt p.1.2.1 h2)) _ _ _ _ _ t) (Int.le_refl _) (by omega) (fun _ h => h) (Int.le_refl _) (Int.le_refl _)
  unfold mm_abort
  refine pw_bind (hT.1 S j) (fun q4 c => ?_)
  refine pw_letB (fun v5 _ => ?_)
  refine pw_bind (pw_and (jg_mustWord _ c.1) (jb_mustWord _)) ?_
  rintro q6 ⟨h, b⟩
  have c6 := sb_C2_must c h b
  refine pw_ifB (fun h => L33 _ _ _ _ ⟨c6, fun h0 => absurd h0 (sb_pos h)⟩) (fun _ => ?_)
  refine pw_bind (pw_and (jg_asked_r c6.1) jd_asked) ?_
  rintro q7 ⟨a, d⟩
  exact L33 _ _ _ _ (sb_TE_asked c6 a d)
theorem jg_weak (T : mm_T2) (hT : mm_ST2 T) (S : md_S) (p1 : Int32) (j : sb_J S) : dc_pw (mm_weak T S p1) (sb_C2 (sb_hs S + 24) S) := by
  unfold mm_weak
  refine pw_bind (pw_and (jg_mustWord _ j) (jb_mustWord _)) ?_
  rintro q1 ⟨h, b⟩
  refine pw_ifB (fun h0 => pw_some (sb_C2_no h.1 h.2.1 (sb_pos h0))) (fun _ => ?_)
  refine pw_bind (hT.2.2.2.2.2.2.2.2.2.1 _ p1 1 h.1) (fun q2 c => ?_)
  exact pw_some (sb_C2_D (sb_B_D b) h.2.1 (fun _ => h.2.2) (sb_C2_mono c (fun _ => by rw [sb_hs_eq h.2.2]; exact Nat.le_refl _)))
