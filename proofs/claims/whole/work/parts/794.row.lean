def sb_hs (S : md_S) : Nat := (24 * (24 - (S.1 11).toInt)).toNat
def sb_A (S : md_S) : Int32 → Prop := sb_al (S.1 19) (S.2.1 26)
/-- a tree read from S on -/
def sb_C2 (H : Nat) (S : md_S) (q : md_S × Int32) : Prop := sb_J q.1 ∧ sb_G S q.1 ∧ (q.1.1 10 = 0 → q.1.1 11 = S.1 11) ∧ (q.1.1 10 = 0 → q.1.1 12 = 0 → sb_Tr (sb_c S q.1) (S.1 15) (q.1.1 15) q.1 (sb_A S) H q.2)
theorem sb_C2_D {H : Nat} {S S2 : md_S} {q : md_S × Int32} (d : sb_D S S2) (g : sb_G S S2) (o : S2.1 10 = 0 → S2.1 11 = S.1 11) (c : sb_C2 H S2 q) : sb_C2 H S q := by
  obtain ⟨c1, c2, c3, c4⟩ := c
  refine ⟨c1, sb_G_tr g c2, fun h => (c3 h).trans (o (sb_G_fa c2 h)), fun h h2 => ?_⟩
  have t := c4 h h2
  unfold sb_c sb_A at t
  rw [d.1 27 (by decide), d.1 15 (by decide), d.1 19 (by decide), d.2 26 (by decide)] at t
  exact t
theorem sb_C2_mono {H H2 : Nat} {S : md_S} {q : md_S × Int32} (c : sb_C2 H S q) (h : q.1.1 10 = 0 → H ≤ H2) : sb_C2 H2 S q :=
  ⟨c.1, c.2.1, c.2.2.1, fun a b => sb_Tr_mono (c.2.2.2 a b) (Int.le_refl _) (h a) (fun _ h => h) (Int.le_refl _) (Int.le_refl _)⟩
theorem sb_C2_M {H : Nat} {S : md_S} {q : md_S × Int32} (m : sb_M S q) (t : q.1.1 10 = 0 → q.1.1 12 = 0 → sb_Tr (sb_c S q.1) (S.1 15) (q.1.1 15) q.1 (sb_A S) H q.2) : sb_C2 H S q := ⟨m.1, m.2.1, fun _ => m.2.2.1, t⟩
theorem sb_C2_no {H : Nat} {S : md_S} {q : md_S × Int32} (j : sb_J q.1) (g : sb_G S q.1) (h : ¬ q.1.1 10 = 0) : sb_C2 H S q := ⟨j, g, fun h0 => absurd h0 h, fun h0 => absurd h0 h⟩
theorem sb_pos {x : Int32} (h : (0 : Int32) < x) : ¬ x = 0 := fun e => by rw [e] at h; exact absurd h (by decide)
theorem jg_exit {S : md_S} (ln : Int32) (j : sb_J S) : dc_pw (mm_exit S ln) (sb_C2 1 S) := by
  have L87 : ∀ S2 x2, sb_J S2 → sb_G S S2 → sb_B S S2 → S2.1 11 = S.1 11 → (S2.1 10 = 0 → x2.toInt < (S2.1 19).toInt) → dc_pw (mm_exit_L87 S2 ln x2) (sb_C2 1 S) := by
    intro S2 x2 j2 g2 b2 o2 hx
    unfold mm_exit_L87
    refine pw_ifB (fun h => pw_some (sb_C2_no j2 g2 (sb_pos h))) (fun _ => ?_)
    refine pw_bind (jg_advance _) (fun q1 e => ?_)
    refine pw_letB ?_; rintro _ rfl
    have e2 : sb_E S2 (md_i q1 29 ((4 : Int32) <<< ((((q1.1 19) - 1) - x2) &&& (31 : Int32)))) := sb_E_tr e (sb_E_i rfl)
    refine pw_ixB 32 rfl (fun j3 hj3 ha hb => ?_)
    refine pw_bind (jg_leaf 9 _ ln (sb_E_J e2 j2)) (fun q4 h4 => ?_)
    have b3 := sb_B_tr b2 (sb_E_B e2)
    refine pw_some (sb_C2_D (sb_B_D b3) (sb_G_tr g2 (sb_E_G e2)) (fun _ => (e2.1 11 (by decide)).trans o2) (sb_C2_M h4.1 (fun h h2 => ?_)))
    have l := h4.2 h2
    rw [l.1]
    refine l.2 _ _ _ 1 (Nat.le_refl _) (by rw [h4.1.2.2.2.2]; exact Int.le_refl _) (.inr (.inr (.inr ⟨rfl, j3, ?_, rfl⟩)))
    have hz : S2.1 10 = 0 := by rw [← e2.1 10 (by decide), ← h4.1.2.2.2.1]; exact h
    have := hx hz
    rw [e2.1 19 (by decide), hj3, i_nat (i_le.mp ha)]
    exact this
  have L16 : ∀ S2, sb_J S2 → sb_G S S2 → sb_B S S2 → S2.1 11 = S.1 11 → dc_pw (mm_exit_L16 S2 ln) (sb_C2 1 S) := by
    intro S2 j2 g2 b2 o2
    unfold mm_exit_L16
    refine pw_ifB (fun h => pw_some (sb_C2_no j2 g2 (sb_pos h))) (fun _ => ?_)
    refine pw_letB (fun v hv => ?_)
    unfold mm_exit_L32
    have hts := j2.2.2.2.1
    refine pw_loop (fun x => x.toInt < (S2.1 19).toInt) (fun x => x.toInt < (S2.1 19).toInt) (by rw [hv, a_sub, il_1]; omega) ?_ ?_
    · intro x hx
      unfold mm_exit_s32 mm_exit_b32
      refine pw_ifB (fun _ => pw_some hx) (fun hn => ?_)
      refine pw_any (fun _ => pw_any (fun _ => pw_any (fun q8 => ?_)))
      refine pw_ifB (fun _ => pw_some ?_) (fun _ => pw_some hx)
      show (x + -1).toInt < _
      have hn2 : ¬ x.toInt < 0 := fun h => hn (i_lt.mpr h)
      rw [a_add, il_m1]; omega
    · intro x hx
      unfold mm_exit_L74
      refine pw_ifB (fun _ => ?_) (fun _ => L87 _ _ j2 g2 b2 o2 (fun _ => hx))
      refine pw_bind (pw_and (jg_fail j2 (.inr (.inl rfl))) (jb_fail _ _)) ?_
      rintro q5 ⟨h, b⟩
      exact L87 _ _ h.1 (sb_G_tr g2 h.2.1) (sb_B_tr b2 b) (h.2.2.2.trans o2) (fun h0 => absurd h0 h.2.2.1)
  unfold mm_exit
  refine pw_any (fun q10 => ?_)
  refine pw_ifB (fun _ => ?_) (fun _ => L16 _ j sb_G_rf sb_B_rf rfl)
  refine pw_bind (pw_and (jg_fail j (.inl rfl)) (jb_fail _ _)) ?_
  rintro q5 ⟨h, b⟩
  exact L16 _ h.1 h.2.1 b h.2.2.2
theorem jg_simple {S : md_S} (w : Int64) (ln : Int32) (j : sb_J S) : dc_pw (mm_simple_JI S w ln) (sb_C2 10 S) := by
  have L22 : ∀ y, dc_pw (mm_simple_JI_L22 S w ln y) (sb_C2 10 S) := by
    intro y
    unfold mm_simple_JI_L22
    refine pw_letB ?_; rintro _ rfl
    have e : sb_E S (md_i S 29 y) := sb_E_i rfl
    have j1 := sb_E_J e j
    have up : ∀ {H q}, sb_C2 H (md_i S 29 y) q → sb_C2 H S q := fun c => sb_C2_D (sb_B_D (sb_E_B e)) (sb_E_G e) (fun _ => e.1 11 (by decide)) c
    have lf : ∀ {S2 : md_S} {k nu : Int32} {q : md_S × Int32}, (k = 0 ∨ k = 1) → (sb_M S2 q ∧ (q.1.1 12 = 0 → sb_c S2 q.1 = 1 ∧ ∀ (A : Int32 → Prop) (n0 n1 : Int32) (h : Nat), 1 ≤ h → n0.toInt ≤ n1.toInt → (k = 0 ∨ k = 1 ∨ (k = 2 ∧ 0 ≤ nu.toInt ∧ nu.toInt < (S2.1 15).toInt) ∨ (k = 9 ∧ A nu)) → sb_Tr 1 n0 n1 q.1 A h q.2)) → sb_C2 10 S2 q := by
      intro S2 k nu q hk h
      refine sb_C2_M h.1 (fun h1 h2 => ?_)
      have l := h.2 h2
      rw [l.1]
      exact l.2 _ _ _ 10 (by omega) (by rw [h.1.2.2.2.2]; exact Int.le_refl _) (hk.elim .inl (fun h => .inr (.inl h)))
    refine pw_ifB (fun _ => pw_bind (jg_leaf 0 (-1) ln j1) (fun q h => pw_some (up (lf (.inl rfl) h)))) (fun _ => ?_)
    refine pw_ifB (fun _ => pw_bind (jg_leaf 1 (-1) ln j1) (fun q h => pw_some (up (lf (.inr rfl) h)))) (fun _ => ?_)
    refine pw_ifB (fun _ => pw_bind (jg_halt ln j1) (fun q h => pw_some (up (sb_C2_M h.1 (fun h1 h2 => sb_Tr_mono (h.2 h2 _ ((md_i S 29 y).1 15)) (Int.le_refl _) (by omega) (fun _ h => h) (Int.le_refl _) (by rw [h.1.2.2.2.2]; exact Int.le_refl _)))))) (fun _ => ?_)
    refine pw_ifB (fun _ => ?_) (fun _ => ?_)
    · refine pw_bind (pw_and (jg_named 1 j1) (jb_named 1)) ?_
      rintro q5 ⟨⟨j5, g5, o5, n5⟩, b5⟩
      refine pw_bind (jg_leaf 2 q5.2 ln j5) (fun q6 h => ?_)
      refine pw_some (up (sb_C2_D (sb_B_D b5) g5 (fun _ => o5) (sb_C2_M h.1 (fun h1 h2 => ?_))))
      have l := h.2 h2
      rw [l.1]
      have n5 := n5 (by rw [← h.1.2.2.2.1]; exact h1)
      exact l.2 _ _ _ 10 (by omega) (by rw [h.1.2.2.2.2]; exact Int.le_refl _) (.inr (.inr (.inl ⟨rfl, n5⟩)))
    · refine pw_ifB (fun _ => ?_) (fun _ => ?_)
      · refine pw_bind (jg_exit ln j1) (fun q7 h => ?_)
        exact pw_some (up (sb_C2_mono h (fun _ => by omega)))
      · refine pw_ifB (fun _ => ?_) (fun _ => ?_)
        · refine pw_bind (pw_and (jg_named 1 j1) (jb_named 1)) ?_
          rintro q8 ⟨⟨j8, g8, o8, n8⟩, b8⟩
          refine pw_bind (jg_leaf 2 q8.2 ln j8) (fun q9 h9 => ?_)
          refine pw_bind (jg_leaf 1 (-1) ln h9.1.1) (fun q10 h10 => ?_)
          refine pw_bind (jg_node 5 q9.2 q10.2 (-1) ln (-1) h10.1.1) (fun q11 h11 => ?_)
          refine pw_bind (jg_node 6 q11.2 (-1) (-1) ln (-1) h11.1.1) (fun q12 h12 => ?_)
          have m11 := sb_M_tr h9.1 (sb_M_tr h10.1 h11.1)
          refine pw_some (up (sb_C2_D (sb_B_D b8) g8 (fun _ => o8) (sb_C2_M (sb_M_tr m11 h12.1) (fun h1 g12 => ?_))))
          have g11 := sb_G_gt h12.1.2.1 g12
          have g10 := sb_G_gt h11.1.2.1 g11
          have g9 := sb_G_gt h10.1.2.1 g10
          have n8 := n8 (by rw [← (sb_M_tr m11 h12.1).2.2.2.1]; exact h1)
          have l9 := h9.2 g9; have l10 := h10.2 g10
          have c11 := sb_N_c (h11.2 g11); have c12 := sb_N_c (h12.2 g12)
          have t9 := l9.2 (sb_A q8.1) (q8.1.1 15) (q8.1.1 15) 1 (Nat.le_refl _) (Int.le_refl _) (.inr (.inr (.inl ⟨rfl, n8⟩)))
          have t10 := l10.2 (sb_A q8.1) (q8.1.1 15) (q8.1.1 15) 1 (Nat.le_refl _) (Int.le_refl _) (.inr (.inl rfl))
          have t11 := N_two (h11.2 g11) (sb_Tr_G h10.1.2.1.1 t9) t10 (.inl (Nat.le_refl _)) (.inl rfl)
          have t12 := N_un (A := sb_A q8.1) (h12.2 g12) (sb_Tr_mono t11 (Int.le_refl _) (Nat.le_refl _) (fun x h => .inl h) (Int.le_refl _) (Int.le_refl _)) (.inr (.inl ⟨rfl, rfl⟩))
          refine sb_Tr_mono t12 ?_ (by omega) (fun _ h => h) (Int.le_refl _) (by rw [(sb_M_tr m11 h12.1).2.2.2.2]; exact Int.le_refl _)
          have l9 := l9.1; have l10 := l10.1
          dsimp only [sb_c] at *; omega
        · refine pw_bind (pw_and (jg_asked_r j1) jd_asked) ?_
          rintro q13 ⟨⟨j13, g13, o13, t13⟩, d13⟩
          refine pw_bind (jg_await ln q13.2 j13) (fun q14 h => ?_)
          refine pw_some (up (sb_C2_D d13 g13 o13 (sb_C2_M h.1 (fun h1 h2 => ?_))))
          have hf : q13.1.1 10 = 0 := by rw [← h.1.2.2.2.1]; exact h1
          have t := h.2 h2 (sb_QT_QS (t13 hf (sb_G_gt h.1.2.1 h2))) (sb_A q13.1) (q13.1.1 15)
          exact sb_Tr_mono t (Int.le_refl _) (by omega) (fun _ h => h) (Int.le_refl _) (by rw [h.1.2.2.2.2]; exact Int.le_refl _)
  unfold mm_simple_JI
  refine pw_ifB (fun _ => L22 1) (fun _ => pw_ifB (fun _ => L22 1) (fun _ => L22 2))
def mm_ST2 (T : mm_T2) : Prop :=
  (∀ S, sb_J S → dc_pw (T.1 S) (sb_C2 (sb_hs S + 6) S)) ∧
  (∀ S, sb_J S → dc_pw (T.2.1 S) (sb_C2 (sb_hs S + 3) S)) ∧
  (∀ S, sb_J S → dc_pw (T.2.2.1 S) (sb_C2 (sb_hs S) S)) ∧
  (∀ S, sb_J S → dc_pw (T.2.2.2.1 S) (sb_C2 (sb_hs S + 24) S)) ∧
  (∀ S p1, sb_J S → dc_pw (T.2.2.2.2.1 S p1) (sb_C2 (sb_hs S + 24) S)) ∧
  (∀ S p1, sb_J S → dc_pw (T.2.2.2.2.2.1 S p1) (sb_C2 (sb_hs S + 24) S)) ∧
  (∀ S p1 p2, sb_J S → dc_pw (T.2.2.2.2.2.2.1 S p1 p2) (sb_C2 (sb_hs S + 24) S)) ∧
  (∀ S p1, sb_J S → dc_pw (T.2.2.2.2.2.2.2.1 S p1) (sb_C2 (sb_hs S + 24) S)) ∧
  (∀ S p1, sb_J S → dc_pw (T.2.2.2.2.2.2.2.2.1 S p1) (sb_C2 (sb_hs S + 24) S)) ∧
  (∀ S p1 p2, sb_J S → dc_pw (T.2.2.2.2.2.2.2.2.2.1 S p1 p2) (sb_C2 (sb_hs S + 24) S)) ∧
  (∀ S p1, sb_J S → dc_pw (T.2.2.2.2.2.2.2.2.2.2.1 S p1) (sb_C2 (sb_hs S + 24) S)) ∧
  (∀ S p1, sb_J S → dc_pw (T.2.2.2.2.2.2.2.2.2.2.2 S p1) (sb_C2 (sb_hs S + 24) S))
theorem sb_hs_eq {S q : md_S} (h : q.1 11 = S.1 11) : sb_hs q = sb_hs S := by unfold sb_hs; rw [h]
/-- a row of what was read, joined as it grows -/
def sb_sp (k : Int32) (H : Nat) (S0 : md_S) (q : md_S × Int32) : Prop := sb_J q.1 ∧ sb_G S0 q.1 ∧ (q.1.1 10 = 0 → q.1.1 11 = S0.1 11) ∧ (q.1.1 10 = 0 → q.1.1 12 = 0 → ∃ h1, (h1 ≤ H ∨ (h1 ≤ H + 3 ∧ q.1.2.1 30 q.2.toInt.toNat = k)) ∧ sb_Tr (sb_c S0 q.1) (S0.1 15) (q.1.1 15) q.1 (sb_A S0) h1 q.2)
theorem sb_sp_of {k : Int32} {H : Nat} {S : md_S} {q : md_S × Int32} (c : sb_C2 H S q) : sb_sp k H S q := ⟨c.1, c.2.1, c.2.2.1, fun h h2 => ⟨H, .inl (Nat.le_refl _), c.2.2.2 h h2⟩⟩
theorem sb_sp_end {k : Int32} {H : Nat} {S : md_S} {q : md_S × Int32} (c : sb_sp k H S q) : sb_C2 (H + 3) S q := ⟨c.1, c.2.1, c.2.2.1, fun h h2 => by
  obtain ⟨h1, a, t⟩ := c.2.2.2 h h2
  exact sb_Tr_mono t (Int.le_refl _) (by omega) (fun _ h => h) (Int.le_refl _) (Int.le_refl _)⟩
theorem sb_sp_E {k : Int32} {H : Nat} {S0 S q : md_S} {x : Int32} (c : sb_sp k H S0 (S, x)) (e : sb_E S q) : sb_sp k H S0 (q, x) := by
  obtain ⟨a, b, d, t⟩ := c
  refine ⟨sb_E_J e a, sb_G_tr b (sb_E_G e), fun h => ?_, fun h h2 => ?_⟩
  · show q.1 11 = _
    rw [e.1 11 (by decide)]; exact d (sb_G_fa (sb_E_G e) h)
  · obtain ⟨h1, z, t⟩ := t (sb_G_fa (sb_E_G e) h) (sb_G_gt (sb_E_G e) h2)
    refine ⟨h1, ?_, ?_⟩
    · show h1 ≤ H ∨ (h1 ≤ H + 3 ∧ q.2.1 30 x.toInt.toNat = k)
      rw [e.2 30 (by decide)]; exact z
    · show sb_Tr (sb_c S0 q) (S0.1 15) (q.1 15) q (sb_A S0) h1 x
      have hc : sb_c S0 q = sb_c S0 S := by unfold sb_c; rw [e.1 27 (by decide)]
      rw [hc, e.1 15 (by decide)]
      exact sb_Tr_G (sb_E_G e).1 t
theorem sb_sp_two {k : Int32} {H H' : Nat} {S0 q1 q2 : md_S} {x z : Int32} {q3 : md_S × Int32} (c : sb_sp k H S0 (q1, x)) (d : sb_C2 H' q1 (q2, z)) (hH : q1.1 11 = S0.1 11 → H' = H) (p : sb_M q2 q3 ∧ (q3.1.1 12 = 0 → sb_N q2 q3.1 q3.2 k x z (-1) (-1))) (hk : k = 5 ∨ k = 7) : sb_sp k H S0 q3 := by
  obtain ⟨c1, c2, c3, c4⟩ := c
  obtain ⟨d1, d2, d3, d4⟩ := d
  have hf : q3.1.1 10 = 0 → q2.1 10 = 0 := fun h => by rw [← p.1.2.2.2.1]; exact h
  refine ⟨p.1.1, sb_G_tr c2 (sb_G_tr d2 p.1.2.1), fun h => ?_, fun h h2 => ?_⟩
  · rw [p.1.2.2.1, d3 (hf h)]; exact c3 (sb_G_fa d2 (hf h))
  · have f2 := hf h
    have g2 := sb_G_gt p.1.2.1 h2
    have f1 := sb_G_fa d2 f2
    obtain ⟨h1, a, t⟩ := c4 f1 (sb_G_gt d2 g2)
    have hH := hH (c3 f1)
    subst hH
    have u := d4 f2 g2
    have n := p.2 h2
    refine ⟨H' + 3, .inr ⟨Nat.le_refl _, n.2.2.2.2.1.1⟩, ?_⟩
    have hx : 0 ≤ x.toInt := t.1
    have hy : x.toInt < (q1.1 27).toInt := t.2.1
    have w := N_two n (sb_Tr_G d2.1 t) (sb_Tr_mono u (Int.le_refl _) (Nat.le_refl _) (fun x h => sb_al_G c2 x h) (Int.le_refl _) (Int.le_refl _)) (a.imp id (fun a => ⟨a.1, by rw [← a.2]; exact (d2.1.2.1 _ (by omega)).1⟩)) hk
    refine sb_Tr_mono w ?_ (Nat.le_refl _) (fun _ h => h) (Int.le_refl _) (by rw [n.2.2.2.1]; exact Int.le_refl _)
    have := sb_N_c n
    dsimp only [sb_c] at *; omega
theorem jg_body (T : mm_T2) (hT : mm_ST2 T) (S : md_S) (j : sb_J S) : dc_pw (mm_body T S) (sb_C2 (sb_hs S + 6) S) := by
  unfold mm_body
  refine pw_bind (hT.2.1 S j) (fun q7 c => ?_)
  refine pw_letB (fun v8 _ => ?_)
  unfold mm_body_L10
  refine pw_loop (fun x => sb_sp 7 (sb_hs S + 3) S (x.1, x.2.1)) (fun x => sb_sp 7 (sb_hs S + 3) S (x.1, x.2.1)) (sb_sp_of c) ?_ ?_
  · rintro ⟨S1, x1, x2⟩ c1
    unfold mm_body_s10 mm_body_b10
    refine pw_bind (jg_meetsSign _ _) (fun q2 e => ?_)
    have c2 := sb_sp_E c1 e
    refine pw_ifB (fun _ => pw_some c2) (fun _ => ?_)
    refine pw_bind (hT.2.1 _ c2.1) (fun q3 d => ?_)
    refine pw_any (fun q4 => pw_any (fun j5 => ?_))
    refine pw_bind (jg_node 7 x1 q3.2 (-1) _ (-1) d.1) (fun q6 p => ?_)
    exact pw_some (sb_sp_two c2 d (fun h => by rw [sb_hs_eq h]) p (.inr rfl))
  · rintro ⟨S1, x1, x2⟩ c1
    unfold mm_body_L54
    refine pw_letB ?_; rintro _ rfl
    exact pw_some (sb_sp_end (sb_sp_E c1 (sb_E_i rfl)))
theorem jg_row (T : mm_T2) (hT : mm_ST2 T) (S : md_S) (j : sb_J S) : dc_pw (mm_row T S) (sb_C2 (sb_hs S + 3) S) := by
  unfold mm_row
  refine pw_bind (hT.2.2.1 S j) (fun q7 c => ?_)
  refine pw_letB (fun v8 _ => ?_)
  unfold mm_row_L10
  refine pw_loop (fun x => sb_sp 5 (sb_hs S) S (x.1, x.2.1)) (fun x => sb_sp 5 (sb_hs S) S (x.1, x.2.1)) (sb_sp_of c) ?_ ?_
  · rintro ⟨S1, x1, x2⟩ c1
    unfold mm_row_s10 mm_row_b10
    refine pw_bind (jg_meetsSign _ _) (fun q2 e => ?_)
    have c2 := sb_sp_E c1 e
    refine pw_ifB (fun _ => pw_some c2) (fun _ => ?_)
    refine pw_bind (hT.2.2.1 _ c2.1) (fun q3 d => ?_)
    refine pw_any (fun q4 => pw_any (fun j5 => ?_))
    refine pw_bind (jg_node 5 x1 q3.2 (-1) _ (-1) d.1) (fun q6 p => ?_)
    exact pw_some (sb_sp_two c2 d (fun h => by rw [sb_hs_eq h]) p (.inl rfl))
  · rintro ⟨S1, x1, x2⟩ c1
    unfold mm_row_L52
    refine pw_letB ?_; rintro _ rfl
    exact pw_some (sb_sp_end (sb_sp_E c1 (sb_E_i rfl)))
