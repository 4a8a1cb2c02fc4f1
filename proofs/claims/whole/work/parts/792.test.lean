theorem a11 (x : Int32) : x + 1 - 1 = x := i_eq.mpr (by rw [a_sub, a_add, il_1]; have := i_lo x; have := i_hi x; omega)
theorem sb_nz : ¬ (1 : Int32) = 0 := by decide
/-- a piece more -/
def sb_P (S q : md_S) (r k f g : Int32) : Prop := (0 ≤ (S.1 28).toInt ∧ (S.1 28).toInt < 1000) ∧ r = S.1 28 ∧ (q.1 28).toInt = (S.1 28).toInt + 1 ∧ q.1 15 = S.1 15 ∧ (q.2.1 36 r.toInt.toNat = k ∧ q.2.1 37 r.toInt.toNat = f ∧ q.2.1 38 r.toInt.toNat = g) ∧ sb_G S q
theorem jg_piece {S : md_S} (k f g : Int32) (j : sb_J S) : dc_pw (mm_piece_III S k f g) (fun q => sb_J q.1 ∧ sb_G S q.1 ∧ q.1.1 11 = S.1 11 ∧ q.1.1 10 = S.1 10 ∧ (q.1.1 12 = 0 → sb_P S q.1 q.2 k f g)) := by
  obtain ⟨c1, c2, c3, c4, c5, c6⟩ := j
  unfold mm_piece_III
  refine pw_ifB (fun h => ?_) (fun h => ?_)
  · refine pw_letB ?_; rintro _ rfl
    refine pw_some ⟨⟨c1, c2, c3, c4, c5, c6⟩, ?_, rfl, rfl, fun h => absurd h sb_nz⟩
    obtain ⟨⟨a, b, c, d, e, f⟩, g⟩ := sb_G_rf (S := S)
    exact ⟨⟨a, b, c, d, fun h => absurd h sb_nz, f⟩, g⟩
  · refine pw_ixB 1000 rfl (fun j2 h2 ha hb => ?_)
    have k1 := i_lt.mp hb
    rw [il_1000] at k1
    have x1 : (S.1 28 + 1).toInt = (S.1 28).toInt + 1 := by rw [a_add, il_1]; omega
    have x3 := i_nat c2.1
    refine pw_letB ?_; rintro _ rfl
    refine pw_ixB 1000 rfl (fun j4 h4 _ _ => ?_)
    refine pw_letB ?_; rintro _ rfl
    refine pw_ixB 1000 rfl (fun j6 h6 _ _ => ?_)
    refine pw_letB ?_; rintro _ rfl
    refine pw_letB ?_; rintro _ rfl
    subst h2
    replace h4 : j4 = (S.1 28).toNatClampNeg := h4
    replace h6 : j6 = (S.1 28).toNatClampNeg := h6
    subst h4
    subst h6
    have hG : sb_G S (md_i (md_a (md_a (md_a S 36 (S.1 28).toNatClampNeg k) 37 (S.1 28).toNatClampNeg f) 38 (S.1 28).toNatClampNeg g) 28 (S.1 28 + 1)) := by
      refine ⟨⟨⟨Int.le_refl _, Int.le_refl _, ?_, Int.le_refl _⟩, fun _ _ => ⟨rfl, rfl, rfl, rfl, rfl⟩, fun i hi => ?_, fun _ _ => rfl, id, id⟩, rfl, fun _ _ => rfl⟩
      · show (S.1 28).toInt ≤ (S.1 28 + 1).toInt; omega
      · have hn : ¬ i = (S.1 28).toNatClampNeg := by omega
        exact ⟨if_neg hn, if_neg hn, if_neg hn⟩
    refine pw_some ⟨⟨c1, ?_, c3, c4, c5, c6⟩, hG, rfl, rfl, fun _ => ⟨⟨c2.1, k1⟩, a11 _, x1, rfl, ?_, hG⟩⟩
    · show 0 ≤ (S.1 28 + 1).toInt ∧ (S.1 28 + 1).toInt ≤ 1000; omega
    · have e : ((S.1 28 + 1) - 1).toInt.toNat = (S.1 28).toNatClampNeg := by rw [a11]; rfl
      show upd (S.2.1 36) (S.1 28).toNatClampNeg k ((S.1 28 + 1) - 1).toInt.toNat = k ∧ upd (S.2.1 37) (S.1 28).toNatClampNeg f ((S.1 28 + 1) - 1).toInt.toNat = f ∧ upd (S.2.1 38) (S.1 28).toNatClampNeg g ((S.1 28 + 1) - 1).toInt.toNat = g
      rw [e]
      exact ⟨sb_up .., sb_up .., sb_up ..⟩
section PT
variable {S q : md_S} {r k f b0 b1 s s1 s2 : Int32}
theorem P_leaf (n : sb_P S q r 0 f (-1)) (h0 : 0 ≤ f.toInt) (h1 : f.toInt < (S.1 15).toInt) : sb_QT (S.1 28) (q.1 28) q r := by
  obtain ⟨⟨c0, c1⟩, rfl, c2, c3, ⟨d1, d2, d3⟩, g⟩ := n
  refine ⟨c0, by omega, by omega, 1, ?_⟩
  rw [show (q.1 28).toInt.toNat = (S.1 28).toInt.toNat + 1 by omega]
  unfold sb_Q
  exact .inl ⟨rfl, d1, by rw [d2]; exact h0, by rw [d2, c3]; exact h1, d3⟩
theorem P_not (n : sb_P S q r 1 s (-1)) (t : sb_QT b0 (S.1 28) S s) : sb_QT b0 (q.1 28) q r := by
  obtain ⟨⟨c0, c1⟩, rfl, c2, c3, ⟨d1, d2, d3⟩, g⟩ := n
  obtain ⟨a0, a1, a2, m, t⟩ := sb_QT_G g.1 (Int.le_refl _) t
  refine ⟨a0, by omega, by omega, m + 1, ?_⟩
  rw [show (q.1 28).toInt.toNat = (S.1 28).toInt.toNat + 1 by omega]
  unfold sb_Q
  exact .inr (.inl ⟨by omega, d1, by rw [show (S.1 28).toInt.toNat + 1 - 1 = (S.1 28).toInt.toNat from rfl, d2]; omega, d3, t⟩)
theorem P_two (n : sb_P S q r k s1 s2) (t : sb_QT b0 b1 S s1) (u : sb_QT b1 (S.1 28) S s2) (hk : k = 2 ∨ k = 3) : sb_QT b0 (q.1 28) q r := by
  obtain ⟨⟨c0, c1⟩, rfl, c2, c3, ⟨d1, d2, d3⟩, g⟩ := n
  have hu := u.2.1
  obtain ⟨a0, a1, a2, m, t⟩ := sb_QT_G g.1 (by omega) t
  obtain ⟨b0', b1', b2', m2, u⟩ := sb_QT_G g.1 (Int.le_refl _) u
  refine ⟨a0, by omega, by omega, max m m2 + 1, ?_⟩
  rw [show (q.1 28).toInt.toNat = (S.1 28).toInt.toNat + 1 by omega]
  unfold sb_Q
  exact .inr (.inr ⟨b1.toInt.toNat, by omega, by omega, by rw [show (S.1 28).toInt.toNat + 1 - 1 = (S.1 28).toInt.toNat from rfl, d1]; exact hk, by rw [show (S.1 28).toInt.toNat + 1 - 1 = (S.1 28).toInt.toNat from rfl, d2]; omega, by rw [show (S.1 28).toInt.toNat + 1 - 1 = (S.1 28).toInt.toNat from rfl, d3]; omega, sb_Q_eq (Int.le_refl _) m (by omega) (fun _ _ => ⟨rfl, rfl, rfl⟩) t, sb_Q_eq (Int.le_refl _) m2 (by omega) (fun _ _ => ⟨rfl, rfl, rfl⟩) u⟩)
end PT
/-- what reading a test leaves -/
def sb_C1 (S : md_S) (q : md_S × Int32) : Prop := sb_J q.1 ∧ sb_G S q.1 ∧ (q.1.1 10 = 0 → q.1.1 11 = S.1 11) ∧ (q.1.1 10 = 0 → q.1.1 12 = 0 → sb_QT (S.1 28) (q.1.1 28) q.1 q.2)
def mm_ST1 (T : mm_T1) : Prop := (∀ S, sb_J S → dc_pw (T.1 S) (sb_C1 S)) ∧ (∀ S, sb_J S → dc_pw (T.2.1 S) (sb_C1 S)) ∧ (∀ S, sb_J S → dc_pw (T.2.2 S) (sb_C1 S))
/-- a test, then a part of another, then the piece over both -/
theorem sb_C1_two {S0 S q2 : md_S} {q1 : md_S} {x1 : Int32} {z : Int32} {q3 : md_S × Int32} {k : Int32} (c : sb_C1 S0 (S, x1)) (e : sb_E S q1) (d : sb_C1 q1 (q2, z)) (p : sb_J q3.1 ∧ sb_G q2 q3.1 ∧ q3.1.1 11 = q2.1 11 ∧ q3.1.1 10 = q2.1 10 ∧ (q3.1.1 12 = 0 → sb_P q2 q3.1 q3.2 k x1 z)) (hk : k = 2 ∨ k = 3) : sb_C1 S0 q3 := by
  obtain ⟨c1, c2, c3, c4⟩ := c
  obtain ⟨d1, d2, d3, d4⟩ := d
  obtain ⟨p1, p2, p3, p4, p5⟩ := p
  have g1 : sb_G S q2 := sb_G_tr (sb_E_G e) d2
  have hf : q3.1.1 10 = 0 → q2.1 10 = 0 := fun h => by rw [← p4]; exact h
  refine ⟨p1, sb_G_tr c2 (sb_G_tr g1 p2), fun h => ?_, fun h h2 => ?_⟩
  · rw [p3, d3 (hf h), e.1 11 (by decide)]; exact c3 (sb_G_fa g1 (hf h))
  · have h3 := sb_G_gt p2 h2
    have t := c4 (sb_G_fa g1 (hf h)) (sb_G_gt g1 h3)
    have u := d4 (hf h) h3
    rw [e.1 28 (by decide)] at u
    exact P_two (p5 h2) (sb_QT_G g1.1 (Int.le_refl _) t) u hk
theorem jg_asked (T : mm_T1) (hT : mm_ST1 T) (S : md_S) (j : sb_J S) : dc_pw (mm_asked T S) (sb_C1 S) := by
  unfold mm_asked
  refine pw_bind (hT.2.1 S j) (fun q4 c => ?_)
  unfold mm_asked_L5
  refine pw_loop (fun x => sb_C1 S x) (fun x => sb_C1 S x) c ?_ (fun z h => pw_some h)
  rintro ⟨S1, x1⟩ c1
  unfold mm_asked_s5 mm_asked_b5
  refine pw_bind (jg_meetsWord _ _) (fun q1 e => ?_)
  have c2 : sb_C1 S (q1.1, x1) := by
    obtain ⟨a, b, d, t⟩ := c1
    refine ⟨sb_E_J e a, sb_G_tr b (sb_E_G e), fun h => ?_, fun h h2 => ?_⟩
    · rw [e.1 11 (by decide)]; exact d (sb_G_fa (sb_E_G e) h)
    · show sb_QT (S.1 28) (q1.1.1 28) q1.1 x1
      rw [e.1 28 (by decide)]
      exact sb_QT_G (sb_E_G e).1 (Int.le_refl _) (t (sb_G_fa (sb_E_G e) h) (sb_G_gt (sb_E_G e) h2))
  refine pw_ifB (fun _ => pw_some c2) (fun _ => ?_)
  refine pw_bind (hT.2.1 _ c2.1) (fun q2 d => ?_)
  refine pw_bind (jg_piece 3 x1 q2.2 d.1) (fun q3 p => ?_)
  exact pw_some (sb_C1_two c1 e d p (.inr rfl))
theorem jg_clause (T : mm_T1) (hT : mm_ST1 T) (S : md_S) (j : sb_J S) : dc_pw (mm_clause T S) (sb_C1 S) := by
  unfold mm_clause
  refine pw_bind (hT.2.2 S j) (fun q4 c => ?_)
  unfold mm_clause_L5
  refine pw_loop (fun x => sb_C1 S x) (fun x => sb_C1 S x) c ?_ (fun z h => pw_some h)
  rintro ⟨S1, x1⟩ c1
  unfold mm_clause_s5 mm_clause_b5
  refine pw_bind (jg_meetsWord _ _) (fun q1 e => ?_)
  have c2 : sb_C1 S (q1.1, x1) := by
    obtain ⟨a, b, d, t⟩ := c1
    refine ⟨sb_E_J e a, sb_G_tr b (sb_E_G e), fun h => ?_, fun h h2 => ?_⟩
    · rw [e.1 11 (by decide)]; exact d (sb_G_fa (sb_E_G e) h)
    · show sb_QT (S.1 28) (q1.1.1 28) q1.1 x1
      rw [e.1 28 (by decide)]
      exact sb_QT_G (sb_E_G e).1 (Int.le_refl _) (t (sb_G_fa (sb_E_G e) h) (sb_G_gt (sb_E_G e) h2))
  refine pw_ifB (fun _ => pw_some c2) (fun _ => ?_)
  refine pw_bind (hT.2.2 _ c2.1) (fun q2 d => ?_)
  refine pw_bind (jg_piece 2 x1 q2.2 d.1) (fun q3 p => ?_)
  exact pw_some (sb_C1_two c1 e d p (.inl rfl))
theorem sb_J_up {S : md_S} {v : Int32} (j : sb_J S) (h : S.1 10 = 0 → v.toInt ≤ 24) : sb_J (md_i S 11 v) := ⟨j.1, j.2.1, j.2.2.1, j.2.2.2.1, j.2.2.2.2.1, h⟩
theorem jg_part (T : mm_T1) (hT : mm_ST1 T) (S : md_S) (j : sb_J S) : dc_pw (mm_part T S) (sb_C1 S) := by
  have L94 : ∀ S2 x, sb_J S2 → sb_G S S2 → (S2.1 10 = 0 → S2.1 11 = S.1 11 + 1) → (S2.1 10 = 0 → S2.1 12 = 0 → sb_QT (S.1 28) (S2.1 28) S2 x) → dc_pw (mm_part_L94 T S2 x) (sb_C1 S) := by
    intro S2 x j2 g2 o2 t
    unfold mm_part_L94
    refine pw_letB ?_; rintro _ rfl
    have ho : S2.1 10 = 0 → S2.1 11 - 1 = S.1 11 := fun h => by rw [o2 h, a11]
    exact pw_some ⟨sb_J_up j2 (fun h => by rw [ho h]; exact j.2.2.2.2.2 (sb_G_fa g2 h)), sb_G_tr g2 sb_G_11, ho, t⟩
  have L71 : ∀ S2 x y, sb_J S2 → sb_G S S2 → (S2.1 10 = 0 → S2.1 11 = S.1 11 + 1) → (S2.1 10 = 0 → S2.1 12 = 0 → sb_QT (S.1 28) (S2.1 28) S2 y) → dc_pw (mm_part_L71 T S2 x y) (sb_C1 S) := by
    intro S2 x y j2 g2 o2 t
    unfold mm_part_L71
    refine pw_ifB (fun _ => ?_) (fun _ => L94 _ _ j2 g2 o2 t)
    refine pw_bind (jg_meetsSign _ _) (fun q2 e => ?_)
    have o3 : q2.1.1 10 = 0 → q2.1.1 11 = S.1 11 + 1 := fun h => by rw [e.1 11 (by decide)]; exact o2 (sb_G_fa (sb_E_G e) h)
    refine pw_ifB (fun _ => ?_) (fun _ => ?_)
    · refine pw_bind (jg_fail (sb_E_J e j2) (.inl rfl)) (fun q3 h => ?_)
      exact L94 _ _ h.1 (sb_G_tr g2 (sb_G_tr (sb_E_G e) h.2.1)) (fun h0 => absurd h0 h.2.2.1) (fun h0 => absurd h0 h.2.2.1)
    · refine L94 _ _ (sb_E_J e j2) (sb_G_tr g2 (sb_E_G e)) o3 (fun h h2 => ?_)
      rw [e.1 28 (by decide)]
      exact sb_QT_G (sb_E_G e).1 (Int.le_refl _) (t (sb_G_fa (sb_E_G e) h) (sb_G_gt (sb_E_G e) h2))
  have L33 : ∀ x, dc_pw (mm_part_L33 T S x) (sb_C1 S) := by
    intro x
    unfold mm_part_L33
    refine pw_bind (pw_and (jg_deeper j) jb_deeper) ?_
    rintro q4 ⟨⟨j4, g4, o4, _⟩, b4⟩
    refine pw_ifB (fun h => pw_some ⟨j4, g4, fun h0 => ?_, fun h0 => ?_⟩) (fun _ => ?_)
    · rw [h0] at h; exact absurd h (by decide)
    · rw [h0] at h; exact absurd h (by decide)
    · refine pw_bind (jg_advance _) (fun q5 e => ?_)
      have g5 := sb_G_tr g4 (sb_E_G e)
      have b5 := sb_B_tr b4 (sb_E_B e)
      have o5 : q5.1 11 = S.1 11 + 1 := by rw [e.1 11 (by decide), o4]
      refine pw_ifB (fun _ => ?_) (fun _ => ?_)
      · refine pw_bind (hT.1 _ (sb_E_J e j4)) (fun q6 c => ?_)
        refine L71 _ _ _ c.1 (sb_G_tr g5 c.2.1) (fun h => (c.2.2.1 h).trans o5) (fun h h2 => ?_)
        have := c.2.2.2 h h2
        rw [b5.1 28 (by decide)] at this
        exact this
      · refine pw_bind (hT.2.2 _ (sb_E_J e j4)) (fun q7 c => ?_)
        refine pw_bind (jg_piece 1 q7.2 (-1) c.1) (fun q8 p => ?_)
        obtain ⟨p1, p2, p3, p4, p5⟩ := p
        refine L71 _ _ _ p1 (sb_G_tr g5 (sb_G_tr c.2.1 p2)) (fun h => ?_) (fun h h2 => ?_)
        · rw [p3]; rw [p4] at h; exact (c.2.2.1 h).trans o5
        · rw [p4] at h
          have := c.2.2.2 h (sb_G_gt p2 h2)
          rw [b5.1 28 (by decide)] at this
          exact P_not (p5 h2) this
  unfold mm_part
  refine pw_any (fun q9 => ?_)
  refine pw_ifB (fun _ => ?_) (fun _ => L33 _)
  refine pw_any (fun q10 => ?_)
  refine pw_ifB (fun _ => ?_) (fun _ => L33 _)
  refine pw_bind (pw_and (jg_named 0 j) (jb_named 0)) ?_
  rintro q11 ⟨⟨j1, g1, o1, h1⟩, b1⟩
  refine pw_bind (jg_piece 0 q11.2 (-1) j1) (fun q12 p => ?_)
  obtain ⟨p1, p2, p3, p4, p5⟩ := p
  refine pw_some ⟨p1, sb_G_tr g1 p2, fun _ => p3.trans o1, fun h h2 => ?_⟩
  have h3 : q11.1.1 10 = 0 := by rw [← p4]; exact h
  have := P_leaf (p5 h2) (h1 h3).1 (h1 h3).2
  rw [b1.1 28 (by decide)] at this
  exact this
theorem mm_P1_t : ∀ d, mm_ST1 (mm_P1 d)
  | 0 => ⟨fun _ _ => pw_none, fun _ _ => pw_none, fun _ _ => pw_none⟩
  | d + 1 => ⟨jg_asked _ (mm_P1_t d), jg_clause _ (mm_P1_t d), jg_part _ (mm_P1_t d)⟩
theorem jg_asked_r {S : md_S} (j : sb_J S) : dc_pw (mm_asked_r S) (sb_C1 S) := (mm_P1_t mm_d1).1 S j
/-- what a test leaves as it was -/
def sb_D (S q : md_S) : Prop := (∀ k, k ∈ [15, 18, 19, 27] → q.1 k = S.1 k) ∧ (∀ k, k ∈ [23, 26, 30, 31, 32, 33, 35] → q.2.1 k = S.2.1 k)
theorem jd_asked {S : md_S} : dc_pw (mm_asked_r S) (fun q => sb_D S q.1) := pw_mono (mm_asked_r_fr S) (fun q h => by
  refine ⟨fun k hk => h.1 k ?_, fun k hk => h.2.1 k ?_⟩
  · revert hk; simp only [List.mem_cons, List.mem_nil_iff, or_false]; omega
  · revert hk; simp only [List.mem_cons, List.mem_nil_iff, or_false]; omega)
theorem sb_B_D {S q : md_S} (h : sb_B S q) : sb_D S q := ⟨fun k hk => h.1 k (by revert hk; simp only [List.mem_cons, List.mem_nil_iff, or_false]; omega), fun k hk => h.2 k (by revert hk; simp only [List.mem_cons, List.mem_nil_iff, or_false]; omega)⟩
theorem sb_D_tr {S q r : md_S} (h : sb_D S q) (k : sb_D q r) : sb_D S r := ⟨fun j hj => (k.1 j hj).trans (h.1 j hj), fun j hj => (k.2 j hj).trans (h.2 j hj)⟩
