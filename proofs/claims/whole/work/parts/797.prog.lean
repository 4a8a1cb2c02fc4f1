theorem jd_list {S : md_S} (p : Int32) : dc_pw (mm_list S p) (fun q => q.1 27 = S.1 27 ∧ q.1 19 = S.1 19 ∧ q.2.1 26 = S.2.1 26 ∧ q.1 12 = S.1 12) := pw_mono (mm_list_fr S p) (fun q h => ⟨h.1 27 (by decide), h.1 19 (by decide), h.2.1 26 (by decide), h.1 12 (by decide)⟩)
theorem jg_locals (T : mm_T2) (hT : mm_ST2 T) (S : md_S) (p1 : Int32) (j : sb_J S) : dc_pw (mm_locals T S p1) (sb_C2 (sb_hs S + 24) S) := by
  have L43 : ∀ S2 x4 y0, sb_J S2 → sb_G S S2 → (S2.1 10 = 0 → S2.1 11 = S.1 11) → (S.1 15).toInt ≤ x4.toInt → x4.toInt ≤ (S2.1 15).toInt → (S2.1 10 = 0 → S2.1 12 = 0 → sb_Tr (sb_c S S2) x4 (S2.1 15) S2 (sb_A S) (sb_hs S + 6) y0) → dc_pw (mm_locals_L43 T S2 p1 (S.1 18) (S.1 15) x4 y0) (sb_C2 (sb_hs S + 24) S) := by
    intro S2 x4 y0 j2 g2 o2 h4 h5 t
    unfold mm_locals_L43
    refine pw_bind (pw_and (jg_mustWord _ j2) (jb_mustWord _)) ?_
    rintro q2 ⟨⟨j3, g3, o3⟩, b3⟩
    refine pw_letB ?_; rintro _ rfl
    refine pw_letB (fun v4 hv4 => ?_)
    have gq := sb_G_tr g2 g3
    have j4 : sb_J (md_i q2 18 (S.1 18)) := by
      refine ⟨j3.1, j3.2.1, j3.2.2.1, j3.2.2.2.1, ⟨j.2.2.2.2.1.1, fun i hi => ?_⟩, j3.2.2.2.2.2⟩
      show 0 ≤ (q2.2.1 23 i).toInt ∧ (q2.2.1 23 i).toInt < (q2.1 15).toInt
      rw [gq.1.2.2.2.1 i hi]
      have := j.2.2.2.2.1.2 i hi
      have := gq.1.1.2.1
      omega
    have g4 : sb_G S (md_i q2 18 (S.1 18)) := by
      obtain ⟨⟨⟨a1, a2, a3, a4⟩, a5, a6, a7, a8, a9⟩, a10⟩ := gq
      exact ⟨⟨⟨a1, a2, a3, Int.le_refl _⟩, a5, a6, a7, a8, a9⟩, a10⟩
    have o4 : q2.1 10 = 0 → q2.1 11 = S.1 11 := fun h => o3.trans (o2 (sb_G_fa g3 h))
    have t4 : q2.1 10 = 0 → q2.1 12 = 0 → sb_Tr (sb_c S q2) x4 (q2.1 15) q2 (sb_A S) (sb_hs S + 6) y0 := fun h h2 => by
      have w := t (sb_G_fa g3 h) (sb_G_gt g3 h2)
      have hc : sb_c S q2 = sb_c S S2 := by unfold sb_c; rw [b3.1 27 (by decide)]
      rw [hc, b3.1 15 (by decide)]
      exact sb_Tr_G g3.1 w
    have h6 : x4.toInt ≤ (q2.1 15).toInt := by rw [b3.1 15 (by decide)]; exact h5
    have hv : v4.toInt = x4.toInt - 1 := by rw [hv4, a_sub, il_1]; have := i_hi x4; have := j.2.2.1.1; omega
    unfold mm_locals_L63
    refine pw_loop (fun x => sb_J x.1 ∧ sb_G S x.1 ∧ (x.1.1 10 = 0 → x.1.1 11 = S.1 11) ∧ (S.1 15).toInt - 1 ≤ x.2.2.toInt ∧ x.2.2.toInt < (x.1.1 15).toInt ∧ (x.1.1 10 = 0 → x.1.1 12 = 0 → ∃ n0 : Int32, n0.toInt = x.2.2.toInt + 1 ∧ sb_Tr (sb_c S x.1) n0 (x.1.1 15) x.1 (sb_A S) (sb_hs S + 6) x.2.1)) (fun z => sb_C2 (sb_hs S + 24) S z) ⟨j4, g4, o4, ?_, ?_, fun h h2 => ⟨x4, ?_, t4 h h2⟩⟩ ?_ (fun z hz => pw_some hz)
    · show (S.1 15).toInt - 1 ≤ v4.toInt; omega
    · show v4.toInt < (q2.1 15).toInt; omega
    · show x4.toInt = v4.toInt + 1; omega
    · rintro ⟨S3, x5, x6⟩ ⟨a1, a2, a3, a4, a5, a6⟩
      unfold mm_locals_s63 mm_locals_b63
      replace a4 : (S.1 15).toInt - 1 ≤ x6.toInt := a4
      replace a5 : x6.toInt < (S3.1 15).toInt := a5
      refine pw_ifB (fun h => ?_) (fun h => ?_)
      · refine pw_some ⟨a1, a2, a3, fun h1 h2 => ?_⟩
        obtain ⟨n0, hn, w⟩ := a6 h1 h2
        replace hn : n0.toInt = x6.toInt + 1 := hn
        exact sb_Tr_mono w (Int.le_refl _) (by omega) (fun _ h => h) (by omega) (Int.le_refl _)
      · have h0 : (S.1 15).toInt ≤ x6.toInt := by
          have : ¬ x6.toInt < (S.1 15).toInt := fun h2 => h (i_lt.mpr h2)
          omega
        refine pw_ifB (fun h1 => ?_) (fun h1 => pw_some (sb_C2_no a1 a2 h1))
        refine pw_bind (jg_node 10 x5 (-1) x6 p1 (-1) a1) (fun q1 p => ?_)
        have hx : (x6 + -1).toInt = x6.toInt - 1 := by rw [a_add, il_m1]; have := j.2.2.1.1; have := i_hi x6; omega
        refine pw_some ⟨p.1.1, sb_G_tr a2 p.1.2.1, fun h => p.1.2.2.1.trans (a3 h1), ?_, ?_, fun hf hg => ⟨x6, ?_, ?_⟩⟩
        · show (S.1 15).toInt - 1 ≤ (x6 + -1).toInt; omega
        · show (x6 + -1).toInt < (q1.1.1 15).toInt; rw [p.1.2.2.2.2]; show _ < (S3.1 15).toInt; omega
        · show x6.toInt = (x6 + -1).toInt + 1; omega
        · obtain ⟨n0, hn, w⟩ := a6 h1 (sb_G_gt p.1.2.1 hg)
          have n := p.2 hg
          have u := N_local n w hn (by have := j.2.2.1.1; omega) a5
          refine sb_Tr_mono u ?_ (Nat.le_refl _) (fun _ h => h) (Int.le_refl _) (by rw [n.2.2.2.1]; exact Int.le_refl _)
          have := sb_N_c n
          dsimp only [sb_c] at *; omega
  unfold mm_locals
  refine pw_letB ?_; rintro _ rfl
  refine pw_letB ?_; rintro _ rfl
  refine pw_bind (pw_and (jg_list (S.1 18) j) (jd_list _)) ?_
  rintro q7 ⟨⟨j7, g7, o7⟩, d7⟩
  refine pw_bind (pw_and (jg_mustWord _ j7) (jb_mustWord _)) ?_
  rintro q8 ⟨⟨j8, g8, o8⟩, b8⟩
  refine pw_letB ?_; rintro _ rfl
  have g := sb_G_tr g7 g8
  refine pw_ifB (fun h => L43 _ _ _ j8 g (fun h0 => absurd h0 (sb_pos h)) g.1.1.2.1 (Int.le_refl _) (fun h0 => absurd h0 (sb_pos h))) (fun _ => ?_)
  refine pw_bind (hT.1 _ j8) (fun q10 c => ?_)
  have oo : q8.1 11 = S.1 11 := o8.trans o7
  refine L43 _ _ _ c.1 (sb_G_tr g c.2.1) (fun h => (c.2.2.1 h).trans oo) g.1.1.2.1 c.2.1.1.1.2.1 (fun h h2 => ?_)
  have w := c.2.2.2 h h2
  rw [sb_hs_eq oo] at w
  refine sb_Tr_mono w ?_ (Nat.le_refl _) (fun x h => sb_al_G g x h) (Int.le_refl _) (Int.le_refl _)
  unfold sb_c; rw [b8.1 27 (by decide), d7.1]; exact Int.le_refl _
theorem jg_trap (T : mm_T2) (hT : mm_ST2 T) (S : md_S) (p1 : Int32) (j : sb_J S) : dc_pw (mm_trap T S p1) (sb_C2 (sb_hs S + 24) S) := by
  have L117 : ∀ (S1 S2 : md_S) (v y0 : Int32), sb_G1 S S1 → S1.1 19 = S.1 19 + 1 → (S1.1 19).toInt = (S.1 19).toInt + 1 → (∀ i : Nat, (i : Int) < (S.1 19).toInt → S1.2.1 26 i = S.2.1 26 i) → S1.2.1 26 (S.1 19).toInt.toNat = v → S1.1 27 = S.1 27 → S1.1 15 = S.1 15 → S1.1 11 = S.1 11 → sb_C2 (sb_hs S + 6) S1 (S2, y0) → dc_pw (mm_trap_L117 T S2 p1 v y0) (sb_C2 (sb_hs S + 24) S) := by
    intro S1 S2 v y0 g1 e19 e19' hsr hv e27 e15 e11 c
    unfold mm_trap_L117
    refine pw_bind (pw_and (jg_mustWord _ c.1) (jb_mustWord _)) ?_
    rintro q1 ⟨h, b⟩
    obtain ⟨j1, gq, o1, t1⟩ := sb_C2_must c h b
    refine pw_letB ?_; rintro _ rfl
    refine pw_any (fun q3 => ?_)
    refine pw_letB ?_; rintro _ rfl
    have hts : q1.1 19 - 1 = S.1 19 := by rw [gq.2.1, e19, a11]
    have j2 : sb_J (md_i (md_i q1 19 (q1.1 19 - 1)) 29 q3) := by
      refine ⟨j1.1, j1.2.1, j1.2.2.1, ?_, j1.2.2.2.2.1, j1.2.2.2.2.2⟩
      show 0 ≤ (q1.1 19 - 1).toInt ∧ (q1.1 19 - 1).toInt ≤ 32
      rw [hts]; exact j.2.2.2.1
    have g2 : sb_G S (md_i (md_i q1 19 (q1.1 19 - 1)) 29 q3) := by
      refine ⟨sb_G1_tr g1 gq.1, hts, fun i hi => ?_⟩
      show q1.2.1 26 i = S.2.1 26 i
      rw [gq.2.2 i (by omega)]
      exact hsr i hi
    refine pw_bind (jg_node 8 y0 (-1) v p1 (-1) j2) (fun q5 p => ?_)
    have hf : q5.1.1 10 = 0 → q1.1 10 = 0 := fun h => by have := p.1.2.2.2.1; rw [h] at this; exact this.symm
    refine pw_some ⟨p.1.1, sb_G_tr g2 p.1.2.1, fun h => ?_, fun h h2 => ?_⟩
    · exact p.1.2.2.1.trans ((o1 (hf h)).trans e11)
    · have hg : q1.1 12 = 0 := by have hx := sb_G_gt p.1.2.1 h2; exact hx
      have w := t1 (hf h) hg
      have n := p.2 h2
      have w2 : sb_Tr (sb_c S q1) (S.1 15) (q1.1 15) (md_i (md_i q1 19 (q1.1 19 - 1)) 29 q3) (fun x => sb_A S x ∨ ((8 : Int32) = 8 ∧ x = v)) (sb_hs S + 6) y0 := by
        have w3 := sb_Tr_mono (A2 := fun x => sb_A S x ∨ ((8 : Int32) = 8 ∧ x = v)) w (Int.le_refl _) (Nat.le_refl _) (fun x hx => ?_) (Int.le_refl _) (Int.le_refl _)
        · unfold sb_c at w3; rw [e27, e15] at w3; exact w3
        · obtain ⟨k, hk, e⟩ := hx
          rw [e19'] at hk
          by_cases hz : (k : Int) < (S.1 19).toInt
          · exact .inl ⟨k, hz, by rw [← hsr k hz]; exact e⟩
          · right
            refine ⟨rfl, ?_⟩
            rw [← e, ← hv, show k = (S.1 19).toInt.toNat by omega]
      have u := N_un (A := sb_A S) n w2 (.inr (.inr ⟨rfl, rfl⟩))
      refine sb_Tr_mono u ?_ (by omega) (fun _ h => h) (Int.le_refl _) (by rw [n.2.2.2.1]; exact Int.le_refl _)
      have cn := sb_N_c n
      have cn2 : (q5.1.1 27).toInt - (q1.1 27).toInt = 1 := cn
      dsimp only [sb_c]; omega
  have L16 : ∀ S2, sb_J S2 → sb_G S S2 → sb_B S S2 → S2.1 11 = S.1 11 → dc_pw (mm_trap_L16 T S2 p1) (sb_C2 (sb_hs S + 24) S) := by
    intro S2 j2 g2 b2 o2
    unfold mm_trap_L16
    refine pw_ifB (fun h => pw_some (sb_C2_no j2 g2 (sb_pos h))) (fun _ => ?_)
    refine pw_letB ?_; rintro _ rfl
    refine pw_letB (fun v7 hv7 => ?_)
    refine pw_any (fun j8 => ?_)
    refine pw_letB ?_; rintro _ rfl
    refine pw_any (fun j10 => ?_)
    refine pw_letB ?_; rintro _ rfl
    refine pw_ixB 32 rfl (fun j12 hj12 ha hb => ?_)
    refine pw_letB ?_; rintro _ rfl
    refine pw_letB ?_; rintro _ rfl
    replace hj12 : j12 = (S2.1 19).toNatClampNeg := hj12
    have ha' : 0 ≤ (S2.1 19).toInt := j2.2.2.2.1.1
    have hb' : (S2.1 19).toInt < 32 := by have := i_lt.mp hb; rw [il_32] at this; exact this
    have en := i_nat ha'
    have e19 : (S2.1 19 + 1).toInt = (S2.1 19).toInt + 1 := by rw [a_add, il_1]; omega
    have hS : ∀ S14, S14 = md_i (md_a (md_a (md_a (md_i S2 20 (S2.1 20 + 1)) 24 j8 (S2.1 7)) 25 j10 (S2.1 4 - S2.1 7)) 26 j12 v7) 19 (S2.1 19 + 1) → dc_pw ((mm_advance S14).bind fun q15 => (mm_mustWord q15 26990).bind fun q16 => if (0 : Int32) < (q16.1 10) then (mm_trap_L117 T q16 p1 v7 0) else ((T.1 q16).bind fun q17 => mm_trap_L117 T q17.1 p1 v7 q17.2)) (sb_C2 (sb_hs S + 24) S) := by
      intro S14 hS14
      have j14 : sb_J S14 := by
        rw [hS14]
        refine ⟨j2.1, j2.2.1, j2.2.2.1, ?_, j2.2.2.2.2.1, j2.2.2.2.2.2⟩
        show 0 ≤ (S2.1 19 + 1).toInt ∧ (S2.1 19 + 1).toInt ≤ 32; omega
      have g14 : sb_G1 S S14 := by rw [hS14]; exact g2.1
      have h19 : S14.1 19 = S.1 19 + 1 := by rw [hS14]; show S2.1 19 + 1 = _; rw [b2.1 19 (by decide)]
      have h19' : (S14.1 19).toInt = (S.1 19).toInt + 1 := by rw [h19, ← b2.1 19 (by decide), e19]
      have hsr : ∀ i : Nat, (i : Int) < (S.1 19).toInt → S14.2.1 26 i = S.2.1 26 i := by
        intro i hi
        rw [hS14]
        show upd (S2.2.1 26) j12 v7 i = _
        rw [← b2.2 26 (by decide)]
        rw [← b2.1 19 (by decide)] at hi
        exact if_neg (by omega)
      have hv : S14.2.1 26 (S.1 19).toInt.toNat = v7 := by
        rw [hS14, ← b2.1 19 (by decide)]
        show upd (S2.2.1 26) j12 v7 _ = _
        exact if_pos (by omega)
      have e27 : S14.1 27 = S.1 27 := by rw [hS14]; exact b2.1 27 (by decide)
      have e15 : S14.1 15 = S.1 15 := by rw [hS14]; exact b2.1 15 (by decide)
      have e11 : S14.1 11 = S.1 11 := by rw [hS14]; exact o2
      clear hS14
      refine pw_bind (jg_advance _) (fun q15 e => ?_)
      refine pw_bind (pw_and (jg_mustWord _ (sb_E_J e j14)) (jb_mustWord _)) ?_
      rintro q16 ⟨⟨j16, g16, o16⟩, b16⟩
      have gg := sb_G_tr (sb_E_G e) g16
      refine pw_ifB (fun h => L117 S14 _ _ _ g14 h19 h19' hsr hv e27 e15 e11 (sb_C2_no j16 gg (sb_pos h))) (fun _ => ?_)
      refine pw_bind (hT.1 _ j16) (fun q17 c => ?_)
      have o : q16.1 11 = S14.1 11 := o16.trans (e.1 11 (by decide))
      exact L117 S14 _ _ _ g14 h19 h19' hsr hv e27 e15 e11 (sb_C2_D (sb_D_tr (sb_B_D (sb_E_B e)) (sb_B_D b16)) gg (fun _ => o) (sb_C2_mono c (fun _ => by rw [sb_hs_eq (o.trans e11)]; exact Nat.le_refl _)))
    exact hS _ rfl
  unfold mm_trap
  refine pw_any (fun q18 => ?_)
  refine pw_ifB (fun _ => ?_) (fun _ => L16 _ j sb_G_rf sb_B_rf rfl)
  refine pw_bind (pw_and (jg_fail j (.inl rfl)) (jb_fail _ _)) ?_
  rintro q19 ⟨h, b⟩
  exact L16 _ h.1 h.2.1 b h.2.2.2
theorem mm_P2_t : ∀ d, mm_ST2 (mm_P2 d)
  | 0 => ⟨fun _ _ => pw_none, fun _ _ => pw_none, fun _ _ => pw_none, fun _ _ => pw_none, fun _ _ _ => pw_none, fun _ _ _ => pw_none, fun _ _ _ _ => pw_none, fun _ _ _ => pw_none, fun _ _ _ => pw_none, fun _ _ _ _ => pw_none, fun _ _ _ => pw_none, fun _ _ _ => pw_none⟩
  | d + 1 => ⟨jg_body _ (mm_P2_t d), jg_row _ (mm_P2_t d), jg_statement _ (mm_P2_t d), jg_closed _ (mm_P2_t d), jg_present _ (mm_P2_t d), jg_suspend _ (mm_P2_t d), jg_loop _ (mm_P2_t d), jg_trap _ (mm_P2_t d), jg_locals _ (mm_P2_t d), jg_abort _ (mm_P2_t d), jg_weak _ (mm_P2_t d), jg_every _ (mm_P2_t d)⟩
/-- what is read: one tree -/
theorem jg_program {S : md_S} (j : sb_J S) (h11 : S.1 11 = 0) (h19 : S.1 19 = 0) : dc_pw (mm_program S) (fun q => q.1.1 10 = 0 → sb_J q.1 ∧ (q.1.1 12 = 0 → sb_Tr (q.1.1 27).toInt 0 (q.1.1 15) q.1 (fun _ => False) 582 q.2)) := by
  have L224 : ∀ S2 y0, (S2.1 10 = 0 → sb_J S2 ∧ (S2.1 12 = 0 → sb_Tr (S2.1 27).toInt 0 (S2.1 15) S2 (fun _ => False) 582 y0)) → sb_J S2 → dc_pw (mm_program_L224 S2 y0) (fun q => q.1.1 10 = 0 → sb_J q.1 ∧ (q.1.1 12 = 0 → sb_Tr (q.1.1 27).toInt 0 (q.1.1 15) q.1 (fun _ => False) 582 q.2)) := by
    intro S2 y0 h j2
    unfold mm_program_L224
    refine pw_ifB (fun _ => pw_some h) (fun _ => ?_)
    refine pw_bind (jg_fail j2 (.inl rfl)) (fun q1 k => ?_)
    exact pw_some (fun h0 => absurd h0 k.2.2.1)
  have L196 : ∀ S2, sb_J S2 → S2.1 11 = 0 → S2.1 19 = 0 → dc_pw (mm_program_L196 S2) (fun q => q.1.1 10 = 0 → sb_J q.1 ∧ (q.1.1 12 = 0 → sb_Tr (q.1.1 27).toInt 0 (q.1.1 15) q.1 (fun _ => False) 582 q.2)) := by
    intro S2 j2 o2 k2
    unfold mm_program_L196
    refine pw_letB ?_; rintro _ rfl
    have e : sb_E S2 (md_i S2 17 (S2.1 15 - S2.1 16)) := sb_E_i rfl
    refine pw_ifB (fun h => L224 _ _ (fun h0 => absurd h0 (sb_pos h)) (sb_E_J e j2)) (fun _ => ?_)
    refine pw_bind ((mm_P2_t mm_d2).1 _ (sb_E_J e j2)) (fun q3 c => ?_)
    refine L224 _ _ (fun h => ⟨c.1, fun h2 => ?_⟩) c.1
    have w := c.2.2.2 h h2
    refine sb_Tr_mono w ?_ ?_ (fun x hx => ?_) ?_ (Int.le_refl _)
    · have := (sb_E_J e j2).1.1; unfold sb_c; omega
    · unfold sb_hs; rw [e.1 11 (by decide), o2, il_0]; decide
    · obtain ⟨k, hk, _⟩ := hx
      rw [e.1 19 (by decide), k2, il_0] at hk; omega
    · rw [il_0]; exact (sb_E_J e j2).2.2.1.1
  have L155 : ∀ S2, sb_J S2 → S2.1 11 = 0 → S2.1 19 = 0 → dc_pw (mm_program_L155 S2) (fun q => q.1.1 10 = 0 → sb_J q.1 ∧ (q.1.1 12 = 0 → sb_Tr (q.1.1 27).toInt 0 (q.1.1 15) q.1 (fun _ => False) 582 q.2)) := by
    intro S2 j2 o2 k2
    unfold mm_program_L155
    refine pw_letB ?_; rintro _ rfl
    have e : sb_E S2 (md_i S2 16 (S2.1 15)) := sb_E_i rfl
    refine pw_bind (jg_meetsWord _ _) (fun q5 e5 => ?_)
    have e6 := sb_E_tr e e5
    refine pw_ifB (fun _ => L196 _ (sb_E_J e6 j2) ((e6.1 11 (by decide)).trans o2) ((e6.1 19 (by decide)).trans k2)) (fun _ => ?_)
    refine pw_bind (pw_and (jg_list 0 (sb_E_J e6 j2)) (jd_list 0)) ?_
    rintro q6 ⟨⟨j6, g6, o6⟩, d6⟩
    refine pw_bind (jg_meetsSign _ _) (fun q7 e7 => ?_)
    have x11 : q7.1.1 11 = 0 := by rw [e7.1 11 (by decide), o6, e6.1 11 (by decide), o2]
    have x19 : q7.1.1 19 = 0 := by rw [e7.1 19 (by decide), d6.2.1, e6.1 19 (by decide), k2]
    refine pw_ifB (fun _ => ?_) (fun _ => L196 _ (sb_E_J e7 j6) x11 x19)
    refine pw_bind (pw_and (jg_fail (sb_E_J e7 j6) (.inl rfl)) (jb_fail _ _)) ?_
    rintro q8 ⟨h, b⟩
    exact L196 _ h.1 (h.2.2.2.trans x11) ((b.1 19 (by decide)).trans x19)
  have L104 : ∀ S2, sb_J S2 → S2.1 11 = 0 → S2.1 19 = 0 → dc_pw (mm_program_L104 S2) (fun q => q.1.1 10 = 0 → sb_J q.1 ∧ (q.1.1 12 = 0 → sb_Tr (q.1.1 27).toInt 0 (q.1.1 15) q.1 (fun _ => False) 582 q.2)) := by
    intro S2 j2 o2 k2
    unfold mm_program_L104
    refine pw_ifB (fun h => pw_some (fun h0 => absurd h0 (sb_pos h))) (fun _ => ?_)
    refine pw_letB ?_; rintro _ rfl
    have e : sb_E S2 (md_i S2 5 1) := sb_E_i rfl
    refine pw_bind (jg_advance _) (fun q10 e10 => ?_)
    refine pw_bind (jg_meetsWord _ _) (fun q5 e5 => ?_)
    have e6 := sb_E_tr (sb_E_tr e e10) e5
    refine pw_ifB (fun _ => L155 _ (sb_E_J e6 j2) ((e6.1 11 (by decide)).trans o2) ((e6.1 19 (by decide)).trans k2)) (fun _ => ?_)
    refine pw_bind (pw_and (jg_list 0 (sb_E_J e6 j2)) (jd_list 0)) ?_
    rintro q6 ⟨⟨j6, g6, o6⟩, d6⟩
    refine pw_bind (jg_meetsSign _ _) (fun q7 e7 => ?_)
    have x11 : q7.1.1 11 = 0 := by rw [e7.1 11 (by decide), o6, e6.1 11 (by decide), o2]
    have x19 : q7.1.1 19 = 0 := by rw [e7.1 19 (by decide), d6.2.1, e6.1 19 (by decide), k2]
    refine pw_ifB (fun _ => ?_) (fun _ => L155 _ (sb_E_J e7 j6) x11 x19)
    refine pw_bind (pw_and (jg_fail (sb_E_J e7 j6) (.inl rfl)) (jb_fail _ _)) ?_
    rintro q8 ⟨h, b⟩
    exact L155 _ h.1 (h.2.2.2.trans x11) ((b.1 19 (by decide)).trans x19)
  unfold mm_program mm_program_L2
  refine pw_loop (fun x => sb_J x.1 ∧ x.1.1 11 = 0 ∧ x.1.1 19 = 0) (fun z => sb_J z ∧ z.1 11 = 0 ∧ z.1 19 = 0) ⟨j, h11, h19⟩ ?_ (fun z h => L104 z h.1 h.2.1 h.2.2)
  rintro ⟨S2, x1⟩ ⟨j2, o2, k2⟩
  have L94 : ∀ S3 x1 y0 y1, sb_J S3 → S3.1 11 = 0 → S3.1 19 = 0 → dc_pw (mm_program_L94 S3 x1 y0 y1) (Sum.elim (fun x => sb_J x.1 ∧ x.1.1 11 = 0 ∧ x.1.1 19 = 0) (fun z => sb_J z ∧ z.1 11 = 0 ∧ z.1 19 = 0)) := by
    intro S3 x1 y0 y1 j3 o3 k3
    unfold mm_program_L94
    refine pw_letB ?_; rintro _ rfl
    exact pw_some ⟨j3, o3, k3⟩
  have L73 : ∀ S3 x1, sb_J S3 → S3.1 11 = 0 → S3.1 19 = 0 → dc_pw (mm_program_L73 S3 x1) (Sum.elim (fun x => sb_J x.1 ∧ x.1.1 11 = 0 ∧ x.1.1 19 = 0) (fun z => sb_J z ∧ z.1 11 = 0 ∧ z.1 19 = 0)) := by
    intro S3 x1 j3 o3 k3
    unfold mm_program_L73
    refine pw_any (fun _ => ?_)
    exact pw_ifB (fun _ => L94 _ _ _ _ j3 o3 k3) (fun _ => L94 _ _ _ _ j3 o3 k3)
  have L59 : ∀ y0, dc_pw (mm_program_L59 S2 x1 y0) (Sum.elim (fun x => sb_J x.1 ∧ x.1.1 11 = 0 ∧ x.1.1 19 = 0) (fun z => sb_J z ∧ z.1 11 = 0 ∧ z.1 19 = 0)) := by
    intro y0
    unfold mm_program_L59
    refine pw_ifB (fun _ => ?_) (fun _ => L73 _ _ j2 o2 k2)
    refine pw_bind (pw_and (jg_fail j2 (.inl rfl)) (jb_fail _ _)) ?_
    rintro q ⟨h, b⟩
    exact L73 _ _ h.1 (h.2.2.2.trans o2) ((b.1 19 (by decide)).trans k2)
  have L32 : dc_pw (mm_program_L32 S2 x1) (Sum.elim (fun x => sb_J x.1 ∧ x.1.1 11 = 0 ∧ x.1.1 19 = 0) (fun z => sb_J z ∧ z.1 11 = 0 ∧ z.1 19 = 0)) := by
    unfold mm_program_L32
    refine pw_any (fun _ => ?_)
    refine pw_ifB (fun _ => L59 1) (fun _ => ?_)
    refine pw_any (fun _ => ?_)
    exact pw_ifB (fun _ => L59 1) (fun _ => L59 0)
  unfold mm_program_s2 mm_program_b2
  refine pw_ifB (fun _ => ?_) (fun _ => pw_some ⟨j2, o2, k2⟩)
  refine pw_any (fun _ => ?_)
  refine pw_ifB (fun _ => ?_) (fun _ => L32)
  refine pw_any (fun _ => ?_)
  exact pw_ifB (fun _ => L59 1) (fun _ => L32)
