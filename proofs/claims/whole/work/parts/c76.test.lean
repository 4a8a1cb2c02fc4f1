/-! tests: takeEither, takeClause beside asked, clause -/
def tsO (G : hg_E) (t0 : Nat) (H0 : Nat → Option va_E) (K1 K2 n : Nat) (f : Nat → Int32) (A C : Nat → Nat) (B : Nat → Nat → Int32) (Q : Nat → Int32) (el : Nat → Option Nat) (P : Nat → Nat) (ND : Nat → ndT) (M : md_S) (u w : Int) (S' : hg_S) (x : Int32) (q : md_S × Int32) : Prop :=
  ∃ A' C' B' Q' j', PV G t0 H0 K1 K2 n f S' A' C' B' Q' j' el P ND ∧ RM q.1 C' B' n f Q' j' (q.1.1 7).toInt u (w + ((q.1.1 7).toInt - (M.1 7).toInt)) ∧ evT A C B Q M A' C' B' Q' q.1 ∧ (q.1.1 12 = 0 → q.2 = x) ∧ x.toInt = (Q' 11).toInt - 1 ∧ (B' 9 x.toInt.toNat).toInt = (Q' 11).toInt - (Q 11).toInt ∧ (Q 11).toInt < (Q' 11).toInt ∧ (M.1 7).toInt < (q.1.1 7).toInt
/-- a reading of tests by the class and by the reference, in step -/
def TsP (G : hg_E) (t0 : Nat) (H0 : Nat → Option va_E) (K1 K2 n : Nat) (f : Nat → Int32) (d : Nat) (c : Int) (cl : hg_E → hg_S → Nat → Option ((hg_S × Int32) ⊕ hg_X)) (rf : md_S → Option (md_S × Int32)) : Prop :=
  ∀ (S : hg_S) (A C : Nat → Nat) (B : Nat → Nat → Int32) (Q : Nat → Int32) (j : Nat) (el : Nat → Option Nat) (P : Nat → Nat) (ND : Nat → ndT) (M : md_S) (b u w : Int) (q : md_S × Int32), PV G t0 H0 K1 K2 n f S A C B Q j el P ND → RM M C B n f Q j b u w → b ≤ (M.1 7).toInt → 3 * (24 - (M.1 11).toInt) + c ≤ (d : Int) → rf M = some q → dc_wp (cl G S (A 0)) (fun z => (∃ S' x, z = .inl (S', x) ∧ tsO G t0 H0 K1 K2 n f A C B Q el P ND M u w S' x q) ∨ ∃ X : hg_X, z = .inr X ∧ thr t0 H0 K1 K2 n (A 0) (A 1) X q.1)
theorem piece_7 {M : md_S} {k p s : Int32} {q : md_S × Int32} (hq : mm_piece_III M k p s = some q) : q.1.1 7 = M.1 7 := by
  rcases piece_i hq with ⟨-, y⟩ | ⟨-, -, y, -⟩
  · rw [y]; rfl
  · rw [y]; rfl
section TST
variable {G : hg_E} {sz t0 : Nat} {H0 : Nat → Option va_E} {K1 K2 n : Nat} {f : Nat → Int32} {S S' : hg_S} {A C : Nat → Nat} {B : Nat → Nat → Int32} {Q : Nat → Int32} {j : Nat} {el : Nat → Option Nat} {P : Nat → Nat} {ND : Nat → ndT} {M M' : md_S} {b u w w' : Int}

set_option maxHeartbeats 1000000 in
theorem takeEither_t (hok : lw_ok G sz) (hK : 40 * n + 70 ≤ K1 ∧ 200 * n + 400 ≤ K2) {d e : Nat} (ih : TsP G t0 H0 K1 K2 n f d 2 ((hm_P1 d).2.1) ((mm_P1 e).2.1)) : TsP G t0 H0 K1 K2 n f (d + 1) (2 + 1) (hm_PA_takeEither (hm_P1 d)) (mm_asked (mm_P1 e)) := by
  intro S A C B Q j el P ND M b u w q h r hb hd hq
  have r0 := r
  have hn : (n : Int) ≤ 32768 := by have := r.1.1; omega
  delta mm_asked at hq
  obtain ⟨q0, e0, hq⟩ := iv_bind hq
  delta mm_asked_L5 at hq
  obtain ⟨z', ez, hz⟩ := iv_bind hq
  have hz : z' = q := Option.some.inj hz
  subst hz
  have lp : ∀ (q3 z' : md_S × Int32) (φ : Int32), ¬ φ = 0 → stk φ q3.1 → dc_it (mm_asked_s5 (mm_P1 e)) q3 = some z' → stk φ z'.1 := by
    intro q3 z' φ hφ hs hit
    refine mm_asked_L5_sk hφ (mm_P1 e) (mm_P1_sk hφ e) q3.1 q3.2 hs z' ?_
    delta mm_asked_L5
    show (dc_it (mm_asked_s5 (mm_P1 e)) q3).bind _ = _
    rw [hit]; rfl
  delta hm_PA_takeEither
  refine wq_chk h.pa ?_
  refine wq_call (ih S A C B Q j el P ND M b u w q0 h r hb (by omega) e0) ?_
  rintro z (⟨S1, x1, rfl, g⟩ | ⟨X, rfl, g⟩)
  · show dc_wp (hm_PA_takeEither_L7 (hm_P1 d) G S1 (A 0) x1 0) _
    delta hm_PA_takeEither_L7
    have main : dc_wp (dc_it (hm_PA_takeEither_s7 (hm_P1 d) G (A 0)) (S1, x1, 0)) (fun (c : (hg_S × Int32) ⊕ hg_X) => (∃ S' x, c = .inl (S', x) ∧ tsO G t0 H0 K1 K2 n f A C B Q el P ND M u w S' x z') ∨ ∃ X : hg_X, c = .inr X ∧ thr t0 H0 K1 K2 n (A 0) (A 1) X z'.1) := by
      refine it_both (fun (x : hg_S × Int32 × Int32) (y : md_S × Int32) => tsO G t0 H0 K1 K2 n f A C B Q el P ND M u w x.1 x.2.1 y ∧ 0 ≤ x.2.2.toInt ∧ x.2.2.toInt + 1 ≤ (y.1.1 7).toInt) (fun (c : (hg_S × Int32) ⊕ hg_X) (z' : md_S × Int32) => (∃ S' x, c = .inl (S', x) ∧ tsO G t0 H0 K1 K2 n f A C B Q el P ND M u w S' x z') ∨ ∃ X : hg_X, c = .inr X ∧ thr t0 H0 K1 K2 n (A 0) (A 1) X z'.1) ?_ z' (S1, x1, 0) q0 ?_ ez
      · rintro ⟨Sx, ax, ix⟩ ⟨My, ay⟩ ⟨⟨Ax, Cx, Bx, Qx, jx, v, rx, ev, ea, ex, ext, eq, ep⟩, i0, i1⟩ qq hr
        dsimp only at v rx ev ea ex ext eq ep i0 i1
        have q110 := r0.2.2.2.2.2.2.2.2.1.1.1
        have a0 : Ax 0 = A 0 := ev.1 0 (by omega)
        have a1 : Ax 1 = A 1 := ev.1 1 (by omega)
        have rx0 := rx
        obtain ⟨-, ⟨x2, x3, x4⟩, -, ⟨-, x5⟩, ⟨⟨p1, p2, p3⟩, -⟩, -, -, op, ⟨⟨pi1, pi2⟩, pi3, -⟩, ⟨-, -, b7, b8⟩, -⟩ := rx
        have nI : (Int32.ofNat n).toInt = (n : Int) := Int32.toInt_ofNat_of_lt (by omega)
        have hr : mm_asked_b5 (mm_P1 e) My ay = some qq := hr
        delta mm_asked_b5 at hr
        obtain ⟨q1', e1, hr⟩ := iv_bind hr
        have mt := meetsW_i (i := 20) (w := 28530) x3 x5 (by decide) (by decide) e1
        show dc_wp (hm_PA_takeEither_b7 (hm_P1 d) G Sx (A 0) ax ix) _
        delta hm_PA_takeEither_b7
        rw [← a0, ← a1]
        refine wq_gr (x := some (Ax 1)) v.pa rfl ?_
        refine wq_gr (x := some (Ax 2)) v.lx.1 rfl ?_
        refine wq_ln v.lx.2.1 ?_
        rw [if_pos (i_lt.mpr (by omega))]
        refine wq_chk v.pa ?_
        refine wq_call (skip_l hok v rx0 hK (i := 20) (by decide) (M' := q1'.1) (by
          rcases mt with ⟨m1, m2, m3⟩ | ⟨m1, m2⟩
          · exact Or.inl ⟨m1, m3⟩
          · exact Or.inr ⟨m1, congrArg Prod.fst m2⟩)) ?_
        rintro zz (⟨ej, S2, rfl, j2, v2, w2, ra2, of2⟩ | ⟨ej, rfl, eM⟩ | ⟨-, X, rfl, g⟩)
        · have m2 : q1'.2 = 1 := by
            rcases mt with ⟨m1, m2, m3⟩ | ⟨m1, m2⟩
            · exact m2
            · exact absurd ej m1
          rw [if_neg (by rw [m2]; decide)] at hr
          obtain ⟨q2', e2, hr⟩ := iv_bind hr
          obtain ⟨q3', e3, hr⟩ := iv_bind hr
          have hr : qq = .inl (q3'.1, q3'.2) := (Option.some.inj hr).symm
          subst hr
          have c8 : (My.1 4).toInt ≤ (q1'.1.1 7).toInt := ra2.2.2.2.2.1.1
          have t2 : tln 20 = 2 := by decide +kernel
          rw [ej, t2] at x4
          have s11 : q1'.1.1 11 = My.1 11 := ra2.1 11 (by omega) (by omega) (by omega) (by omega) (by omega)
          have s11' : My.1 11 = M.1 11 := ev.2.2.2.2.1 11 (by omega) (by omega) (by omega)
          refine wq_gr (x := some (Ax 5)) v2.pa rfl ?_
          refine wq_gr (x := some (Ax 6)) v2.dr rfl ?_
          refine wq_chk v2.pa ?_
          refine wq_call (ih S2 Ax Cx Bx _ j2 el P ND q1'.1 _ u _ q2' v2 w2 (Int.le_refl _) (by rw [s11, s11']; omega) e2) ?_
          rintro zz (⟨S3, x3', rfl, A3, C3, B3, Q3, j3, v3, w3, ev3, ea3, ex3, ext3, eq3, ep3⟩ | ⟨X, rfl, g⟩)
          · have a6 : A3 6 = Ax 6 := ev3.1 6 (by omega)
            have Q11 : q4 Qx (q1'.1.1 7) (q1'.1.1 4) (q1'.1.1 8) 0 11 = Qx 11 := rfl
            rw [Q11] at ext3 eq3
            have pw := w3.2.2.2.2.2.2.2.2.1.2.1
            have pm := w3.2.2.2.2.2.2.2.2.1.1
            have bw := w3.2.2.2.2.2.2.2.2.2.1.2.2
            have hx1 := (pi3 ax.toInt.toNat (by omega)).1
            have pl : (Qx 11).toInt ≤ (Q3 11).toInt := ev3.2.2.2.2.2.2.2.2.1
            have hx3 := (pw x3'.toInt.toNat (by omega)).1
            have pre := (ev3.2.2.2.2.2.2.2.2.2.1 ax.toInt.toNat (by rw [Q11]; omega)).2.2.2
            have xm : x3'.toInt.toNat = (Q3 11).toInt.toNat - 1 := by omega
            rw [xm] at ext3
            show dc_wp ((hg_chk S3 (some (Ax 6)) 5).bind _) _
            rw [← a6]
            refine wq_chk v3.pi.1 ?_
            refine wq_call (pc_l v3 w3 hK (w' := w + ((q2'.1.1 7).toInt - (M.1 7).toInt)) (p := ax) (s := x3') (p' := ay) (s' := q2'.2) (fun z => ⟨ea ?_, ea3 z⟩) (Or.inr (Or.inr ⟨Or.inr rfl, by omega, by omega, by omega, by omega⟩)) (fun z => absurd z (by decide)) ?_ ?_ e3) ?_
            · have z1 := ev3.2.2.2.2.2.2.2.1 z
              rw [ra2.1 12 (by omega) (by omega) (by omega) (by omega) (by omega)] at z1
              exact z1
            · omega
            · omega
            · rintro ⟨S4, x4'⟩ ⟨z2, z3, A4, C4, B4, v4, w4, ev4, ad, -, -, k3⟩
              have z2 : x4' = Q3 11 := z2
              subst z2
              have k3 := k3 (Or.inr rfl)
              have f4 : q3'.1.1 7 = q2'.1.1 7 := piece_7 e3
              have xi : (ix + 1).toInt = ix.toInt + 1 := by rw [i_addS (by rw [il_1]; omega), il_1]
              refine ⟨_, rfl, Or.inl ⟨(S4, Q3 11, ix + 1), (q3'.1, q3'.2), rfl, rfl, ⟨A4, C4, B4, _, j3, v4, ?_, evT_tr (evT_tr (evT_tr ev (evT_adv ra2 p2)) ev3) ev4, z3, ?_, ?_, ?_, ?_⟩, ?_, ?_⟩⟩
              · show RM q3'.1 C4 B4 n f (q1 Q3 11 (Q3 11 + 1)) j3 (q3'.1.1 7).toInt u (w + ((q3'.1.1 7).toInt - (M.1 7).toInt))
                rw [f4]; exact w4
              · show (Q3 11).toInt = (Q3 11 + 1).toInt - 1
                omega
              · show (B4 9 (Q3 11).toInt.toNat).toInt = (Q3 11 + 1).toInt - (Q 11).toInt
                rw [k3, pre]
                omega
              · show (Q 11).toInt < (Q3 11 + 1).toInt
                omega
              · show (M.1 7).toInt < (q3'.1.1 7).toInt
                rw [f4]; omega
              · show 0 ≤ (ix + 1).toInt
                omega
              · show (ix + 1).toInt + 1 ≤ (q3'.1.1 7).toInt
                rw [f4]; omega
          · exact ⟨_, rfl, Or.inr ⟨.inr X, rfl, fun z' hz' => Or.inr ⟨X, rfl, g.mono (fun φ hφ hs => lp _ _ φ hφ (mm_piece_III_sk hφ _ _ _ _ hs _ e3) hz')⟩⟩⟩
        · have m2 : q1' = (My, 0) := by
            rcases mt with ⟨m1, m2, m3⟩ | ⟨m1, m2⟩
            · exact absurd m1 ej
            · exact m2
          subst m2
          rw [if_pos rfl] at hr
          have hr : qq = .inr (My, ay) := (Option.some.inj hr).symm
          subst hr
          refine ⟨_, rfl, Or.inr ⟨.inl (Sx, ax), rfl, fun z' hz' => Or.inl ⟨Sx, ax, rfl, ?_⟩⟩⟩
          have hz' : (My, ay) = z' := hz'
          subst hz'
          exact ⟨Ax, Cx, Bx, Qx, jx, v, rx0, ev, ea, ex, ext, eq, ep⟩
        · refine ⟨_, rfl, Or.inr ⟨.inr X, rfl, fun z' hz' => Or.inr ⟨X, rfl, g.mono (fun φ hφ hs => ?_)⟩⟩⟩
          rcases iv_if hr with ⟨-, hr⟩ | ⟨-, hr⟩
          · have hr : qq = .inr (q1'.1, ay) := (Option.some.inj hr).symm
            subst hr
            have hz' : (q1'.1, ay) = z' := hz'
            subst hz'
            exact hs
          · obtain ⟨q2', e2, hr⟩ := iv_bind hr
            obtain ⟨q3', e3, hr⟩ := iv_bind hr
            have hr : qq = .inl (q3'.1, q3'.2) := (Option.some.inj hr).symm
            subst hr
            exact lp _ _ φ hφ (mm_piece_III_sk hφ _ _ _ _ ((mm_P1_sk hφ e).2.2.1 q1'.1 hs _ e2) _ e3) hz'
      · obtain ⟨A', C', B', Q', j', v, rx, ev, ea, ex, ext, eq, ep⟩ := g
        have p := r0.2.2.2.2.1
        refine ⟨⟨A', C', B', Q', j', v, rx, ev, ea, ex, ext, eq, ep⟩, by show 0 ≤ (0 : Int32).toInt; decide, ?_⟩
        show (0 : Int32).toInt + 1 ≤ (q0.1.1 7).toInt
        rw [il_0]
        omega
    refine wq_call main ?_
    rintro z (⟨S', x, rfl, g⟩ | ⟨X, rfl, g⟩)
    · exact ⟨_, rfl, Or.inl ⟨S', x, rfl, g⟩⟩
    · exact ⟨_, rfl, Or.inr ⟨X, rfl, g⟩⟩
  · exact ⟨_, rfl, Or.inr ⟨X, rfl, g.mono (fun φ hφ hs => lp _ _ φ hφ hs ez)⟩⟩
set_option maxHeartbeats 1000000 in
theorem takeClause_t (hok : lw_ok G sz) (hK : 40 * n + 70 ≤ K1 ∧ 200 * n + 400 ≤ K2) {d e : Nat} (ih : TsP G t0 H0 K1 K2 n f d 1 ((hm_P1 d).2.2) ((mm_P1 e).2.2)) : TsP G t0 H0 K1 K2 n f (d + 1) (1 + 1) (hm_PA_takeClause (hm_P1 d)) (mm_clause (mm_P1 e)) := by
  intro S A C B Q j el P ND M b u w q h r hb hd hq
  have r0 := r
  have hn : (n : Int) ≤ 32768 := by have := r.1.1; omega
  delta mm_clause at hq
  obtain ⟨q0, e0, hq⟩ := iv_bind hq
  delta mm_clause_L5 at hq
  obtain ⟨z', ez, hz⟩ := iv_bind hq
  have hz : z' = q := Option.some.inj hz
  subst hz
  have lp : ∀ (q3 z' : md_S × Int32) (φ : Int32), ¬ φ = 0 → stk φ q3.1 → dc_it (mm_clause_s5 (mm_P1 e)) q3 = some z' → stk φ z'.1 := by
    intro q3 z' φ hφ hs hit
    refine mm_clause_L5_sk hφ (mm_P1 e) (mm_P1_sk hφ e) q3.1 q3.2 hs z' ?_
    delta mm_clause_L5
    show (dc_it (mm_clause_s5 (mm_P1 e)) q3).bind _ = _
    rw [hit]; rfl
  delta hm_PA_takeClause
  refine wq_chk h.pa ?_
  refine wq_call (ih S A C B Q j el P ND M b u w q0 h r hb (by omega) e0) ?_
  rintro z (⟨S1, x1, rfl, g⟩ | ⟨X, rfl, g⟩)
  · show dc_wp (hm_PA_takeClause_L7 (hm_P1 d) G S1 (A 0) x1 0) _
    delta hm_PA_takeClause_L7
    have main : dc_wp (dc_it (hm_PA_takeClause_s7 (hm_P1 d) G (A 0)) (S1, x1, 0)) (fun (c : (hg_S × Int32) ⊕ hg_X) => (∃ S' x, c = .inl (S', x) ∧ tsO G t0 H0 K1 K2 n f A C B Q el P ND M u w S' x z') ∨ ∃ X : hg_X, c = .inr X ∧ thr t0 H0 K1 K2 n (A 0) (A 1) X z'.1) := by
      refine it_both (fun (x : hg_S × Int32 × Int32) (y : md_S × Int32) => tsO G t0 H0 K1 K2 n f A C B Q el P ND M u w x.1 x.2.1 y ∧ 0 ≤ x.2.2.toInt ∧ x.2.2.toInt + 1 ≤ (y.1.1 7).toInt) (fun (c : (hg_S × Int32) ⊕ hg_X) (z' : md_S × Int32) => (∃ S' x, c = .inl (S', x) ∧ tsO G t0 H0 K1 K2 n f A C B Q el P ND M u w S' x z') ∨ ∃ X : hg_X, c = .inr X ∧ thr t0 H0 K1 K2 n (A 0) (A 1) X z'.1) ?_ z' (S1, x1, 0) q0 ?_ ez
      · rintro ⟨Sx, ax, ix⟩ ⟨My, ay⟩ ⟨⟨Ax, Cx, Bx, Qx, jx, v, rx, ev, ea, ex, ext, eq, ep⟩, i0, i1⟩ qq hr
        dsimp only at v rx ev ea ex ext eq ep i0 i1
        have q110 := r0.2.2.2.2.2.2.2.2.1.1.1
        have a0 : Ax 0 = A 0 := ev.1 0 (by omega)
        have a1 : Ax 1 = A 1 := ev.1 1 (by omega)
        have rx0 := rx
        obtain ⟨-, ⟨x2, x3, x4⟩, -, ⟨-, x5⟩, ⟨⟨p1, p2, p3⟩, -⟩, -, -, op, ⟨⟨pi1, pi2⟩, pi3, -⟩, ⟨-, -, b7, b8⟩, -⟩ := rx
        have nI : (Int32.ofNat n).toInt = (n : Int) := Int32.toInt_ofNat_of_lt (by omega)
        have hr : mm_clause_b5 (mm_P1 e) My ay = some qq := hr
        delta mm_clause_b5 at hr
        obtain ⟨q1', e1, hr⟩ := iv_bind hr
        have mt := meetsW_i (i := 19) (w := 6385252) x3 x5 (by decide) (by decide) e1
        show dc_wp (hm_PA_takeClause_b7 (hm_P1 d) G Sx (A 0) ax ix) _
        delta hm_PA_takeClause_b7
        rw [← a0, ← a1]
        refine wq_gr (x := some (Ax 1)) v.pa rfl ?_
        refine wq_gr (x := some (Ax 2)) v.lx.1 rfl ?_
        refine wq_ln v.lx.2.1 ?_
        rw [if_pos (i_lt.mpr (by omega))]
        refine wq_chk v.pa ?_
        refine wq_call (skip_l hok v rx0 hK (i := 19) (by decide) (M' := q1'.1) (by
          rcases mt with ⟨m1, m2, m3⟩ | ⟨m1, m2⟩
          · exact Or.inl ⟨m1, m3⟩
          · exact Or.inr ⟨m1, congrArg Prod.fst m2⟩)) ?_
        rintro zz (⟨ej, S2, rfl, j2, v2, w2, ra2, of2⟩ | ⟨ej, rfl, eM⟩ | ⟨-, X, rfl, g⟩)
        · have m2 : q1'.2 = 1 := by
            rcases mt with ⟨m1, m2, m3⟩ | ⟨m1, m2⟩
            · exact m2
            · exact absurd ej m1
          rw [if_neg (by rw [m2]; decide)] at hr
          obtain ⟨q2', e2, hr⟩ := iv_bind hr
          obtain ⟨q3', e3, hr⟩ := iv_bind hr
          have hr : qq = .inl (q3'.1, q3'.2) := (Option.some.inj hr).symm
          subst hr
          have c8 : (My.1 4).toInt ≤ (q1'.1.1 7).toInt := ra2.2.2.2.2.1.1
          have t2 : tln 19 = 3 := by decide +kernel
          rw [ej, t2] at x4
          have s11 : q1'.1.1 11 = My.1 11 := ra2.1 11 (by omega) (by omega) (by omega) (by omega) (by omega)
          have s11' : My.1 11 = M.1 11 := ev.2.2.2.2.1 11 (by omega) (by omega) (by omega)
          refine wq_gr (x := some (Ax 5)) v2.pa rfl ?_
          refine wq_gr (x := some (Ax 6)) v2.dr rfl ?_
          refine wq_chk v2.pa ?_
          refine wq_call (ih S2 Ax Cx Bx _ j2 el P ND q1'.1 _ u _ q2' v2 w2 (Int.le_refl _) (by rw [s11, s11']; omega) e2) ?_
          rintro zz (⟨S3, x3', rfl, A3, C3, B3, Q3, j3, v3, w3, ev3, ea3, ex3, ext3, eq3, ep3⟩ | ⟨X, rfl, g⟩)
          · have a6 : A3 6 = Ax 6 := ev3.1 6 (by omega)
            have Q11 : q4 Qx (q1'.1.1 7) (q1'.1.1 4) (q1'.1.1 8) 0 11 = Qx 11 := rfl
            rw [Q11] at ext3 eq3
            have pw := w3.2.2.2.2.2.2.2.2.1.2.1
            have pm := w3.2.2.2.2.2.2.2.2.1.1
            have bw := w3.2.2.2.2.2.2.2.2.2.1.2.2
            have hx1 := (pi3 ax.toInt.toNat (by omega)).1
            have pl : (Qx 11).toInt ≤ (Q3 11).toInt := ev3.2.2.2.2.2.2.2.2.1
            have hx3 := (pw x3'.toInt.toNat (by omega)).1
            have pre := (ev3.2.2.2.2.2.2.2.2.2.1 ax.toInt.toNat (by rw [Q11]; omega)).2.2.2
            have xm : x3'.toInt.toNat = (Q3 11).toInt.toNat - 1 := by omega
            rw [xm] at ext3
            show dc_wp ((hg_chk S3 (some (Ax 6)) 5).bind _) _
            rw [← a6]
            refine wq_chk v3.pi.1 ?_
            refine wq_call (pc_l v3 w3 hK (w' := w + ((q2'.1.1 7).toInt - (M.1 7).toInt)) (p := ax) (s := x3') (p' := ay) (s' := q2'.2) (fun z => ⟨ea ?_, ea3 z⟩) (Or.inr (Or.inr ⟨Or.inl rfl, by omega, by omega, by omega, by omega⟩)) (fun z => absurd z (by decide)) ?_ ?_ e3) ?_
            · have z1 := ev3.2.2.2.2.2.2.2.1 z
              rw [ra2.1 12 (by omega) (by omega) (by omega) (by omega) (by omega)] at z1
              exact z1
            · omega
            · omega
            · rintro ⟨S4, x4'⟩ ⟨z2, z3, A4, C4, B4, v4, w4, ev4, ad, -, -, k3⟩
              have z2 : x4' = Q3 11 := z2
              subst z2
              have k3 := k3 (Or.inl rfl)
              have f4 : q3'.1.1 7 = q2'.1.1 7 := piece_7 e3
              have xi : (ix + 1).toInt = ix.toInt + 1 := by rw [i_addS (by rw [il_1]; omega), il_1]
              refine ⟨_, rfl, Or.inl ⟨(S4, Q3 11, ix + 1), (q3'.1, q3'.2), rfl, rfl, ⟨A4, C4, B4, _, j3, v4, ?_, evT_tr (evT_tr (evT_tr ev (evT_adv ra2 p2)) ev3) ev4, z3, ?_, ?_, ?_, ?_⟩, ?_, ?_⟩⟩
              · show RM q3'.1 C4 B4 n f (q1 Q3 11 (Q3 11 + 1)) j3 (q3'.1.1 7).toInt u (w + ((q3'.1.1 7).toInt - (M.1 7).toInt))
                rw [f4]; exact w4
              · show (Q3 11).toInt = (Q3 11 + 1).toInt - 1
                omega
              · show (B4 9 (Q3 11).toInt.toNat).toInt = (Q3 11 + 1).toInt - (Q 11).toInt
                rw [k3, pre]
                omega
              · show (Q 11).toInt < (Q3 11 + 1).toInt
                omega
              · show (M.1 7).toInt < (q3'.1.1 7).toInt
                rw [f4]; omega
              · show 0 ≤ (ix + 1).toInt
                omega
              · show (ix + 1).toInt + 1 ≤ (q3'.1.1 7).toInt
                rw [f4]; omega
          · exact ⟨_, rfl, Or.inr ⟨.inr X, rfl, fun z' hz' => Or.inr ⟨X, rfl, g.mono (fun φ hφ hs => lp _ _ φ hφ (mm_piece_III_sk hφ _ _ _ _ hs _ e3) hz')⟩⟩⟩
        · have m2 : q1' = (My, 0) := by
            rcases mt with ⟨m1, m2, m3⟩ | ⟨m1, m2⟩
            · exact absurd m1 ej
            · exact m2
          subst m2
          rw [if_pos rfl] at hr
          have hr : qq = .inr (My, ay) := (Option.some.inj hr).symm
          subst hr
          refine ⟨_, rfl, Or.inr ⟨.inl (Sx, ax), rfl, fun z' hz' => Or.inl ⟨Sx, ax, rfl, ?_⟩⟩⟩
          have hz' : (My, ay) = z' := hz'
          subst hz'
          exact ⟨Ax, Cx, Bx, Qx, jx, v, rx0, ev, ea, ex, ext, eq, ep⟩
        · refine ⟨_, rfl, Or.inr ⟨.inr X, rfl, fun z' hz' => Or.inr ⟨X, rfl, g.mono (fun φ hφ hs => ?_)⟩⟩⟩
          rcases iv_if hr with ⟨-, hr⟩ | ⟨-, hr⟩
          · have hr : qq = .inr (q1'.1, ay) := (Option.some.inj hr).symm
            subst hr
            have hz' : (q1'.1, ay) = z' := hz'
            subst hz'
            exact hs
          · obtain ⟨q2', e2, hr⟩ := iv_bind hr
            obtain ⟨q3', e3, hr⟩ := iv_bind hr
            have hr : qq = .inl (q3'.1, q3'.2) := (Option.some.inj hr).symm
            subst hr
            exact lp _ _ φ hφ (mm_piece_III_sk hφ _ _ _ _ ((mm_P1_sk hφ e).2.2.2 q1'.1 hs _ e2) _ e3) hz'
      · obtain ⟨A', C', B', Q', j', v, rx, ev, ea, ex, ext, eq, ep⟩ := g
        have p := r0.2.2.2.2.1
        refine ⟨⟨A', C', B', Q', j', v, rx, ev, ea, ex, ext, eq, ep⟩, by show 0 ≤ (0 : Int32).toInt; decide, ?_⟩
        show (0 : Int32).toInt + 1 ≤ (q0.1.1 7).toInt
        rw [il_0]
        omega
    refine wq_call main ?_
    rintro z (⟨S', x, rfl, g⟩ | ⟨X, rfl, g⟩)
    · exact ⟨_, rfl, Or.inl ⟨S', x, rfl, g⟩⟩
    · exact ⟨_, rfl, Or.inr ⟨X, rfl, g⟩⟩
  · exact ⟨_, rfl, Or.inr ⟨X, rfl, g.mono (fun φ hφ hs => lp _ _ φ hφ hs ez)⟩⟩
end TST
