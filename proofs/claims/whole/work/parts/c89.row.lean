/-! rows and bodies: takeRow, takeBody beside row, body -/
section ROW
variable {G : hg_E} {sz t0' : Nat} {H0 : Nat → Option va_E} {K1 K2 n : Nat} {f : Nat → Int32}

set_option maxHeartbeats 2000000 in
theorem takeRow_t (hA : BUalg) (hok : lw_ok G sz) (hK : 40 * n + 70 ≤ K1 ∧ 200 * n + 400 ≤ K2) {d e : Nat} (ih : StP G t0' H0 K1 K2 n f d 1 ((hm_P2 d).2.2.1) ((mm_P2 e).2.2.1)) : StP G t0' H0 K1 K2 n f (d + 1) (1 + 1) (hm_PA_takeRow (hm_P2 d)) (mm_row (mm_P2 e)) := by
  intro S A C B Q j el P ND M b u w q h r hb rs hd hq
  have r0 := r
  have opx := r.2.2.2.2.2.2.2.1
  have hn : (n : Int) ≤ 32768 := by have := r.1.1; omega
  have p0 := r.2.2.2.2.1.1
  have bu0 := r.2.2.2.2.2.2.2.2.2.1.2
  delta mm_row at hq
  obtain ⟨q0, e0, hq⟩ := iv_bind hq
  have hq : mm_row_L10 (mm_P2 e) q0.1 q0.2 (q0.1.1 29) = some q := hq
  have lp : ∀ (y : md_S × Int32 × Int32) (z' : md_S × Int32 × Int32) (φ : Int32), ¬ φ = 0 → stk φ y.1 → dc_it (mm_row_s10 (mm_P2 e)) y = some z' → stk φ z'.1 := by
    intro y z' φ hφ hs hit
    have k := mm_row_L10_sk hφ (mm_P2 e) (mm_P2_sk hφ e) y.1 y.2.1 y.2.2 hs (md_i z'.1 29 z'.2.2, z'.2.1) (by
      delta mm_row_L10
      show (dc_it (mm_row_s10 (mm_P2 e)) y).bind _ = _
      rw [hit]; rfl)
    have k : stk φ (md_i z'.1 29 z'.2.2) := k
    rcases k with k | ⟨k1, k2, k3⟩
    · exact Or.inl k
    · exact Or.inr ⟨k1, k2, k3⟩
  have lq : ∀ z' : md_S × Int32 × Int32, dc_it (mm_row_s10 (mm_P2 e)) (q0.1, q0.2, q0.1.1 29) = some z' → q = (md_i z'.1 29 z'.2.2, z'.2.1) := by
    intro z' hz
    delta mm_row_L10 at hq
    rw [hz] at hq
    exact (Option.some.inj hq).symm
  have hq0 := hq
  delta mm_row_L10 at hq
  obtain ⟨z', ez, -⟩ := iv_bind hq
  have eq := lq z' ez
  subst eq
  delta hm_PA_takeRow
  refine wq_chk h.pa ?_
  refine wq_call (ih S A C B Q j el P ND M b u w q0 h r hb rs (by omega) e0) ?_
  rintro z (⟨S1, r1, rfl, g⟩ | ⟨X, rfl, g⟩)
  · show dc_wp (hm_PA_takeRow_L7 (hm_P2 d) G S1 (A 0) r1 0) _
    delta hm_PA_takeRow_L7
    have main : dc_wp (dc_it (hm_PA_takeRow_s7 (hm_P2 d) G (A 0)) (S1, r1, 0)) (fun (c : (hg_S × Option Nat) ⊕ hg_X) => (∃ S' r, c = .inl (S', r) ∧ stOc G t0' H0 K1 K2 n f (100 * (2 * (d + 1)) + (26 - (M.1 11).toInt).toNat) A C B Q P ND M u w (M.1 7).toInt S' r z'.1 z'.2.1 z'.2.2) ∨ ∃ X : hg_X, c = .inr X ∧ thr t0' H0 K1 K2 n (A 0) (A 1) X z'.1) := by
      refine it_both (fun (x : hg_S × Option Nat × Int32) (y : md_S × Int32 × Int32) => stOc G t0' H0 K1 K2 n f (100 * (2 * (d + 1)) + (26 - (M.1 11).toInt).toNat) A C B Q P ND M u w (M.1 7).toInt x.1 x.2.1 y.1 y.2.1 y.2.2 ∧ 0 ≤ x.2.2.toInt ∧ x.2.2.toInt + 1 ≤ (y.1.1 7).toInt) (fun (c : (hg_S × Option Nat) ⊕ hg_X) (z' : md_S × Int32 × Int32) => (∃ S' r, c = .inl (S', r) ∧ stOc G t0' H0 K1 K2 n f (100 * (2 * (d + 1)) + (26 - (M.1 11).toInt).toNat) A C B Q P ND M u w (M.1 7).toInt S' r z'.1 z'.2.1 z'.2.2) ∨ ∃ X : hg_X, c = .inr X ∧ thr t0' H0 K1 K2 n (A 0) (A 1) X z'.1) ?_ z' (S1, r1, 0) (q0.1, q0.2, q0.1.1 29) ?_ ez
      · rintro ⟨Sx, ax, ix⟩ ⟨My, sy, cy⟩ ⟨⟨Ax, Cx, Bx, Qx, jx, elx, Px, NDx, T1, i1, I1, v, rx, ev, ⟨er, ei, hT1, cv1⟩, ⟨hR1, fb1, gk1⟩, bu, hser, hpos⟩, i0, i1'⟩ qq hr
        dsimp only at v rx ev er ei hT1 cv1 hR1 fb1 gk1 bu hser hpos i0 i1'
        have a0 : Ax 0 = A 0 := ev.1 0 (by omega)
        have a1 : Ax 1 = A 1 := ev.1 1 (by omega)
        have rx0 := rx
        obtain ⟨-, ⟨x2, x3, x4⟩, -, ⟨-, x5⟩, ⟨⟨p1, p2, p3⟩, -⟩, -, -, op, -, ⟨-, ⟨bn1, bn2, bn3⟩, -, -⟩, -⟩ := rx
        have rsx : RS My Bx Qx := RS_next rs ev bu hser rs.2.1 rs.2.2.1
        have nI : (Int32.ofNat n).toInt = (n : Int) := Int32.toInt_ofNat_of_lt (by omega)
        have hr : mm_row_b10 (mm_P2 e) My sy cy = some qq := hr
        delta mm_row_b10 at hr
        obtain ⟨q1', e1, hr⟩ := iv_bind hr
        have mt := meetsS_i (i := 0) (p := 59) x3 x5 (by decide) (by decide) e1
        show dc_wp (hm_PA_takeRow_b7 (hm_P2 d) G Sx (A 0) ax ix) _
        delta hm_PA_takeRow_b7
        rw [← a0, ← a1]
        refine wq_gr (x := some (Ax 1)) v.pa rfl ?_
        refine wq_gr (x := some (Ax 2)) v.lx.1 rfl ?_
        refine wq_ln v.lx.2.1 ?_
        rw [if_pos (i_lt.mpr (by omega))]
        refine wq_chk v.pa ?_
        refine wq_call (skip_l hok v rx0 hK (i := 26) (by decide) (M' := q1'.1) (by
          rcases mt with ⟨m1, m2, m3⟩ | ⟨m1, m2⟩
          · exact Or.inl ⟨m1, m3⟩
          · exact Or.inr ⟨m1, congrArg Prod.fst m2⟩)) ?_
        rintro zz (⟨ej, S2, rfl, j2, v2, w2, ra2, of2⟩ | ⟨ej, rfl, eM'⟩ | ⟨ej, X, rfl, g⟩)
        · have m2 : q1'.2 = 1 := by
            rcases mt with ⟨m1, m2, m3⟩ | ⟨m1, m2⟩
            · exact m2
            · exact absurd ej m1
          rw [if_neg (by rw [m2]; decide)] at hr
          obtain ⟨q2', e2, hr⟩ := iv_bind hr
          obtain ⟨c3, e3, hr⟩ := iv_bind hr
          obtain ⟨-, -, hr⟩ := iv_ix hr
          obtain ⟨q6, e6, hr⟩ := iv_bind hr
          have hr : qq = .inl (q6.1, q6.2, c3) := (Option.some.inj hr).symm
          subst hr
          have c8 : (My.1 4).toInt ≤ (q1'.1.1 7).toInt := ra2.2.2.2.2.1.1
          have t2' : tln 26 = 1 := by decide +kernel
          rw [ej, t2'] at x4
          have s11 : q1'.1.1 11 = My.1 11 := ra2.1 11 (by omega) (by omega) (by omega) (by omega) (by omega)
          have s11' : My.1 11 = M.1 11 := ev.2.2.1.2.1
          have m13 : q1'.1.1 13 = My.1 13 := ra2.1 13 (by omega) (by omega) (by omega) (by omega) (by omega)
          have m14 : q1'.1.1 14 = My.1 14 := ra2.1 14 (by omega) (by omega) (by omega) (by omega) (by omega)
          have m20 : q1'.1.1 20 = My.1 20 := ra2.1 20 (by omega) (by omega) (by omega) (by omega) (by omega)
          have m12 : q1'.1.1 12 = My.1 12 := ra2.1 12 (by omega) (by omega) (by omega) (by omega) (by omega)
          have evA : evS Ax Cx Bx Qx Px NDx My Ax Cx Bx (q4 Qx (q1'.1.1 7) (q1'.1.1 4) (q1'.1.1 8) 0) Px NDx q1'.1 := evS_adv ra2 p2
          have eA := eM_ev evA
          refine wq_gr (x := some (Ax 5)) v2.pa rfl ?_
          refine wq_chk v2.pa ?_
          refine wq_call (ih S2 Ax Cx Bx _ j2 elx Px NDx q1'.1 _ _ _ q2' v2 w2 (Int.le_refl _) (RS_adv rsx ra2 p2) (by rw [s11, s11']; omega) e2) ?_
          rintro zz (⟨S3, r3, rfl, A3, C3, B3, Q3, j3, el3, P3, ND3, T2, i2, I2, v3, w3, ev3, ⟨er3, ei3, hT2, cv2⟩, ⟨hR2, fb2, gk2⟩, bu3, hser3, hpos3⟩ | ⟨X, rfl, g⟩)
          · have Q12 : q4 Qx (q1'.1.1 7) (q1'.1.1 4) (q1'.1.1 8) 0 12 = Qx 12 := rfl
            have Q9 : q4 Qx (q1'.1.1 7) (q1'.1.1 4) (q1'.1.1 8) 0 9 = Qx 9 := rfl
            rw [eA, m13, m14, m20, Q9] at bu3
            rw [m20] at hser3
            rw [Q12] at cv2
            have sz3 : (Qx 12).toInt ≤ (Q3 12).toInt := ev3.2.2.2.1.1
            have nd3 : ∀ i, i < (Qx 12).toInt.toNat → P3 i = Px i ∧ ND3 i = NDx i := ev3.2.2.2.1.2
            have hT1' : repC ND3 T1 i1 I1 := repC_ext _ _ _ hT1 (fun k hk => (nd3 k ((cv1.1 k).mp hk).2).2)
            have pi1 : P3 i1 = Px i1 := (nd3 i1 (by omega)).1
            have a5 : A3 5 = Ax 5 := ev3.1 5 (by omega)
            have a03 : A3 0 = Ax 0 := ev3.1 0 (by omega)
            have er : ax = some (P3 i1) := by rw [pi1]; exact er
            have nd1 := v3.nd i1 (by omega)
            have w30 := w3
            have p33 := w3.2.2.2.2.1.1
            have szA : (Q 12).toInt ≤ (Qx 12).toInt := ev.2.2.2.1.1
            have bw3 := w3.2.2.2.2.2.2.2.2.2.1.2
            have rc3 := RC_of v3 w3 hK
            show dc_wp ((hg_gi S3 ax 8 1).bind _) _
            rw [er]
            refine wq_gi (x := (ND3 i1).2.1) nd1.2.2.1 rfl ?_
            show dc_wp ((hg_chk S3 (some (Ax 5)) 6).bind _) _
            refine chkD v3 a5 ?_
            refine wq_call (jn2_t v3 rc3 a5 (by omega) hT1' hT2 (cov_app cv1 cv2 (by omega) (by omega)) (by omega) rfl er3 (sv := -1)) ?_
            rintro ⟨S4, r4⟩ ⟨A4, C4, Q4, el4, P4, ND4, i4, I4, v4, rc4, ev4, z4, er4, ei4, hT4, cv4⟩
            have f7 : q6.1.1 7 = q2'.1.1 7 := (node_r e6).1.1 7 (by omega) (by omega)
            have xi : (ix + 1).toInt = ix.toInt + 1 := by rw [i_addS (by rw [il_1]; omega), il_1]
            have evx := evS_tr (evS_tr (evS_tr ev evA) ev3) (evS_C (B := B3) (M := q2'.1) ev4)
            have evr := (node_r e6).1
            have ln1 := repC_ln hT1'
            have a9 : Q4 9 = Q3 9 := ev4.2.2.1 9 (by omega) (by omega)
            have r20 : q6.1.1 20 = q2'.1.1 20 := evr.1 20 (by omega) (by omega)
            have r13 : q6.1.1 13 = q2'.1.1 13 := evr.1 13 (by omega) (by omega)
            have r14 : q6.1.1 14 = q2'.1.1 14 := evr.1 14 (by omega) (by omega)
            have z11 : (q1'.1.1 11).toInt = (M.1 11).toInt := by rw [s11, s11']
            have q411 : Q4 11 = Q3 11 := ev4.2.2.1 11 (by omega) (by omega)
            have x15 : q1'.1.1 15 = My.1 15 := ra2.1 15 (by omega) (by omega) (by omega) (by omega) (by omega)
            have y15 : q6.1.1 15 = q2'.1.1 15 := evr.1 15 (by omega) (by omega)
            have m15a : (M.1 15).toInt ≤ (My.1 15).toInt := ev.2.2.2.2.2.2.2.2.2
            have m15b : (q1'.1.1 15).toInt ≤ (q2'.1.1 15).toInt := ev3.2.2.2.2.2.2.2.2.2
            have n11a : (Q 11).toInt ≤ (Qx 11).toInt := ev.2.2.2.2.1.1
            have n11b : (Qx 11).toInt ≤ (Q3 11).toInt := ev3.2.2.2.2.1.1
            have e2x := evS_tr (evS_C (B := B3) (M := q2'.1) ev4) (evS_R evr)
            have G1 := fb1.get (evS_rf (A := A) (C := C) (P := P) (ND := ND)) (evS_tr (evS_tr evA ev3) e2x)
            have G2 : FG (pOk (B3 6) (B3 7) (B3 9) (Q 11).toInt (Q4 11).toInt) (B3 9) (sV B M) T2 (100 * (2 * d) + (26 - (q1'.1.1 11).toInt).toNat) ((Q3 11).toInt - (Qx 11).toInt) (q1'.1.1 15).toInt (q2'.1.1 15).toInt := fb2.get (evS_tr ev evA) e2x
            have fbx : FB M Q B q6.1 Q4 B3 (100 * (2 * (d + 1)) + (26 - (M.1 11).toInt).toNat) (Tseq (ND3 i1).2.1 T1 T2) := FG_2 (k := 0) (ka := 0) G1 G2 (fun t L t' L' g k => (FU_seq g k (by omega) (by omega)).eqt (by omega)) (by omega) (by rw [q411]; omega) (by rw [x15]; exact Int.le_refl _) (by rw [y15]; rw [x15] at m15b; rw [x15]; omega)
            have gkx : GK (tsz (Tseq (ND3 i1).2.1 T1 T2) : Int) (Q4 11).toInt M q6.1 := gk_tr (gk_tr (gk_tr gk1 (gk_adv (w := (Qx 11).toInt) ra2) (Int.le_refl _) (Int.le_refl _) rfl) gk2 n11b (by omega) rfl) (gk_node e6) (by rw [q411]; exact Int.le_refl _) (by omega) (by rw [tsz_t2]; omega)
            refine ⟨_, rfl, Or.inl ⟨(S4, r4, ix + 1), (q6.1, q6.2, c3), rfl, rfl, ⟨A4, C4, B3, Q4, j3, el4, P4, ND4, Tseq (ND3 i1).2.1 T1 T2, i4, I4, v4, ?_, evS_tr evx (evS_R evr), ⟨er4, ei4, hT4, cv4⟩, ⟨?_, fbx, gkx⟩, ?_, ?_, ?_⟩, ?_, ?_⟩⟩
            · show RM q6.1 C4 B3 n f Q4 j3 (q6.1.1 7).toInt (u + 6 * ((q6.1.1 7).toInt - (M.1 7).toInt)) (w + ((q6.1.1 7).toInt - (M.1 7).toInt))
              rw [f7]
              refine RM_w (RM_R (RM_C w30 ev4 rc4 (u' := u + 6 * ((q2'.1.1 7).toInt - (M.1 7).toInt)) ?_ ?_) evr) ?_ ?_
              · omega
              · omega
              · omega
              · rw [f7]; omega
            · intro z
              have zb := (evr.2.2.2 z).1
              have l1 : q2'.1.2.1 34 sy.toInt.toNat = (ND3 i1).2.1 := by
                rw [repR_ln (repR_S hR1 (evS_tr evA ev3) zb), ln1]
              rw [← l1]
              exact (nd2_r (u := -1) (m := -1) (sv := -1) (fun z => repR_S hR1 (evS_tr evA ev3) z) hR2 rfl e6).2 z
            · have al := (hA (eM B M) (M.1 20) (Q 9) (M.1 13) (M.1 14) (M.1 7).toInt rs.1 rs.2.1 (by have := rs.2.2.1; omega)).2.2.2.1 T1 T2 (ND3 i1).2.1 cy (q2'.1.1 29) (My.1 20) (q2'.1.1 20) (Qx 9) (Q3 9) (My.1 13) (q2'.1.1 13) (My.1 14) (q2'.1.1 14) _ _ (BU_end bu (p'' := (q1'.1.1 7).toInt) (by omega)) (by rw [← eM_ev ev]; exact bu3) (by have := rs.2.2.1; omega)
              rw [a9, r20, r13, r14, f7]
              exact al.1 c3 e3
            · rw [r20, f7]
              omega
            · rw [f7]; omega
            · show 0 ≤ (ix + 1).toInt
              omega
            · show (ix + 1).toInt + 1 ≤ (q6.1.1 7).toInt
              rw [f7]; omega
          · exact ⟨_, rfl, Or.inr ⟨.inr X, rfl, fun z' hz' => Or.inr ⟨X, rfl, g.mono (fun φ hφ hs => lp (q6.1, q6.2, c3) _ φ hφ (mm_node_IIIIII_sk hφ _ _ _ _ _ _ _ hs _ e6) hz')⟩⟩⟩
        · have m2 : q1' = (My, 0) := by
            rcases mt with ⟨m1, m2, m3⟩ | ⟨m1, m2⟩
            · exact absurd m1 ej
            · exact m2
          subst m2
          rw [if_pos rfl] at hr
          have hr : qq = .inr (My, sy, cy) := (Option.some.inj hr).symm
          subst hr
          refine ⟨_, rfl, Or.inr ⟨.inl (Sx, ax), rfl, fun z' hz' => Or.inl ⟨Sx, ax, rfl, ?_⟩⟩⟩
          have hz' : (My, sy, cy) = z' := hz'
          subst hz'
          exact ⟨Ax, Cx, Bx, Qx, jx, elx, Px, NDx, T1, i1, I1, v, rx0, ev, ⟨er, ei, hT1, cv1⟩, ⟨hR1, fb1, gk1⟩, bu, hser, hpos⟩
        · refine ⟨_, rfl, Or.inr ⟨.inr X, rfl, fun z' hz' => Or.inr ⟨X, rfl, g.mono (fun φ hφ hs => ?_)⟩⟩⟩
          have m2 : q1'.2 = 1 := by
            rcases mt with ⟨m1, m2, m3⟩ | ⟨m1, m2⟩
            · exact m2
            · exact absurd ej m1
          rw [if_neg (by rw [m2]; decide)] at hr
          obtain ⟨q2', e2, hr⟩ := iv_bind hr
          obtain ⟨c3, e3, hr⟩ := iv_bind hr
          obtain ⟨-, -, hr⟩ := iv_ix hr
          obtain ⟨q6, e6, hr⟩ := iv_bind hr
          have hr : qq = .inl (q6.1, q6.2, c3) := (Option.some.inj hr).symm
          subst hr
          exact lp (q6.1, q6.2, c3) _ φ hφ (mm_node_IIIIII_sk hφ _ _ _ _ _ _ _ ((mm_P2_sk hφ e).2.2.2.1 q1'.1 hs _ e2) _ e6) hz'
      · obtain ⟨A', C', B', Q', j', el', P', ND', T, i, I, g1, g2, g3, g4, g5, g6, g7, g8⟩ := g
        refine ⟨⟨A', C', B', Q', j', el', P', ND', T, i, I, g1, g2, g3, g4, ⟨g5.1, g5.2.1.up (by omega), g5.2.2⟩, g6, g7, g8⟩, by show 0 ≤ (0 : Int32).toInt; decide, ?_⟩
        show (0 : Int32).toInt + 1 ≤ (q0.1.1 7).toInt
        rw [il_0]
        omega
    refine wq_call main ?_
    rintro z (⟨S', r', rfl, g⟩ | ⟨X, rfl, g⟩)
    · refine ⟨_, rfl, Or.inl ⟨S', r', rfl, ?_⟩⟩
      obtain ⟨A', C', B', Q', j', el', P', ND', T, i, I, g1, g2, g3, g4, g5, g6, g7, g8⟩ := g
      exact ⟨A', C', B', Q', j', el', P', ND', T, i, I, g1, RM_i g2 (by omega), evS_tr g3 (evS_i (by omega)), g4, ⟨fun z => repR_ext (M := z'.1) (M' := md_i z'.1 29 z'.2.2) (Int.le_refl _) (fun _ _ _ => rfl) T _ (g5.1 z), g5.2.1, g5.2.2⟩, g6, g7, g8⟩
    · exact ⟨_, rfl, Or.inr ⟨X, rfl, g.mono (fun φ hφ hs => stk_i (by decide) (by decide) (by decide) hs)⟩⟩
  · exact ⟨_, rfl, Or.inr ⟨X, rfl, g.mono (fun φ hφ hs => stk_i (by decide) (by decide) (by decide) (lp (q0.1, q0.2, q0.1.1 29) _ φ hφ hs ez))⟩⟩
set_option maxHeartbeats 2000000 in
theorem takeBody_t (hA : BUalg) (hok : lw_ok G sz) (hK : 40 * n + 70 ≤ K1 ∧ 200 * n + 400 ≤ K2) {d e : Nat} (ih : StP G t0' H0 K1 K2 n f d 2 ((hm_P2 d).2.1) ((mm_P2 e).2.1)) : StP G t0' H0 K1 K2 n f (d + 1) (2 + 1) (hm_PA_takeBody (hm_P2 d)) (mm_body (mm_P2 e)) := by
  intro S A C B Q j el P ND M b u w q h r hb rs hd hq
  have r0 := r
  have opx := r.2.2.2.2.2.2.2.1
  have hn : (n : Int) ≤ 32768 := by have := r.1.1; omega
  have p0 := r.2.2.2.2.1.1
  have bu0 := r.2.2.2.2.2.2.2.2.2.1.2
  delta mm_body at hq
  obtain ⟨q0, e0, hq⟩ := iv_bind hq
  have hq : mm_body_L10 (mm_P2 e) q0.1 q0.2 (q0.1.1 29) = some q := hq
  have lp : ∀ (y : md_S × Int32 × Int32) (z' : md_S × Int32 × Int32) (φ : Int32), ¬ φ = 0 → stk φ y.1 → dc_it (mm_body_s10 (mm_P2 e)) y = some z' → stk φ z'.1 := by
    intro y z' φ hφ hs hit
    have k := mm_body_L10_sk hφ (mm_P2 e) (mm_P2_sk hφ e) y.1 y.2.1 y.2.2 hs (md_i z'.1 29 z'.2.2, z'.2.1) (by
      delta mm_body_L10
      show (dc_it (mm_body_s10 (mm_P2 e)) y).bind _ = _
      rw [hit]; rfl)
    have k : stk φ (md_i z'.1 29 z'.2.2) := k
    rcases k with k | ⟨k1, k2, k3⟩
    · exact Or.inl k
    · exact Or.inr ⟨k1, k2, k3⟩
  have lq : ∀ z' : md_S × Int32 × Int32, dc_it (mm_body_s10 (mm_P2 e)) (q0.1, q0.2, q0.1.1 29) = some z' → q = (md_i z'.1 29 z'.2.2, z'.2.1) := by
    intro z' hz
    delta mm_body_L10 at hq
    rw [hz] at hq
    exact (Option.some.inj hq).symm
  have hq0 := hq
  delta mm_body_L10 at hq
  obtain ⟨z', ez, -⟩ := iv_bind hq
  have eq := lq z' ez
  subst eq
  delta hm_PA_takeBody
  refine wq_chk h.pa ?_
  refine wq_call (ih S A C B Q j el P ND M b u w q0 h r hb rs (by omega) e0) ?_
  rintro z (⟨S1, r1, rfl, g⟩ | ⟨X, rfl, g⟩)
  · show dc_wp (hm_PA_takeBody_L7 (hm_P2 d) G S1 (A 0) r1 0) _
    delta hm_PA_takeBody_L7
    have main : dc_wp (dc_it (hm_PA_takeBody_s7 (hm_P2 d) G (A 0)) (S1, r1, 0)) (fun (c : (hg_S × Option Nat) ⊕ hg_X) => (∃ S' r, c = .inl (S', r) ∧ stOc G t0' H0 K1 K2 n f (100 * (2 * (d + 1)) + (26 - (M.1 11).toInt).toNat) A C B Q P ND M u w (M.1 7).toInt S' r z'.1 z'.2.1 z'.2.2) ∨ ∃ X : hg_X, c = .inr X ∧ thr t0' H0 K1 K2 n (A 0) (A 1) X z'.1) := by
      refine it_both (fun (x : hg_S × Option Nat × Int32) (y : md_S × Int32 × Int32) => stOc G t0' H0 K1 K2 n f (100 * (2 * (d + 1)) + (26 - (M.1 11).toInt).toNat) A C B Q P ND M u w (M.1 7).toInt x.1 x.2.1 y.1 y.2.1 y.2.2 ∧ 0 ≤ x.2.2.toInt ∧ x.2.2.toInt + 1 ≤ (y.1.1 7).toInt) (fun (c : (hg_S × Option Nat) ⊕ hg_X) (z' : md_S × Int32 × Int32) => (∃ S' r, c = .inl (S', r) ∧ stOc G t0' H0 K1 K2 n f (100 * (2 * (d + 1)) + (26 - (M.1 11).toInt).toNat) A C B Q P ND M u w (M.1 7).toInt S' r z'.1 z'.2.1 z'.2.2) ∨ ∃ X : hg_X, c = .inr X ∧ thr t0' H0 K1 K2 n (A 0) (A 1) X z'.1) ?_ z' (S1, r1, 0) (q0.1, q0.2, q0.1.1 29) ?_ ez
      · rintro ⟨Sx, ax, ix⟩ ⟨My, sy, cy⟩ ⟨⟨Ax, Cx, Bx, Qx, jx, elx, Px, NDx, T1, i1, I1, v, rx, ev, ⟨er, ei, hT1, cv1⟩, ⟨hR1, fb1, gk1⟩, bu, hser, hpos⟩, i0, i1'⟩ qq hr
        dsimp only at v rx ev er ei hT1 cv1 hR1 fb1 gk1 bu hser hpos i0 i1'
        have a0 : Ax 0 = A 0 := ev.1 0 (by omega)
        have a1 : Ax 1 = A 1 := ev.1 1 (by omega)
        have rx0 := rx
        obtain ⟨-, ⟨x2, x3, x4⟩, -, ⟨-, x5⟩, ⟨⟨p1, p2, p3⟩, -⟩, -, -, op, -, ⟨-, ⟨bn1, bn2, bn3⟩, -, -⟩, -⟩ := rx
        have rsx : RS My Bx Qx := RS_next rs ev bu hser rs.2.1 rs.2.2.1
        have nI : (Int32.ofNat n).toInt = (n : Int) := Int32.toInt_ofNat_of_lt (by omega)
        have hr : mm_body_b10 (mm_P2 e) My sy cy = some qq := hr
        delta mm_body_b10 at hr
        obtain ⟨q1', e1, hr⟩ := iv_bind hr
        have mt := meetsS_i (i := 4) (p := 256) x3 x5 (by decide) (by decide) e1
        show dc_wp (hm_PA_takeBody_b7 (hm_P2 d) G Sx (A 0) ax ix) _
        delta hm_PA_takeBody_b7
        rw [← a0, ← a1]
        refine wq_gr (x := some (Ax 1)) v.pa rfl ?_
        refine wq_gr (x := some (Ax 2)) v.lx.1 rfl ?_
        refine wq_ln v.lx.2.1 ?_
        rw [if_pos (i_lt.mpr (by omega))]
        refine wq_chk v.pa ?_
        refine wq_call (skip_l hok v rx0 hK (i := 30) (by decide) (M' := q1'.1) (by
          rcases mt with ⟨m1, m2, m3⟩ | ⟨m1, m2⟩
          · exact Or.inl ⟨m1, m3⟩
          · exact Or.inr ⟨m1, congrArg Prod.fst m2⟩)) ?_
        rintro zz (⟨ej, S2, rfl, j2, v2, w2, ra2, of2⟩ | ⟨ej, rfl, eM'⟩ | ⟨ej, X, rfl, g⟩)
        · have m2 : q1'.2 = 1 := by
            rcases mt with ⟨m1, m2, m3⟩ | ⟨m1, m2⟩
            · exact m2
            · exact absurd ej m1
          rw [if_neg (by rw [m2]; decide)] at hr
          obtain ⟨q2', e2, hr⟩ := iv_bind hr
          obtain ⟨c3, e3, hr⟩ := iv_bind hr
          obtain ⟨-, -, hr⟩ := iv_ix hr
          obtain ⟨q6, e6, hr⟩ := iv_bind hr
          have hr : qq = .inl (q6.1, q6.2, c3) := (Option.some.inj hr).symm
          subst hr
          have c8 : (My.1 4).toInt ≤ (q1'.1.1 7).toInt := ra2.2.2.2.2.1.1
          have t2' : tln 30 = 2 := by decide +kernel
          rw [ej, t2'] at x4
          have s11 : q1'.1.1 11 = My.1 11 := ra2.1 11 (by omega) (by omega) (by omega) (by omega) (by omega)
          have s11' : My.1 11 = M.1 11 := ev.2.2.1.2.1
          have m13 : q1'.1.1 13 = My.1 13 := ra2.1 13 (by omega) (by omega) (by omega) (by omega) (by omega)
          have m14 : q1'.1.1 14 = My.1 14 := ra2.1 14 (by omega) (by omega) (by omega) (by omega) (by omega)
          have m20 : q1'.1.1 20 = My.1 20 := ra2.1 20 (by omega) (by omega) (by omega) (by omega) (by omega)
          have m12 : q1'.1.1 12 = My.1 12 := ra2.1 12 (by omega) (by omega) (by omega) (by omega) (by omega)
          have evA : evS Ax Cx Bx Qx Px NDx My Ax Cx Bx (q4 Qx (q1'.1.1 7) (q1'.1.1 4) (q1'.1.1 8) 0) Px NDx q1'.1 := evS_adv ra2 p2
          have eA := eM_ev evA
          refine wq_gr (x := some (Ax 5)) v2.pa rfl ?_
          refine wq_chk v2.pa ?_
          refine wq_call (ih S2 Ax Cx Bx _ j2 elx Px NDx q1'.1 _ _ _ q2' v2 w2 (Int.le_refl _) (RS_adv rsx ra2 p2) (by rw [s11, s11']; omega) e2) ?_
          rintro zz (⟨S3, r3, rfl, A3, C3, B3, Q3, j3, el3, P3, ND3, T2, i2, I2, v3, w3, ev3, ⟨er3, ei3, hT2, cv2⟩, ⟨hR2, fb2, gk2⟩, bu3, hser3, hpos3⟩ | ⟨X, rfl, g⟩)
          · have Q12 : q4 Qx (q1'.1.1 7) (q1'.1.1 4) (q1'.1.1 8) 0 12 = Qx 12 := rfl
            have Q9 : q4 Qx (q1'.1.1 7) (q1'.1.1 4) (q1'.1.1 8) 0 9 = Qx 9 := rfl
            rw [eA, m13, m14, m20, Q9] at bu3
            rw [m20] at hser3
            rw [Q12] at cv2
            have sz3 : (Qx 12).toInt ≤ (Q3 12).toInt := ev3.2.2.2.1.1
            have nd3 : ∀ i, i < (Qx 12).toInt.toNat → P3 i = Px i ∧ ND3 i = NDx i := ev3.2.2.2.1.2
            have hT1' : repC ND3 T1 i1 I1 := repC_ext _ _ _ hT1 (fun k hk => (nd3 k ((cv1.1 k).mp hk).2).2)
            have pi1 : P3 i1 = Px i1 := (nd3 i1 (by omega)).1
            have a5 : A3 5 = Ax 5 := ev3.1 5 (by omega)
            have a03 : A3 0 = Ax 0 := ev3.1 0 (by omega)
            have er : ax = some (P3 i1) := by rw [pi1]; exact er
            have nd1 := v3.nd i1 (by omega)
            have w30 := w3
            have p33 := w3.2.2.2.2.1.1
            have szA : (Q 12).toInt ≤ (Qx 12).toInt := ev.2.2.2.1.1
            have bw3 := w3.2.2.2.2.2.2.2.2.2.1.2
            have rc3 := RC_of v3 w3 hK
            show dc_wp ((hg_gi S3 ax 8 1).bind _) _
            rw [er]
            refine wq_gi (x := (ND3 i1).2.1) nd1.2.2.1 rfl ?_
            show dc_wp ((hg_chk S3 (some (Ax 5)) 6).bind _) _
            refine chkD v3 a5 ?_
            refine wq_call (jn2_t v3 rc3 a5 (by omega) hT1' hT2 (cov_app cv1 cv2 (by omega) (by omega)) (by omega) rfl er3 (sv := -1)) ?_
            rintro ⟨S4, r4⟩ ⟨A4, C4, Q4, el4, P4, ND4, i4, I4, v4, rc4, ev4, z4, er4, ei4, hT4, cv4⟩
            have f7 : q6.1.1 7 = q2'.1.1 7 := (node_r e6).1.1 7 (by omega) (by omega)
            have xi : (ix + 1).toInt = ix.toInt + 1 := by rw [i_addS (by rw [il_1]; omega), il_1]
            have evx := evS_tr (evS_tr (evS_tr ev evA) ev3) (evS_C (B := B3) (M := q2'.1) ev4)
            have evr := (node_r e6).1
            have ln1 := repC_ln hT1'
            have a9 : Q4 9 = Q3 9 := ev4.2.2.1 9 (by omega) (by omega)
            have r20 : q6.1.1 20 = q2'.1.1 20 := evr.1 20 (by omega) (by omega)
            have r13 : q6.1.1 13 = q2'.1.1 13 := evr.1 13 (by omega) (by omega)
            have r14 : q6.1.1 14 = q2'.1.1 14 := evr.1 14 (by omega) (by omega)
            have z11 : (q1'.1.1 11).toInt = (M.1 11).toInt := by rw [s11, s11']
            have q411 : Q4 11 = Q3 11 := ev4.2.2.1 11 (by omega) (by omega)
            have x15 : q1'.1.1 15 = My.1 15 := ra2.1 15 (by omega) (by omega) (by omega) (by omega) (by omega)
            have y15 : q6.1.1 15 = q2'.1.1 15 := evr.1 15 (by omega) (by omega)
            have m15a : (M.1 15).toInt ≤ (My.1 15).toInt := ev.2.2.2.2.2.2.2.2.2
            have m15b : (q1'.1.1 15).toInt ≤ (q2'.1.1 15).toInt := ev3.2.2.2.2.2.2.2.2.2
            have n11a : (Q 11).toInt ≤ (Qx 11).toInt := ev.2.2.2.2.1.1
            have n11b : (Qx 11).toInt ≤ (Q3 11).toInt := ev3.2.2.2.2.1.1
            have e2x := evS_tr (evS_C (B := B3) (M := q2'.1) ev4) (evS_R evr)
            have G1 := fb1.get (evS_rf (A := A) (C := C) (P := P) (ND := ND)) (evS_tr (evS_tr evA ev3) e2x)
            have G2 : FG (pOk (B3 6) (B3 7) (B3 9) (Q 11).toInt (Q4 11).toInt) (B3 9) (sV B M) T2 (100 * (2 * d) + (26 - (q1'.1.1 11).toInt).toNat) ((Q3 11).toInt - (Qx 11).toInt) (q1'.1.1 15).toInt (q2'.1.1 15).toInt := fb2.get (evS_tr ev evA) e2x
            have fbx : FB M Q B q6.1 Q4 B3 (100 * (2 * (d + 1)) + (26 - (M.1 11).toInt).toNat) (Tboth (ND3 i1).2.1 T1 T2) := FG_2 (k := 0) (ka := 0) G1 G2 (fun t L t' L' g k => (FU_both g k (by omega) (by omega)).eqt (by omega)) (by omega) (by rw [q411]; omega) (by rw [x15]; exact Int.le_refl _) (by rw [y15]; rw [x15] at m15b; rw [x15]; omega)
            have gkx : GK (tsz (Tboth (ND3 i1).2.1 T1 T2) : Int) (Q4 11).toInt M q6.1 := gk_tr (gk_tr (gk_tr gk1 (gk_adv (w := (Qx 11).toInt) ra2) (Int.le_refl _) (Int.le_refl _) rfl) gk2 n11b (by omega) rfl) (gk_node e6) (by rw [q411]; exact Int.le_refl _) (by omega) (by rw [tsz_t2]; omega)
            refine ⟨_, rfl, Or.inl ⟨(S4, r4, ix + 1), (q6.1, q6.2, c3), rfl, rfl, ⟨A4, C4, B3, Q4, j3, el4, P4, ND4, Tboth (ND3 i1).2.1 T1 T2, i4, I4, v4, ?_, evS_tr evx (evS_R evr), ⟨er4, ei4, hT4, cv4⟩, ⟨?_, fbx, gkx⟩, ?_, ?_, ?_⟩, ?_, ?_⟩⟩
            · show RM q6.1 C4 B3 n f Q4 j3 (q6.1.1 7).toInt (u + 6 * ((q6.1.1 7).toInt - (M.1 7).toInt)) (w + ((q6.1.1 7).toInt - (M.1 7).toInt))
              rw [f7]
              refine RM_w (RM_R (RM_C w30 ev4 rc4 (u' := u + 6 * ((q2'.1.1 7).toInt - (M.1 7).toInt)) ?_ ?_) evr) ?_ ?_
              · omega
              · omega
              · omega
              · rw [f7]; omega
            · intro z
              have zb := (evr.2.2.2 z).1
              have l1 : q2'.1.2.1 34 sy.toInt.toNat = (ND3 i1).2.1 := by
                rw [repR_ln (repR_S hR1 (evS_tr evA ev3) zb), ln1]
              rw [← l1]
              exact (nd2_r (u := -1) (m := -1) (sv := -1) (fun z => repR_S hR1 (evS_tr evA ev3) z) hR2 rfl e6).2 z
            · have al := (hA (eM B M) (M.1 20) (Q 9) (M.1 13) (M.1 14) (M.1 7).toInt rs.1 rs.2.1 (by have := rs.2.2.1; omega)).2.2.2.1 T1 T2 (ND3 i1).2.1 cy (q2'.1.1 29) (My.1 20) (q2'.1.1 20) (Qx 9) (Q3 9) (My.1 13) (q2'.1.1 13) (My.1 14) (q2'.1.1 14) _ _ (BU_end bu (p'' := (q1'.1.1 7).toInt) (by omega)) (by rw [← eM_ev ev]; exact bu3) (by have := rs.2.2.1; omega)
              rw [a9, r20, r13, r14, f7]
              exact al.2.1 c3 e3
            · rw [r20, f7]
              omega
            · rw [f7]; omega
            · show 0 ≤ (ix + 1).toInt
              omega
            · show (ix + 1).toInt + 1 ≤ (q6.1.1 7).toInt
              rw [f7]; omega
          · exact ⟨_, rfl, Or.inr ⟨.inr X, rfl, fun z' hz' => Or.inr ⟨X, rfl, g.mono (fun φ hφ hs => lp (q6.1, q6.2, c3) _ φ hφ (mm_node_IIIIII_sk hφ _ _ _ _ _ _ _ hs _ e6) hz')⟩⟩⟩
        · have m2 : q1' = (My, 0) := by
            rcases mt with ⟨m1, m2, m3⟩ | ⟨m1, m2⟩
            · exact absurd m1 ej
            · exact m2
          subst m2
          rw [if_pos rfl] at hr
          have hr : qq = .inr (My, sy, cy) := (Option.some.inj hr).symm
          subst hr
          refine ⟨_, rfl, Or.inr ⟨.inl (Sx, ax), rfl, fun z' hz' => Or.inl ⟨Sx, ax, rfl, ?_⟩⟩⟩
          have hz' : (My, sy, cy) = z' := hz'
          subst hz'
          exact ⟨Ax, Cx, Bx, Qx, jx, elx, Px, NDx, T1, i1, I1, v, rx0, ev, ⟨er, ei, hT1, cv1⟩, ⟨hR1, fb1, gk1⟩, bu, hser, hpos⟩
        · refine ⟨_, rfl, Or.inr ⟨.inr X, rfl, fun z' hz' => Or.inr ⟨X, rfl, g.mono (fun φ hφ hs => ?_)⟩⟩⟩
          have m2 : q1'.2 = 1 := by
            rcases mt with ⟨m1, m2, m3⟩ | ⟨m1, m2⟩
            · exact m2
            · exact absurd ej m1
          rw [if_neg (by rw [m2]; decide)] at hr
          obtain ⟨q2', e2, hr⟩ := iv_bind hr
          obtain ⟨c3, e3, hr⟩ := iv_bind hr
          obtain ⟨-, -, hr⟩ := iv_ix hr
          obtain ⟨q6, e6, hr⟩ := iv_bind hr
          have hr : qq = .inl (q6.1, q6.2, c3) := (Option.some.inj hr).symm
          subst hr
          exact lp (q6.1, q6.2, c3) _ φ hφ (mm_node_IIIIII_sk hφ _ _ _ _ _ _ _ ((mm_P2_sk hφ e).2.2.1 q1'.1 hs _ e2) _ e6) hz'
      · obtain ⟨A', C', B', Q', j', el', P', ND', T, i, I, g1, g2, g3, g4, g5, g6, g7, g8⟩ := g
        refine ⟨⟨A', C', B', Q', j', el', P', ND', T, i, I, g1, g2, g3, g4, ⟨g5.1, g5.2.1.up (by omega), g5.2.2⟩, g6, g7, g8⟩, by show 0 ≤ (0 : Int32).toInt; decide, ?_⟩
        show (0 : Int32).toInt + 1 ≤ (q0.1.1 7).toInt
        rw [il_0]
        omega
    refine wq_call main ?_
    rintro z (⟨S', r', rfl, g⟩ | ⟨X, rfl, g⟩)
    · refine ⟨_, rfl, Or.inl ⟨S', r', rfl, ?_⟩⟩
      obtain ⟨A', C', B', Q', j', el', P', ND', T, i, I, g1, g2, g3, g4, g5, g6, g7, g8⟩ := g
      exact ⟨A', C', B', Q', j', el', P', ND', T, i, I, g1, RM_i g2 (by omega), evS_tr g3 (evS_i (by omega)), g4, ⟨fun z => repR_ext (M := z'.1) (M' := md_i z'.1 29 z'.2.2) (Int.le_refl _) (fun _ _ _ => rfl) T _ (g5.1 z), g5.2.1, g5.2.2⟩, g6, g7, g8⟩
    · exact ⟨_, rfl, Or.inr ⟨X, rfl, g.mono (fun φ hφ hs => stk_i (by decide) (by decide) (by decide) hs)⟩⟩
  · exact ⟨_, rfl, Or.inr ⟨X, rfl, g.mono (fun φ hφ hs => stk_i (by decide) (by decide) (by decide) (lp (q0.1, q0.2, q0.1.1 29) _ φ hφ hs ez))⟩⟩
end ROW
