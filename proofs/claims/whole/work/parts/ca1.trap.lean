/-! trap -/
section TRP
variable {G : hg_E} {sz t0' : Nat} {H0 : Nat → Option va_E} {K1 K2 n : Nat} {f : Nat → Int32} {S : hg_S} {A C : Nat → Nat} {B : Nat → Nat → Int32} {Q : Nat → Int32} {j : Nat} {el : Nat → Option Nat} {P : Nat → Nat} {ND : Nat → ndT} {M : md_S} {b u w p0 : Int}
theorem mBt_r {k : Nat} (hk : 27 ≤ k) : (mBt M).2.1 k = M.2.1 k := by
  show (md_a (md_a (md_a (md_i M 20 (M.1 20 + 1)) 24 (M.1 19).toInt.toNat (M.1 7)) 25 (M.1 19).toInt.toNat (M.1 4 - M.1 7)) 26 (M.1 19).toInt.toNat (M.1 20 + 1)).2.1 k = _
  rw [md_a2, if_neg (by omega), md_a2, if_neg (by omega), md_a2, if_neg (by omega)]
  rfl
theorem evS_tb {A' C' P' : Nat → Nat} {B' : Nat → Nat → Int32} {Q' : Nat → Int32} {ND' : Nat → ndT} {M' : md_S} {x y z c : Nat} {xf xe xs : Nat → Int32} (g10 : ∀ i, i < (Q 10).toInt.toNat → xs i = B 5 i) (q10 : Q 10 = M.1 19) (t1 : 0 ≤ (M.1 19).toInt) (t2 : (M.1 19).toInt ≤ 24) (h : evS (a3 A 11 x y z) (c1 C 1 c) (b3 B 3 xf xe xs) (q1 (q1 Q 9 (Q 9 + 1)) 10 (Q 10 + 1)) P ND (mBt M) A' C' B' Q' P' ND' M') : evS A C B Q P ND M A' C' B' (q1 Q' 10 (Q 10)) P' ND' (md_i M' 19 (M.1 19)) := by
  obtain ⟨h1, ⟨h2, h3, h4, h5, h6⟩, ⟨h7, h8, h9, h10, h11, h12⟩, h13, h14, h17, h18, h19, h20, h21⟩ := h
  have e19 : (M.1 19 + 1).toInt = (M.1 19).toInt + 1 := by rw [i_addS (by rw [il_1]; omega), il_1]
  refine ⟨fun k d => (h1 k d).trans ?_, ⟨h2, h3, h4, h5, rfl⟩, ⟨h7, h8, h9, h10, h11, rfl⟩, h13, h14, fun k hk => ?_, fun z => ?_, h19, h20, h21⟩
  · unfold a3
    rw [if_neg (by omega), if_neg (by omega), if_neg (by omega)]
  · obtain ⟨y1, y2⟩ := h17 k (by show k < (M.1 19 + 1).toInt.toNat; rw [e19]; omega)
    have y1 : B' 5 k = xs k := y1
    have y2 : M'.2.1 26 k = upd (M.2.1 26) (M.1 19).toInt.toNat (M.1 20 + 1) k := y2
    rw [upd_n (by omega)] at y2
    exact ⟨y1.trans (g10 k (by rw [q10]; exact hk)), y2⟩
  · obtain ⟨y1, y2, y3⟩ := h18 z
    exact ⟨y1, y2, fun k i k1 k2 hi => (y3 k i k1 k2 hi).trans (by rw [mBt_r (by omega)])⟩
theorem eM_bt {xf xe xs : Nat → Int32} (g10 : ∀ i, i < (Q 10).toInt.toNat → xs i = B 5 i) (g11 : xs (Q 10).toInt.toNat = Q 9) (q10 : Q 10 = M.1 19) (t1 : 0 ≤ (M.1 19).toInt) (t2 : (M.1 19).toInt ≤ 24) : eM (b3 B 3 xf xe xs) (mBt M) = (Q 9, M.1 20 + 1) :: eM B M := by
  have e19 : (M.1 19 + 1).toInt = (M.1 19).toInt + 1 := by rw [i_addS (by rw [il_1]; omega), il_1]
  rw [q10] at g10 g11
  show envP xs (upd (M.2.1 26) (M.1 19).toInt.toNat (M.1 20 + 1)) (M.1 19 + 1).toInt.toNat = _
  rw [show (M.1 19 + 1).toInt.toNat = (M.1 19).toInt.toNat + 1 by rw [e19]; omega]
  show (xs (M.1 19).toInt.toNat, upd (M.2.1 26) (M.1 19).toInt.toNat (M.1 20 + 1) (M.1 19).toInt.toNat) :: envP xs (upd (M.2.1 26) (M.1 19).toInt.toNat (M.1 20 + 1)) (M.1 19).toInt.toNat = _
  rw [g11, upd_s, envP_congr _ (fun i hi => ⟨g10 i hi, upd_n (g := M.2.1 26) (v := M.1 20 + 1) (show ¬ i = (M.1 19).toInt.toNat by omega)⟩)]
theorem must19 {N : md_S} {w : Int64} {k : Nat} (hk : ¬ k = 2 ∧ ¬ (4 ≤ k ∧ k ≤ 8) ∧ ¬ k = 10) (h0 : 0 ≤ (M.1 4).toInt) (h1 : (M.1 4).toInt ≤ (M.1 2).toInt) (h2 : (M.1 2).toInt ≤ 32768) (hf : M.1 10 = 0) (h : mm_mustWord M w = some N) : N.1 k = M.1 k := by
  have e : md_i M k (M.1 k) = M := md_ext (fun i => by
    by_cases c : i = k
    · subst c; exact md_ii
    · exact md_ij c) rfl rfl rfl
  have g := must_comm (v := M.1 k) hk h0 h1 h2 hf h
  rw [e, h] at g
  have g := Option.some.inj g
  rw [g]
  exact md_ii
set_option maxHeartbeats 2000000 in
theorem trap_c (hA : BUalg) (hok : lw_ok G sz) (hK : 40 * n + 70 ≤ K1 ∧ 200 * n + 400 ≤ K2) {d e : Nat} (ih : StP G t0' H0 K1 K2 n f d 3 ((hm_P2 d).1) ((mm_P2 e).1)) (h : PV G t0' H0 K1 K2 n f S A C B Q j el P ND) (r : RM M C B n f Q j b u w) (hb : b ≤ (M.1 7).toInt) (rp : RP M B Q u w p0 4) (hd : 5 * (24 - (M.1 11).toInt) + 3 ≤ (d : Int)) (ho : (M.1 19).toInt < (M.1 11).toInt) {ln : Int32} {q : md_S × Int32} (hq : mm_trap (mm_P2 e) M ln = some q) : dc_wp (ceX G (A 0) (hm_PA_takeTrap (hm_P2 d) G S (A 0) ln)) (fun z => (∃ S' r, z = .inl (S', r) ∧ stO G t0' H0 K1 K2 n f (100 * (2 * (d + 1)) + (27 - (M.1 11).toInt).toNat) A C B Q P ND M u w p0 S' r q) ∨ ∃ X : hg_X, z = .inr X ∧ thr t0' H0 K1 K2 n (A 0) (A 1) X q.1) := by
  obtain ⟨rs, ⟨p00, p01⟩, ⟨hu0, hw'⟩, h13, h20⟩ := rp
  have us := RM.use h r
  have r0 := r
  have hn : (n : Int) ≤ 32768 := by have := r.1.1; omega
  obtain ⟨r1, ⟨x2, x3, x4⟩, ⟨q3, q4', -⟩, ⟨l1, l2⟩, ⟨⟨p1, p2, p3⟩, p4, p5⟩, -, ⟨q10, ⟨t1, t2, t3, t4⟩, t5, t6⟩, ⟨op0, op1, op2⟩, -, ⟨⟨b1, b2, b3'⟩, bn⟩, -, ⟨cc1, cc2⟩, -⟩ := r
  have es : (M.1 20 + 1).toInt = (M.1 20).toInt + 1 := by
    have := rs.1.1.1
    rw [i_addS (by rw [il_1]; omega), il_1]
  delta mm_trap at hq
  rw [isName_e, kstep] at hq
  have s117 : ∀ (Z : md_S) (y : Int32) φ, ¬ φ = 0 → stk φ Z → mm_trap_L117 (mm_P2 e) Z ln (M.1 20 + 1) y = some q → stk φ q.1 := by
    intro Z y φ hφ hs hq
    delta mm_trap_L117 at hq
    obtain ⟨N, eN, hq⟩ := iv_bind hq
    have hq : (mm_caught (N.1 29)).bind (fun c => (mm_node_IIIIII (md_i (md_i N 19 (N.1 19 - 1)) 29 c) 8 y (-1) (M.1 20 + 1) ln (-1)).bind fun q5 => some (q5.1, q5.2)) = some q := hq
    obtain ⟨c, ec, hq⟩ := iv_bind hq
    obtain ⟨q5, e5, hq⟩ := iv_bind hq
    have hq := (Option.some.inj hq).symm
    subst hq
    exact mm_node_IIIIII_sk hφ _ _ _ _ _ _ _ (stk_i (by decide) (by decide) (by decide) (stk_i (by decide) (by decide) (by decide) (mm_mustWord_sk hφ _ _ hs _ eN))) _ e5
  refine ce_l ?_
  delta hm_PA_takeTrap
  refine wq_gr (x := some (A 1)) h.pa rfl ?_
  refine wq_gr (x := some (A 1)) h.pa rfl ?_
  refine wq_gr (x := some (G.2.1 j)) h.lx.1 rfl ?_
  by_cases hj : j = 31
  · rw [if_pos ((tk_name x3).mpr hj)] at hq
    delta mm_trap_L16 at hq
    rw [l2, if_neg lt00] at hq
    have hq : (dc_ix (M.1 19) 32).bind (fun j8 => (dc_ix (M.1 19) 32).bind fun j10 => (dc_ix (M.1 19) 32).bind fun j12 => (mm_advance (md_i (md_a (md_a (md_a (md_i M 20 (M.1 20 + 1)) 24 j8 (M.1 7)) 25 j10 (M.1 4 - M.1 7)) 26 j12 (M.1 20 + 1)) 19 (M.1 19 + 1))).bind fun q15 => (mm_mustWord q15 26990).bind fun q16 => if (0 : Int32) < (q16.1 10) then (mm_trap_L117 (mm_P2 e) q16 ln (M.1 20 + 1) 0) else (((mm_P2 e).1 q16).bind fun q17 => mm_trap_L117 (mm_P2 e) q17.1 ln (M.1 20 + 1) q17.2)) = some q := hq
    obtain ⟨-, -, hq⟩ := iv_ix hq
    obtain ⟨-, -, hq⟩ := iv_ix hq
    obtain ⟨-, -, hq⟩ := iv_ix hq
    have hq : (mm_advance (mBt M)).bind (fun q15 => (mm_mustWord q15 26990).bind fun q16 => if (0 : Int32) < (q16.1 10) then (mm_trap_L117 (mm_P2 e) q16 ln (M.1 20 + 1) 0) else (((mm_P2 e).1 q16).bind fun q17 => mm_trap_L117 (mm_P2 e) q17.1 ln (M.1 20 + 1) q17.2)) = some q := hq
    obtain ⟨N1, eN1, hq⟩ := iv_bind hq
    obtain ⟨N2, eN2, hq⟩ := iv_bind hq
    have sN : ∀ φ, ¬ φ = 0 → stk φ N2 → stk φ q.1 := by
      intro φ hφ hs
      rcases iv_if hq with ⟨-, hq⟩ | ⟨-, hq⟩
      · exact s117 _ _ φ hφ hs hq
      · obtain ⟨q17, e17, hq⟩ := iv_bind hq
        exact s117 _ _ φ hφ ((mm_P2_sk hφ e).2.1 N2 hs _ e17) hq
    rw [if_pos ((tok_eq hok x2 (by omega)).mpr hj)]
    delta hm_PA_takeTrap_L22
    refine wq_chk h.lx.1 ?_
    rw [req_ok (by decide)]
    show dc_wp ((hg_gr S (some (A 0)) 4 2).bind _) _
    refine wq_gr (x := some (A 4)) h.pa rfl ?_
    refine wq_gi (x := Q 10) h.tn.1 rfl ?_
    refine wq_gr (x := some (A 4)) h.pa rfl ?_
    refine wq_gr (x := some (A 1)) h.pa rfl ?_
    refine wq_chk h.tn.1 ?_
    refine wq_call (PV_bt h (by omega) t4 (by rw [q10]; exact t1) (by rw [q10]; exact t3) (by omega) (by omega) (by omega) (by omega)) ?_
    rintro ⟨S1, m1⟩ ⟨hm1, x, y, z, c, xf, xe, xs, g1, g5, g6, g7, g8, g9, g10, g11⟩
    have hm1 : m1 = Q 9 := hm1
    subst hm1
    have R1 := RM_bt r0 hb hj ho g5 g6 g7 g8 g9 g10 g11
    have tl : tln 31 = 1 := rfl
    rw [hj, tl] at x4
    refine wq_gr (x := some (A 1)) g1.pa rfl ?_
    refine wq_chk g1.lx.1 ?_
    refine wq_call (adv_l hok g1 R1 hK eN1) ?_
    rintro zz (⟨S2, rfl, j2, v2, w2, ra2, of2⟩ | ⟨X, rfl, g⟩)
    · have c8 : (M.1 4).toInt ≤ (N1.1 7).toInt := ra2.2.2.2.2.1.1
      have p2' := w2.2.2.2.2.1.1
      have mt := must_i (i := 0) w2.2.1.2.1 w2.2.2.2.1.2 (by decide) (by decide) eN2
      show dc_wp ((hg_chk S2 (some (A 0)) 4).bind _) _
      refine wq_chk v2.pa ?_
      refine wq_call (take_l hok v2 w2 hK (i := 0) (by decide) mt) ?_
      rintro zz (⟨ej, S3, rfl, j3, v3, w3, ra3, of3⟩ | ⟨X, rfl, g⟩)
      · have c83 : (N1.1 4).toInt ≤ (N2.1 7).toInt := ra3.2.2.2.2.1.1
        have p3' := w3.2.2.2.2.1.1
        have f0 : N2.1 10 = 0 := w3.2.2.2.1.2
        rw [f0, if_neg lt00] at hq
        obtain ⟨q17, e17, hq⟩ := iv_bind hq
        have ma := fun k (d : ¬ (4 ≤ k ∧ k ≤ 8)) => ra2.1 k (by omega) (by omega) (by omega) (by omega) (by omega)
        have mb := fun k (d : ¬ (4 ≤ k ∧ k ≤ 8)) => ra3.1 k (by omega) (by omega) (by omega) (by omega) (by omega)
        have k20 : N2.1 20 = M.1 20 + 1 := (mb 20 (by omega)).trans (ma 20 (by omega))
        have k19 : N2.1 19 = M.1 19 + 1 := (mb 19 (by omega)).trans (ma 19 (by omega))
        have k13 : N2.1 13 = M.1 13 := (mb 13 (by omega)).trans (ma 13 (by omega))
        have k14 : N2.1 14 = M.1 14 := (mb 14 (by omega)).trans (ma 14 (by omega))
        have k11 : N2.1 11 = M.1 11 := (mb 11 (by omega)).trans (ma 11 (by omega))
        have eE := eM_bt (B := B) (M := M) (xf := xf) (xe := xe) g10 g11 q10 t1 (by omega)
        have hlen : (eM B M).length = (M.1 19).toInt.toNat := envP_len _
        have rsb : RS (mBt M) (b3 B 3 xf xe xs) (q1 (q1 Q 9 (Q 9 + 1)) 10 (Q 10 + 1)) := by
          refine ⟨?_, ?_, ?_, rs.2.2.2.1, rs.2.2.2.2⟩
          · rw [eE]
            exact EOK_cons rs.1 (by omega) (by omega) (by omega)
          · show (M.1 13).toInt < (M.1 7).toInt ∨ M.1 13 = 32768
            exact rs.2.1
          · show (M.1 20 + 1).toInt ≤ (M.1 7).toInt
            omega
        have rs1 := RS_adv (a := N1.1 7) (b := N1.1 4) (c := N1.1 8) (d := 0) rsb ra2 p2
        have rs2 := RS_adv (a := N2.1 7) (b := N2.1 4) (c := N2.1 8) (d := 0) rs1 ra3 p2'.2.1
        have evb := evS_tr (evS_adv (A := a3 A 11 x y z) (C := c1 C 1 c) (B := b3 B 3 xf xe xs) (Q := q1 (q1 Q 9 (Q 9 + 1)) 10 (Q 10 + 1)) (P := P) (ND := ND) (a := N1.1 7) (b := N1.1 4) (c := N1.1 8) (d := 0) ra2 p2) (evS_adv (a := N2.1 7) (b := N2.1 4) (c := N2.1 8) (d := 0) ra3 p2'.2.1)
        have eE2 := (eM_ev evb).trans eE
        show dc_wp ((hg_chk S3 (some (A 0)) 4).bind _) _
        refine wq_chk v3.pa ?_
        refine wq_call (ih S3 _ _ _ _ j3 el P ND N2 _ u w q17 v3 w3 (Int.le_refl _) rs2 (by rw [k11]; exact hd) e17) ?_
        rintro zz (⟨S4, r4, rfl, A4, C4, B4, Q4, j4, el4, P4, ND4, T, i, I, v4, w4, ev4, ⟨er4, ei4, hT, cv⟩, ⟨hR4, fb4, gk4⟩, bu4, hser4, hpos4⟩ | ⟨X, rfl, g⟩)
        · have a04 : A4 0 = A 0 := ev4.1 0 (by omega)
          have a14 : A4 1 = A 1 := ev4.1 1 (by omega)
          have a44 : A4 4 = A 4 := ev4.1 4 (by omega)
          have a54 : A4 5 = A 5 := ev4.1 5 (by omega)
          rw [k20] at hser4
          have bu4 := back hA rs2 (p0 := p0) (by omega) (by rw [k13]; exact h13) (by have := w4.2.2.2.2.1.1; omega) (by rw [k20]; omega) bu4
          rw [eE2, k20, k13, k14] at bu4
          have bu4 : BU ((Q 9, M.1 20 + 1) :: eM B M) (M.1 20 + 1) (Q 9 + 1) (M.1 13) (M.1 14) p0 T (q17.1.1 29) (q17.1.1 20) (Q4 9) (q17.1.1 13) (q17.1.1 14) (q17.1.1 7).toInt := bu4
          have cv : cov I (Q 12).toInt.toNat (Q4 12).toInt.toNat := cv
          have z19 : q17.1.1 19 = M.1 19 + 1 := (ev4.2.2.1.2.2.2.2.2).trans k19
          have e19 : (M.1 19 + 1).toInt = (M.1 19).toInt + 1 := by rw [i_addS (by rw [il_1]; omega), il_1]
          have sz4 : (Q 12).toInt ≤ (Q4 12).toInt := ev4.2.2.2.1.1
          have ev5 := evS_tb g10 q10 t1 (by omega) (evS_tr evb ev4)
          have v5 := PV_ts v4 (v := Q 10)
          have w5 := RM_ts w4 (v := M.1 19) t1 (by rw [z19]; omega)
          rw [show q1 Q4 10 (M.1 19) = q1 Q4 10 (Q 10) by rw [q10]] at w5
          have p4' := w4.2.2.2.2.1.1
          have pl4 := w4.2.2.2.2.1.2
          have bn4 := w4.2.2.2.2.2.2.2.2.2.1.2
          have rc5 := RC_of v5 w5 hK
          delta mm_trap_L117 at hq
          obtain ⟨N3, eN3, hq⟩ := iv_bind hq
          have w41 := w4.1.1
          have z3 := must19 (k := 19) (by omega) (by omega) (by omega) (by omega) w4.2.2.2.1.2 eN3
          have em : N3.1 19 - 1 = M.1 19 := by
            rw [z3, z19]
            refine i_eq.mpr ?_
            rw [i_subS (by rw [e19, il_1]; omega), e19, il_1]
            omega
          have eN4 := must_comm (k := 19) (v := M.1 19) (by omega) (by omega) (by omega) (by omega) w4.2.2.2.1.2 eN3
          have hq : (mm_caught (N3.1 29)).bind (fun c => (mm_node_IIIIII (md_i (md_i N3 19 (N3.1 19 - 1)) 29 c) 8 q17.2 (-1) (M.1 20 + 1) ln (-1)).bind fun q5 => some (q5.1, q5.2)) = some q := hq
          rw [em] at hq
          obtain ⟨cc, ec, hq⟩ := iv_bind hq
          obtain ⟨q5, e5, hq⟩ := iv_bind hq
          have hq := (Option.some.inj hq).symm
          subst hq
          show dc_wp ((hg_gr S4 (some (A 0)) 4 2).bind _) _
          rw [← a04]
          refine wq_gr (x := some (A4 4)) v4.pa rfl ?_
          refine wq_pf v4.tn.1 (show 5 < 6 by decide) ?_
          show dc_wp ((hg_gr (hu S4 (A4 4) (.inr (3, [.ref (A4 2), .ref (A4 11), .ref (A4 12), .ref (A4 13), .int (Q4 9), .int (Q 10)]))) (some (A4 0)) 4 3).bind _) _
          refine wq_gr (x := some (A4 5)) v5.pa rfl ?_
          refine chkD v5 rfl ?_
          refine wq_call (trap_t v5 rc5 rfl (by show (Q4 12).toInt + 1 ≤ _; omega) hT cv (by show _ ≤ (Q4 12).toInt.toNat; omega) er4 (sv := M.1 20 + 1)) ?_
          rintro ⟨S6, r6⟩ t
          refine ⟨_, rfl, Or.inl ⟨S6, r6, rfl, ?_⟩⟩
          refine dc_mono (end_l hok hK t w5 (Int.le_refl _) (by show _ ≤ 6 * (q17.1.1 7).toInt; omega) (by omega) eN4 rfl) ?_
          rintro z (⟨S7, rfl, te⟩ | ⟨X, rfl, g⟩)
          · left
            refine ⟨S7, r6, rfl, ?_⟩
            have te0 := te
            obtain ⟨A', C', Q', el', P', ND', i', I', j', y1, y2, y3, y4, y5, ra⟩ := te
            have c84 : (q17.1.1 4).toInt ≤ ((md_i N3 19 (M.1 19)).1 7).toInt := ra.2.2.2.2.1.1
            have m := fun k (d : ¬ (4 ≤ k ∧ k ≤ 8)) => ra.1 k (by omega) (by omega) (by omega) (by omega) (by omega)
            have n29 : N3.1 29 = q17.1.1 29 := m 29 (by omega)
            have n20 : N3.1 20 = q17.1.1 20 := m 20 (by omega)
            have n13 : N3.1 13 = q17.1.1 13 := m 13 (by omega)
            have n14 : N3.1 14 = q17.1.1 14 := m 14 (by omega)
            have n12 : N3.1 12 = q17.1.1 12 := m 12 (by omega)
            have n27 : N3.1 27 = q17.1.1 27 := m 27 (by omega)
            have hT' : (md_i (md_i N3 19 (M.1 19)) 29 cc).1 12 = 0 → repR (md_i (md_i N3 19 (M.1 19)) 29 cc) T q17.2 := fun z => repR_ext (M := q17.1) (M' := md_i (md_i N3 19 (M.1 19)) 29 cc) (by show _ ≤ (N3.1 27).toInt; rw [n27]; exact Int.le_refl _) (fun k i _ => by show (md_i N3 19 (M.1 19)).2.1 k i = _; rw [ra.2.1]; rfl) T _ (hR4 (n12.symm.trans z))
            obtain ⟨k1, k2⟩ := nd1_r (k := 8) (u := -1) (m := Q 9) (sv := M.1 20 + 1) hT' rfl e5
            have ee := fun k (d : ¬ k = 12) (d2 : ¬ k = 27) => k1.1 k d d2
            have e7 : q5.1.1 7 = N3.1 7 := ee 7 (by omega) (by omega)
            have e29 : q5.1.1 29 = cc := ee 29 (by omega) (by omega)
            have e20 : q5.1.1 20 = q17.1.1 20 := (ee 20 (by omega) (by omega)).trans n20
            have e13 : q5.1.1 13 = q17.1.1 13 := (ee 13 (by omega) (by omega)).trans n13
            have e14 : q5.1.1 14 = q17.1.1 14 := (ee 14 (by omega) (by omega)).trans n14
            rw [n29] at ec
            have c84 : (q17.1.1 4).toInt ≤ (N3.1 7).toInt := c84
            have z11 : (N2.1 11).toInt = (M.1 11).toInt := by rw [k11]
            have opy := r0.2.2.2.2.2.2.2.1
            have n18 : N2.1 18 = M.1 18 := (mb 18 (by omega)).trans (ma 18 (by omega))
            have n15 : N2.1 15 = M.1 15 := (mb 15 (by omega)).trans (ma 15 (by omega))
            have n15' : N3.1 15 = q17.1.1 15 := m 15 (by omega)
            have e15 : q5.1.1 15 = q17.1.1 15 := (ee 15 (by omega) (by omega)).trans n15'
            have hV : ∀ y', sV (b3 B 3 xf xe xs) N2 y' → sV B M y' := by
              rintro y' ⟨i', i1, i2⟩
              rw [n18] at i1
              exact ⟨i', i1, i2⟩
            have fg : FG (pOk (B4 6) (B4 7) (B4 9) (Q 11).toInt (Q4 11).toInt) (B4 9) (sV B M) T (100 * (2 * d) + (26 - (N2.1 11).toInt).toNat) ((Q4 11).toInt - (Q 11).toInt) (N2.1 15).toInt (q17.1.1 15).toInt := fb4.get0 (Q := Q) (Q' := Q4) (M := M) (B := B) (B' := B4) hV (Int.le_refl _) (fun _ _ => ⟨rfl, rfl, rfl⟩) (Int.le_refl _)
            have fb : FB M Q B q5.1 (q1 Q4 10 (Q 10)) B4 (100 * (2 * (d + 1)) + (27 - (M.1 11).toInt).toNat) (Ttrp ln (Q 9) (M.1 20 + 1) T) := FG_1 (k := 0) (ka := 0) fg (fun t L g => (FU_trp g (by omega)).eqt (by omega)) (by omega) (by show (Q4 11).toInt - (Q 11).toInt = _; omega) (by rw [n15]; exact Int.le_refl _) (by rw [e15]; exact Int.le_refl _)
            have gM : GK 0 (Q 11).toInt M N2 := gk_0 ((mb 12 (by omega)).trans (ma 12 (by omega))) ((mb 27 (by omega)).trans (ma 27 (by omega)))
            have gN : GK 0 (Q4 11).toInt q17.1 (md_i (md_i N3 19 (M.1 19)) 29 cc) := gk_0 n12 n27
            have n11 : (Q 11).toInt ≤ (Q4 11).toInt := ev4.2.2.2.2.1.1
            have gk : GK (tsz (Ttrp ln (Q 9) (M.1 20 + 1) T) : Int) (Q4 11).toInt M q5.1 := gk_tr (gk_tr (gk_tr gM gk4 n11 (by omega) rfl) gN (Int.le_refl _) (by omega) rfl) (gk_node e5) (Int.le_refl _) (by omega) (by show ((1 + tsz T : Nat) : Int) = _; omega)
            refine fin_e ev5 te0 rfl (fun A C B Q P ND => evS_tr (evS_i (k := 29) (v := cc) (by omega)) (evS_R k1)) (fun C B Q j b u w r => RM_R (RM_i r (k := 29) (v := cc) (by omega)) k1) e7 k2 ?_ ?_ hu0 hw' ?_ ?_ ?_ fb gk
            · rw [e7]; omega
            · rw [e7]; omega
            · rw [e29, e20, e13, e14, e7]
              exact BU_end ((hA (eM B M) (M.1 20) (Q 9) (M.1 13) (M.1 14) p0 rs.1 h13 (by omega)).2.2.2.2.2 T ln _ _ _ _ _ _ cc (by omega) (by omega) (by omega) bu4 ec) (by omega)
            · rw [e20, e7]
              omega
            · rw [e7]; omega
          · right
            rw [a14] at g
            exact ⟨X, rfl, g.mono (fun φ hφ hs => mm_node_IIIIII_sk hφ _ _ _ _ _ _ _ (stk_i (by decide) (by decide) (by decide) hs) _ e5)⟩
        · exact ⟨_, rfl, Or.inr ⟨X, rfl, Or.inr ⟨X, rfl, g.mono (fun φ hφ hs => s117 _ _ φ hφ hs hq)⟩⟩⟩
      · exact ⟨_, rfl, Or.inr ⟨X, rfl, Or.inr ⟨X, rfl, g.mono sN⟩⟩⟩
    · exact ⟨_, rfl, Or.inr ⟨X, rfl, Or.inr ⟨X, rfl, g.mono (fun φ hφ hs => sN φ hφ (mm_mustWord_sk hφ _ _ hs _ eN2))⟩⟩⟩
  · rw [if_neg (fun z => hj ((tk_name x3).mp z))] at hq
    obtain ⟨Mf, ef, hq⟩ := iv_bind hq
    have ff : Mf.1 10 = 1 + 8 * M.1 8 := fail_f l2 ef
    rw [if_neg (fun z => hj ((tok_eq hok x2 (by omega)).mp z))]
    delta hm_PA_takeTrap_L22
    refine wq_chk h.lx.1 ?_
    have hc := ph_ne (k := 1) (l := M.1 8) (by decide) (by omega)
    refine wq_call (req_no h r0 hK (M' := q.1) (Or.inl (mm_trap_L16_fk hc (mm_P2 e) (mm_P2_sk hc e).1 Mf ln ff q hq))) ?_
    rintro z ⟨X, rfl, g⟩
    exact ⟨_, rfl, Or.inr ⟨X, rfl, Or.inr ⟨X, rfl, g⟩⟩⟩
end TRP
