/-! every -/
section EVY
variable {G : hg_E} {sz t0' : Nat} {H0 : Nat → Option va_E} {K1 K2 n : Nat} {f : Nat → Int32} {S : hg_S} {A C : Nat → Nat} {B : Nat → Nat → Int32} {Q : Nat → Int32} {j : Nat} {el : Nat → Option Nat} {P : Nat → Nat} {ND : Nat → ndT} {M : md_S} {b u w p0 : Int}
/-- tests and words leave what RS asks for -/
theorem RS_T {A1 C1 : Nat → Nat} {B1 : Nat → Nat → Int32} {Q1 : Nat → Int32} {N : md_S} (rs : RS M B Q) (ev1 : evT A C B Q M A1 C1 B1 Q1 N) : RS N B1 Q1 := by
  have q9 : Q1 9 = Q 9 := ev1.2.2.2.1 9 (by omega) (by omega)
  have mm := fun k (d : ¬ (4 ≤ k ∧ k ≤ 8)) (d2 : ¬ k = 12) (d3 : ¬ k = 28) => ev1.2.2.2.2.1 k d d2 d3
  have evS1 : evS A C B Q (fun _ => 0) (fun _ => (0, 0, none, none, 0, 0, 0)) M A1 C1 B1 Q1 (fun _ => 0) (fun _ => (0, 0, none, none, 0, 0, 0)) N := evS_T ev1
  have f7 := ev1.2.2.2.2.2.2.2.2.2.2
  obtain ⟨z1, z2, z3, z4, z5⟩ := rs
  refine ⟨?_, ?_, ?_, ?_, ?_⟩
  · rw [eM_ev evS1, mm 20 (by omega) (by omega) (by omega), q9]; exact z1
  · rw [mm 13 (by omega) (by omega) (by omega)]
    exact z2.imp (fun y => by omega) id
  · rw [mm 20 (by omega) (by omega) (by omega)]; omega
  · rw [mm 16 (by omega) (by omega) (by omega), ev1.2.2.2.1 0 (by omega) (by omega)]; exact z4
  · rw [mm 16 (by omega) (by omega) (by omega)]; exact z5
set_option maxHeartbeats 2000000 in
theorem every_c (hA : BUalg) (hok : lw_ok G sz) (hK : 40 * n + 70 ≤ K1 ∧ 200 * n + 400 ≤ K2) {d e : Nat} (ih : StP G t0' H0 K1 K2 n f d 3 ((hm_P2 d).1) ((mm_P2 e).1)) (h : PV G t0' H0 K1 K2 n f S A C B Q j el P ND) (r : RM M C B n f Q j b u w) (hb : b ≤ (M.1 7).toInt) (rp : RP M B Q u w p0 4) (hd : 5 * (24 - (M.1 11).toInt) + 3 ≤ (d : Int)) {ln : Int32} {q : md_S × Int32} (hq : mm_every (mm_P2 e) M ln = some q) : dc_wp (ceX G (A 0) (hm_PA_takeEvery (hm_P2 d) G S (A 0) ln)) (fun z => (∃ S' r, z = .inl (S', r) ∧ stO G t0' H0 K1 K2 n f (100 * (2 * (d + 1)) + (27 - (M.1 11).toInt).toNat) A C B Q P ND M u w p0 S' r q) ∨ ∃ X : hg_X, z = .inr X ∧ thr t0' H0 K1 K2 n (A 0) (A 1) X q.1) := by
  obtain ⟨rs, ⟨p00, p01⟩, ⟨hu, hw'⟩, h13, h20⟩ := rp
  have hn : (n : Int) ≤ 32768 := by have := r.1.1; omega
  have pp := r.2.2.2.2.1.1
  have opx := r.2.2.2.2.2.2.2.1
  have hd3 : 3 ≤ d := by have := r.2.2.2.2.2.2.2.1; omega
  delta mm_every at hq
  obtain ⟨q8, e8, hq⟩ := iv_bind hq
  obtain ⟨N, e9, hq⟩ := iv_bind hq
  have s27 : ∀ (Z : md_S) (y : Int32) φ, ¬ φ = 0 → stk φ Z → mm_every_L27 (mm_P2 e) Z ln q8.2 y = some q → stk φ q.1 := fun Z y φ hφ hs hq => mm_every_L27_sk hφ (mm_P2 e) (mm_P2_sk hφ e) Z _ _ _ hs _ hq
  have sN : ∀ φ, ¬ φ = 0 → stk φ N → stk φ q.1 := by
    intro φ hφ hs
    rcases iv_if hq with ⟨-, hq⟩ | ⟨-, hq⟩
    · exact s27 _ _ φ hφ hs hq
    · obtain ⟨q10, e10, hq⟩ := iv_bind hq
      exact s27 _ _ φ hφ ((mm_P2_sk hφ e).2.1 N hs _ e10) hq
  refine ce_l ?_
  delta hm_PA_takeEvery
  refine wq_chk h.pa ?_
  refine wq_call (either_l hok hK h r hb e8) ?_
  rintro z (⟨S1, x, rfl, A1, C1, B1, Q1, j1, v1, w1, ev1, ea, ex, ext, eq, ep⟩ | ⟨X, rfl, g⟩)
  · have a0 : A1 0 = A 0 := ev1.1 0 (by omega)
    have a1 : A1 1 = A 1 := ev1.1 1 (by omega)
    have p1 := w1.2.2.2.2.1.1
    have x4 := w1.2.1.2.2
    have mt := must_i (i := 25) w1.2.1.2.1 w1.2.2.2.1.2 (by decide) (by decide) e9
    show dc_wp ((hg_chk S1 (some (A 0)) 4).bind _) _
    rw [← a0]
    refine wq_chk v1.pa ?_
    refine wq_call (take_l hok v1 w1 hK (i := 25) (by decide) mt) ?_
    rintro zz (⟨ej, S2, rfl, j2, v2, w2, ra2, of2⟩ | ⟨X, rfl, g⟩)
    · have c8 : (q8.1.1 4).toInt ≤ (N.1 7).toInt := ra2.2.2.2.2.1.1
      have f0 : N.1 10 = 0 := w2.2.2.2.1.2
      rw [f0, if_neg lt00] at hq
      obtain ⟨q10, e10, hq⟩ := iv_bind hq
      have evT2 : evT A C B Q M A1 C1 B1 (q4 Q1 (N.1 7) (N.1 4) (N.1 8) 0) N := evT_tr ev1 (evT_adv ra2 p1.2.1)
      have rs2 := RS_T rs evT2
      have mm := fun k (d : ¬ (4 ≤ k ∧ k ≤ 8)) (d2 : ¬ k = 12) (d3 : ¬ k = 28) => evT2.2.2.2.2.1 k d d2 d3
      have Q12 : q4 Q1 (N.1 7) (N.1 4) (N.1 8) 0 12 = Q 12 := evT2.2.2.2.1 12 (by omega) (by omega)
      have Q9 : q4 Q1 (N.1 7) (N.1 4) (N.1 8) 0 9 = Q 9 := evT2.2.2.2.1 9 (by omega) (by omega)
      have evS2 := evS_T (P := P) (ND := ND) evT2
      refine wq_gr (x := some (A1 5)) v2.pa rfl ?_
      refine wq_chk v2.pa ?_
      refine wq_call (ih S2 A1 C1 B1 _ j2 el P ND N _ u _ q10 v2 w2 (Int.le_refl _) rs2 (by rw [mm 11 (by omega) (by omega) (by omega)]; exact hd) e10) ?_
      rintro zz (⟨S3, r3, rfl, A3, C3, B3, Q3, j3, el3, P3, ND3, T, i, I, v3, w3, ev3, ⟨er3, ei3, hT, cv⟩, ⟨hR3, fb3, gk3⟩, bu3, hser3, hpos3⟩ | ⟨X, rfl, g⟩)
      · have a03 : A3 0 = A1 0 := ev3.1 0 (by omega)
        have a13 : A3 1 = A1 1 := ev3.1 1 (by omega)
        have a53 : A3 5 = A1 5 := ev3.1 5 (by omega)
        rw [eM_ev evS2, mm 20 (by omega) (by omega) (by omega), mm 13 (by omega) (by omega) (by omega), mm 14 (by omega) (by omega) (by omega), Q9] at bu3
        rw [mm 20 (by omega) (by omega) (by omega)] at hser3
        rw [Q12] at cv
        have p3 := w3.2.2.2.2.1.1
        have bn3 := w3.2.2.2.2.2.2.2.2.2.1.2
        have rc3 := RC_of v3 w3 hK
        have sz3 : (Q 12).toInt ≤ (Q3 12).toInt := by rw [← Q12]; exact ev3.2.2.2.1.1
        have evx := evS_tr evS2 ev3
        delta mm_every_L27 at hq
        have hq : (mm_mustWord q10.1 6647396).bind (fun q2 => (mm_await q2 ln q8.2).bind fun q3 => (mm_again q3.1 ln q10.2 q8.2 (q10.1.1 29)).bind fun q4 => (mm_then 2 (q4.1.1 29)).bind fun q5 => dc_let (md_i q4.1 29 q5) fun S6 => (mm_node_IIIIII S6 5 q3.2 q4.2 (-1) ln (-1)).bind fun q7 => some (q7.1, q7.2)) = some q := hq
        obtain ⟨N2, e2, hq⟩ := iv_bind hq
        obtain ⟨qa, eqa, hq⟩ := iv_bind hq
        obtain ⟨qb, eqb, hq⟩ := iv_bind hq
        obtain ⟨cd, ecd, hq⟩ := iv_bind hq
        have hq : (mm_node_IIIIII (md_i qb.1 29 cd) 5 qa.2 qb.2 (-1) ln (-1)).bind (fun q7 => some (q7.1, q7.2)) = some q := hq
        obtain ⟨qc, eqc, hq⟩ := iv_bind hq
        have hq := (Option.some.inj hq).symm
        subst hq
        show dc_wp ((hg_chk S3 (some (A1 5)) 6).bind _) _
        refine chkD v3 a53 ?_
        refine wq_call (loopEach_t v3 rc3 a53 (by omega) hT cv (by omega) er3 (sv := q10.1.1 20 + 1 + 1)) ?_
        rintro ⟨S4, r4⟩ ⟨A4, C4, Q4, el4, P4, ND4, i4, I4, v4, rc4, ev4, m4, er4, il4, T4, cv4⟩
        have er4 : r4 = some (P4 i4) := er4
        have a04 : A4 0 = A1 0 := (ev4.1 0 (by omega)).trans a03
        have a54 : A4 5 = A1 5 := (ev4.1 5 (by omega)).trans a53
        have dcell4 : hg_at S4.1 (A1 0) = some (.inr (4, [.ref (A4 1), .ref (A4 3), .ref (A4 4), .ref (A4 5), .int (Q4 0), .int (Q4 1), .int (Q4 2)])) := by rw [← a04]; exact v4.pa
        refine wq_gr (x := some (A4 5)) dcell4 rfl ?_
        refine wq_gr (x := some (A4 5)) dcell4 rfl ?_
        refine chkD v4 rfl ?_
        refine wq_call (await_t v4 rc4 rfl (by omega) (sv := q10.1.1 20 + 1)) ?_
        rintro ⟨S5, r5⟩ ⟨A5, C5, Q5, el5, P5, ND5, i5, I5, v5, rc5, ev5, m5, er5, il5, T5, cv5⟩
        obtain ⟨T4', pi⟩ := repC_ev T4 cv4 (Nat.le_refl _) ev5
        refine chkD v5 (ev5.1 5 (by omega)) ?_
        refine wq_call (jn2_t v5 rc5 (ev5.1 5 (by omega)) (by omega) T5 T4' (cov_app' cv5 cv4 (by omega) (by omega)) (by omega) er5 (by rw [er4, pi]) (sv := -1)) ?_
        rintro ⟨S6, r6⟩ t
        have t := t.up (evC_tr ev4 ev5) (m1 := 22) (m := 23) (by omega) (by omega)
        refine ⟨_, rfl, Or.inl ⟨S6, r6, rfl, ?_⟩⟩
        refine dc_mono (end_l hok hK t w3 (Int.le_refl _) (by omega) (by omega) e2 a03) ?_
        rintro z (⟨S7, rfl, te⟩ | ⟨X, rfl, g⟩)
        · left
          refine ⟨S7, r6, rfl, ?_⟩
          have te0 := te
          obtain ⟨A', C', Q', el', P', ND', i', I', j', y1, y2, y3, y4, y5, ra⟩ := te
          have c83 : (q10.1.1 4).toInt ≤ (N2.1 7).toInt := ra.2.2.2.2.1.1
          have m := fun k (d : ¬ (4 ≤ k ∧ k ≤ 8)) => ra.1 k (by omega) (by omega) (by omega) (by omega) (by omega)
          have pN := y2.2.2.2.2.1.1
          have s20 : N2.1 20 = q10.1.1 20 := m 20 (by omega)
          obtain ⟨ka, kb⟩ := await_r eqa
          have ea' := fun k (d : ¬ k = 12) (d2 : ¬ k = 27) => ka.1 k d d2
          have a20 : qa.1.1 20 = q10.1.1 20 + 1 := (ea' 20 (by omega) (by omega)).trans (by show N2.1 20 + 1 = _; rw [s20])
          have z0 := rs.1.1.1
          have z1 := bu3.2.1.1
          have e201 : (q10.1.1 20 + 1).toInt = (q10.1.1 20).toInt + 1 := by rw [i_addS (by rw [il_1]; omega), il_1]
          have e202 : (q10.1.1 20 + 1 + 1).toInt = (q10.1.1 20).toInt + 2 := by rw [i_addS (by rw [il_1, e201]; omega), il_1, e201]; omega
          -- not great: the test is the class's
          have xq : qb.1.1 12 = 0 → q8.2 = x ∧ qa.1.1 12 = 0 ∧ N2.1 12 = 0 ∧ q10.1.1 12 = 0 ∨ True := fun _ => Or.inr trivial
          have hTb : qa.1.1 12 = 0 → repR qa.1 T q10.2 := by
            intro z
            have zN : N2.1 12 = 0 := (ka.2.2.2 z).1
            have z10 : q10.1.1 12 = 0 := by rw [← m 12 (by omega)]; exact zN
            have k0 : repR N2 T q10.2 := repR_ext (M := q10.1) (M' := N2) (by rw [m 27 (by omega)]; exact Int.le_refl _) (fun k i _ => by rw [ra.2.1]) T _ (hR3 z10)
            have k1 : repR (md_i (md_i N2 20 (N2.1 20 + 1)) 29 2) T q10.2 := repR_ext (M := N2) (M' := md_i (md_i N2 20 (N2.1 20 + 1)) 29 2) (Int.le_refl _) (fun _ _ _ => rfl) T _ k0
            exact repR_ev (fun _ => k1) ka z
          obtain ⟨y, pq, c, k1, k2, k3, ⟨Z, k4, k4'⟩, k5⟩ := again_r hTb eqb
          rw [a20] at k4' k5
          rw [s20] at kb
          have evab : evR qa.1 Z := k4
          have ez := fun k (d : ¬ k = 12) (d2 : ¬ k = 27) => k4.1 k d d2
          have ee := fun k (d : ¬ k = 12) (d2 : ¬ k = 27) => k4'.1 k d d2
          have b29 : qb.1.1 29 = c := (ee 29 (by omega) (by omega)).trans md_ii
          have evc := (node_r eqc).1
          have ec := fun k (d : ¬ k = 12) (d2 : ¬ k = 27) => evc.1 k d d2
          have e7 : qc.1.1 7 = N2.1 7 := (ec 7 (by omega) (by omega)).trans ((ee 7 (by omega) (by omega)).trans ((ez 7 (by omega) (by omega)).trans (ea' 7 (by omega) (by omega))))
          have e29 : qc.1.1 29 = cd := (ec 29 (by omega) (by omega)).trans md_ii
          have e20 : qc.1.1 20 = q10.1.1 20 + 1 + 1 := (ec 20 (by omega) (by omega)).trans (ee 20 (by omega) (by omega))
          have e13 : qc.1.1 13 = q10.1.1 13 := (ec 13 (by omega) (by omega)).trans ((ee 13 (by omega) (by omega)).trans ((ez 13 (by omega) (by omega)).trans ((ea' 13 (by omega) (by omega)).trans (m 13 (by omega)))))
          have e14 : qc.1.1 14 = q10.1.1 14 := (ec 14 (by omega) (by omega)).trans ((ee 14 (by omega) (by omega)).trans ((ez 14 (by omega) (by omega)).trans ((ea' 14 (by omega) (by omega)).trans (m 14 (by omega)))))
          have evAll : ∀ (A C : Nat → Nat) (B : Nat → Nat → Int32) (Q : Nat → Int32) (P : Nat → Nat) (ND : Nat → ndT), evS A C B Q P ND N2 A C B Q P ND qc.1 := fun A C B Q P ND => evS_tr (evS_i (k := 20) (v := N2.1 20 + 1) (by omega)) (evS_tr (evS_i (k := 29) (v := 2) (by omega)) (evS_tr (evS_R ka) (evS_tr (evS_R k4) (evS_tr (evS_i (k := 20) (v := q10.1.1 20 + 1 + 1) (by omega)) (evS_tr (evS_i (k := 29) (v := c) (by omega)) (evS_tr (evS_R k4') (evS_tr (evS_i (k := 29) (v := cd) (by omega)) (evS_R evc))))))))
          have e15 : qc.1.1 15 = q10.1.1 15 := (ec 15 (by omega) (by omega)).trans ((ee 15 (by omega) (by omega)).trans ((ez 15 (by omega) (by omega)).trans ((ea' 15 (by omega) (by omega)).trans (m 15 (by omega)))))
          have z11 : (N.1 11).toInt = (M.1 11).toInt := by rw [mm 11 (by omega) (by omega) (by omega)]
          have n15 : N.1 15 = M.1 15 := mm 15 (by omega) (by omega) (by omega)
          have n11b : (Q1 11).toInt ≤ (Q3 11).toInt := ev3.2.2.2.2.1.1
          have tok := tst_ok (evS_rf (A := A) (C := C) (P := P) (ND := ND)) ev1 ex ext eq r.2.2.2.2.2.2.2.2.1.1.1 (evS_tr (evS_adv (A := A1) (C := C1) (B := B1) (Q := Q1) (P := P) (ND := ND) (a := N.1 7) (b := N.1 4) (c := N.1 8) (d := 0) ra2 p1.2.1) ev3)
          have fg : FG (pOk (B3 6) (B3 7) (B3 9) (Q 11).toInt (Q3 11).toInt) (B3 9) (sV B M) T (100 * (2 * d) + (26 - (N.1 11).toInt).toNat) ((Q3 11).toInt - (Q1 11).toInt) (N.1 15).toInt (q10.1.1 15).toInt := fb3.get evS2 (evS_rf (A := A3) (C := C3) (P := P3) (ND := ND3))
          have fb : FB M Q B qc.1 Q3 B3 (100 * (2 * (d + 1)) + (27 - (M.1 11).toInt).toNat) (Tseq ln (Tawa ln x (q10.1.1 20 + 1)) (Tagn ln x (q10.1.1 20 + 1 + 1) T)) := by
            refine FG_1 (k := txx (B3 9) x + (txx (B3 9) x + txx (B3 9) x)) (ka := (Q1 11).toInt - (Q 11).toInt) fg (fun t L g => ?_) (by rw [tok.2]; omega) (by omega) (by rw [n15]; exact Int.le_refl _) (by rw [e15]; exact Int.le_refl _)
            have k := FU_seq (l := ln) (c := 100 * (2 * (d + 1)) + (27 - (M.1 11).toInt).toNat) (FU_awa (l := ln) (sv := q10.1.1 20 + 1) (c := 201) tok.1 (by omega)) (FU_agn (l := ln) (sv := q10.1.1 20 + 1 + 1) (c := 100 * (2 * d + 1) + (27 - (M.1 11).toInt).toNat) tok.1 g (by omega) (by omega)) (by omega) (by omega)
            rw [List.nil_append] at k
            exact k.eqt (by omega)
          have gkT0 := gk_T evT2
          have gkT : GK 0 (Q1 11).toInt M N := gkT0
          have gk : GK (tsz (Tseq ln (Tawa ln x (q10.1.1 20 + 1)) (Tagn ln x (q10.1.1 20 + 1 + 1) T)) : Int) (Q3 11).toInt M qc.1 := gk_tr (gk_tr (gk_tr (gk_tr (gk_tr (gk_tr gkT gk3 n11b (by omega) rfl) (gk_adv (w := (Q3 11).toInt) ra) (Int.le_refl _) (by omega) rfl) (gk_await (w := (Q3 11).toInt) eqa) (Int.le_refl _) (by omega) rfl) (gk_again (w := (Q3 11).toInt) eqb) (Int.le_refl _) (by omega) rfl) (gk_i (w := (Q3 11).toInt) (i := 29) (v := cd) (by omega)) (Int.le_refl _) (by omega) rfl) (gk_node eqc) (Int.le_refl _) (by omega) (by show ((1 + 7 + (1 + (1 + (1 + (1 + (1 + (1 + tsz T + 2)) + 1) + 6))) : Nat) : Int) = _; omega)
          refine fin_e evx te0 rfl evAll (fun C B Q j b u w r => RM_R (RM_i (RM_R (RM_i (RM_i (RM_R (RM_R (RM_i (RM_i r (k := 20) (v := N2.1 20 + 1) (by omega)) (k := 29) (v := 2) (by omega)) ka) k4) (k := 20) (v := q10.1.1 20 + 1 + 1) (by omega)) (k := 29) (v := c) (by omega)) k4') (k := 29) (v := cd) (by omega)) evc) e7 ?_ ?_ ?_ hu hw' ?_ ?_ ?_ fb gk
          · intro z
            have zb : qb.1.1 12 = 0 := (evc.2.2.2 z).1
            have zZ : Z.1 12 = 0 := (k4'.2.2.2 zb).1
            have za : qa.1.1 12 = 0 := (k4.2.2.2 zZ).1
            have zN : N2.1 12 = 0 := (ka.2.2.2 za).1
            have z10 : q10.1.1 12 = 0 := by rw [← m 12 (by omega)]; exact zN
            have zN' : N.1 12 = 0 := (ev3.2.2.2.2.2.2.1 z10).1
            have z8 : q8.1.1 12 = 0 := by rw [← ra2.1 12 (by omega) (by omega) (by omega) (by omega) (by omega)]; exact zN'
            have xe := ea z8
            rw [xe] at k5 kb
            -- await's tree is still there
            have hAw : (md_i qb.1 29 cd).1 12 = 0 → repR (md_i qb.1 29 cd) (Tawa ln x (q10.1.1 20 + 1)) qa.2 := by
              intro _
              have w1 := repR_ev kb k4 zZ
              have w2 : repR (md_i (md_i Z 20 (q10.1.1 20 + 1 + 1)) 29 c) (Tawa ln x (q10.1.1 20 + 1)) qa.2 := repR_ext (M := Z) (M' := md_i (md_i Z 20 (q10.1.1 20 + 1 + 1)) 29 c) (Int.le_refl _) (fun _ _ _ => rfl) _ _ w1
              have w3 := repR_ev (fun _ => w2) k4' zb
              exact repR_ext (M := qb.1) (M' := md_i qb.1 29 cd) (Int.le_refl _) (fun _ _ _ => rfl) _ _ w3
            have hAg : (md_i qb.1 29 cd).1 12 = 0 → repR (md_i qb.1 29 cd) (Tagn ln x (q10.1.1 20 + 1 + 1) T) qb.2 := fun _ => repR_ext (M := qb.1) (M' := md_i qb.1 29 cd) (Int.le_refl _) (fun _ _ _ => rfl) _ _ (k5 zb)
            exact (nd2_r (u := -1) (m := -1) (sv := -1) hAw hAg rfl eqc).2 z
          · rw [e7]; omega
          · rw [e7]; omega
          · rw [e29, e20, e13, e14, e7]
            rw [b29] at ecd
            have rsN : (M.1 13).toInt < (N.1 7).toInt ∨ M.1 13 = 32768 := h13.imp (fun y => by omega) id
            exact BU_end ((((hA (eM B M) (M.1 20) (Q 9) (M.1 13) (M.1 14) (N.1 7).toInt rs.1 rsN (by omega)).2.2.2.2.1 T ln _ _ _ _ _ p0 _ bu3 (by omega) h13 (by omega)).2.2.2.2.2 x y pq c k1 k2 k3).2 y pq c cd k1 k2 k3 ecd) (by omega)
          · rw [e20, e7, e202]; omega
          · rw [e7]; omega
        · right
          rw [a03, a13, a1] at g
          refine ⟨X, rfl, g.mono (fun φ hφ hs => ?_)⟩
          exact mm_node_IIIIII_sk hφ _ _ _ _ _ _ _ (stk_i (by decide) (by decide) (by decide) (mm_again_sk hφ _ _ _ _ _ (mm_await_sk hφ _ _ _ hs _ eqa) _ eqb)) _ eqc
      · rw [a1] at g
        exact ⟨_, rfl, Or.inr ⟨X, rfl, Or.inr ⟨X, rfl, g.mono (fun φ hφ hs => s27 _ _ φ hφ hs hq)⟩⟩⟩
    · rw [a1] at g
      exact ⟨_, rfl, Or.inr ⟨X, rfl, Or.inr ⟨X, rfl, g.mono sN⟩⟩⟩
  · exact ⟨_, rfl, Or.inr ⟨X, rfl, Or.inr ⟨X, rfl, g.mono (fun φ hφ hs => sN φ hφ (mm_mustWord_sk hφ _ _ hs _ e9))⟩⟩⟩
end EVY
