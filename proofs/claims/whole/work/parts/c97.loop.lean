/-! loop, with 'each' and without -/
theorem mustW_no {M : md_S} {j i : Nat} {w : Int64} (ht : tokS (some j) (M.1 6) M.2.2.1) (h0 : M.1 10 = 0) (hi : i < 26) (hw : w = kw.getD i 0) (hj : ¬ j = i) : mm_mustWord M w = some (md_i M 10 (1 + 8 * M.1 8)) := by
  subst hw
  have e1 : mm_meetsWord M (kw.getD i 0) = some (M, 0) := by
    delta mm_meetsWord
    rw [h0, if_neg lt00, isWord_e, kstep, if_neg (fun z => hj ((tk_word ht hi).mp z))]
    rfl
  delta mm_mustWord
  rw [e1, Option.bind_some, if_pos rfl]
  delta mm_fail
  rw [if_pos h0]
  rfl
section LOP
variable {G : hg_E} {sz t0' : Nat} {H0 : Nat → Option va_E} {K1 K2 n : Nat} {f : Nat → Int32} {S : hg_S} {A C : Nat → Nat} {B : Nat → Nat → Int32} {Q : Nat → Int32} {j : Nat} {el : Nat → Option Nat} {P : Nat → Nat} {ND : Nat → ndT} {M : md_S} {b u w p0 : Int}
set_option maxHeartbeats 2000000 in
theorem loop_c (hA : BUalg) (hok : lw_ok G sz) (hK : 40 * n + 70 ≤ K1 ∧ 200 * n + 400 ≤ K2) {d e : Nat} (ih : StP G t0' H0 K1 K2 n f d 3 ((hm_P2 d).1) ((mm_P2 e).1)) (h : PV G t0' H0 K1 K2 n f S A C B Q j el P ND) (r : RM M C B n f Q j b u w) (hb : b ≤ (M.1 7).toInt) (rp : RP M B Q u w p0 4) (hd : 5 * (24 - (M.1 11).toInt) + 3 ≤ (d : Int)) {ln g0 : Int32} (hg : g0.toInt = p0) {q : md_S × Int32} (hq : mm_loop (mm_P2 e) M ln g0 = some q) : dc_wp (ceX G (A 0) (hm_PA_takeLoop (hm_P2 d) G S (A 0) ln)) (fun z => (∃ S' r, z = .inl (S', r) ∧ stO G t0' H0 K1 K2 n f (100 * (2 * (d + 1)) + (27 - (M.1 11).toInt).toNat) A C B Q P ND M u w p0 S' r q) ∨ ∃ X : hg_X, z = .inr X ∧ thr t0' H0 K1 K2 n (A 0) (A 1) X q.1) := by
  obtain ⟨rs, ⟨p00, p01⟩, ⟨hu, hw'⟩, h13, h20⟩ := rp
  have hn : (n : Int) ≤ 32768 := by have := r.1.1; omega
  have pp := r.2.2.2.2.1.1
  have opx := r.2.2.2.2.2.2.2.1
  have hd3 : 3 ≤ d := by have := r.2.2.2.2.2.2.2.1; omega
  delta mm_loop at hq
  obtain ⟨q1', e1, hq⟩ := iv_bind hq
  have hq : (if (0 : Int32) < (q1'.1.1 10) then (some (q1'.1, (0 : Int32))) else ((mm_meetsWord q1'.1 6647396).bind fun q6 => if q6.2 = 0 then ((mm_mustWord q6.1 1700881256).bind fun q7 => if (0 : Int32) < (q7.1 10) then (mm_loop_L90 (mm_P2 e) q7 ln q1'.2 (q1'.1.1 29) 0) else ((mm_asked_r q7).bind fun q8 => mm_loop_L90 (mm_P2 e) q8.1 ln q1'.2 (q1'.1.1 29) q8.2)) else (if (q1'.1.1 29 &&& 1) = 1 then (if g0 < (q6.1.1 13) then (dc_let (md_i q6.1 13 g0) fun S9 => dc_let (md_i S9 14 ln) fun S10 => mm_loop_L56 (mm_P2 e) S10 ln q1'.2) else (mm_loop_L56 (mm_P2 e) q6.1 ln q1'.2)) else (mm_loop_L56 (mm_P2 e) q6.1 ln q1'.2)))) = some q := hq
  have s90 : ∀ (Z : md_S) (y : Int32) φ, ¬ φ = 0 → stk φ Z → mm_loop_L90 (mm_P2 e) Z ln q1'.2 (q1'.1.1 29) y = some q → stk φ q.1 := fun Z y φ hφ hs hq => mm_loop_L90_sk hφ (mm_P2 e) (mm_P2_sk hφ e) Z ln _ _ _ hs _ hq
  have s56 : ∀ (Z : md_S) φ, ¬ φ = 0 → stk φ Z → mm_loop_L56 (mm_P2 e) Z ln q1'.2 = some q → stk φ q.1 := fun Z φ hφ hs hq => mm_loop_L56_sk hφ (mm_P2 e) (mm_P2_sk hφ e) Z ln _ hs _ hq
  have sW : ∀ (q6 : md_S × Int32) φ, ¬ φ = 0 → stk φ q6.1 → (if q6.2 = 0 then ((mm_mustWord q6.1 1700881256).bind fun q7 => if (0 : Int32) < (q7.1 10) then (mm_loop_L90 (mm_P2 e) q7 ln q1'.2 (q1'.1.1 29) 0) else ((mm_asked_r q7).bind fun q8 => mm_loop_L90 (mm_P2 e) q8.1 ln q1'.2 (q1'.1.1 29) q8.2)) else (if (q1'.1.1 29 &&& 1) = 1 then (if g0 < (q6.1.1 13) then (dc_let (md_i q6.1 13 g0) fun S9 => dc_let (md_i S9 14 ln) fun S10 => mm_loop_L56 (mm_P2 e) S10 ln q1'.2) else (mm_loop_L56 (mm_P2 e) q6.1 ln q1'.2)) else (mm_loop_L56 (mm_P2 e) q6.1 ln q1'.2))) = some q → stk φ q.1 := by
    intro q6 φ hφ hs hq
    rcases iv_if hq with ⟨-, hq⟩ | ⟨-, hq⟩
    · obtain ⟨q7, e7, hq⟩ := iv_bind hq
      have s7 := mm_mustWord_sk hφ _ _ hs _ e7
      rcases iv_if hq with ⟨-, hq⟩ | ⟨-, hq⟩
      · exact s90 _ _ φ hφ s7 hq
      · obtain ⟨q8, e8, hq⟩ := iv_bind hq
        exact s90 _ _ φ hφ (mm_asked_r_sk hφ _ s7 _ e8) hq
    · rcases iv_if hq with ⟨-, hq⟩ | ⟨-, hq⟩
      · rcases iv_if hq with ⟨-, hq⟩ | ⟨-, hq⟩
        · exact s56 _ φ hφ (stk_i (by decide) (by decide) (by decide) (stk_i (by decide) (by decide) (by decide) hs)) hq
        · exact s56 _ φ hφ hs hq
      · exact s56 _ φ hφ hs hq
  refine ce_l ?_
  delta hm_PA_takeLoop
  refine wq_chk h.pa ?_
  refine wq_call (ih S A C B Q j el P ND M b u w q1' h r hb rs hd e1) ?_
  rintro z (⟨S1, r1, rfl, A1, C1, B1, Q1, j1, el1, P1, ND1, T, i, I, g1, g2, g3, ⟨er, ei, hT, cv⟩, ⟨g5, fb5, gk5⟩, g6, g7, g8⟩ | ⟨X, rfl, g⟩)
  · have a0 : A1 0 = A 0 := g3.1 0 (by omega)
    have a1 : A1 1 = A 1 := g3.1 1 (by omega)
    have p1 := g2.2.2.2.2.1.1
    have pl1 := g2.2.2.2.2.1.2
    have x3 := g2.2.1.2.1
    have x4 := g2.2.1.2.2
    have x5 := g2.2.2.2.1.2
    have bn1 := g2.2.2.2.2.2.2.2.2.2.1.2
    have szx : (Q 12).toInt ≤ (Q1 12).toInt := g3.2.2.2.1.1
    have er1 : r1 = some (P1 i) := er
    rw [x5, if_neg lt00] at hq
    obtain ⟨q6, e6, hq⟩ := iv_bind hq
    have mt := meetsW_i (i := 11) x3 x5 (by decide) (by decide) e6
    have dcell : hg_at S1.1 (A 0) = some (.inr (4, [.ref (A1 1), .ref (A1 3), .ref (A1 4), .ref (A1 5), .int (Q1 0), .int (Q1 1), .int (Q1 2)])) := by rw [← a0]; exact g1.pa
    by_cases c15 : j1 = 15
    · -- each
      have m6 : q6 = (q1'.1, 0) := by
        rcases mt with ⟨m1, -⟩ | ⟨-, m2⟩
        · omega
        · exact m2
      subst m6
      rw [if_pos rfl] at hq
      obtain ⟨N, e2, hq⟩ := iv_bind hq
      obtain ⟨q3, e3, hq⟩ := ask_e (L := fun N y => mm_loop_L90 (mm_P2 e) N ln q1'.2 (q1'.1.1 29) y) hq
      have mt2 := must_i (i := 15) x3 x5 (by decide) (by decide) e2
      have ha : mm_advance q1'.1 = some N := by
        rcases mt2 with ⟨-, y⟩ | ⟨y, -⟩
        · exact y
        · exact absurd c15 y
      delta mm_loop_L90 at hq
      obtain ⟨N2, e4, hq⟩ := iv_bind hq
      obtain ⟨q5, e5, hq⟩ := iv_bind hq
      have hq := (Option.some.inj hq).symm
      subst hq
      have sk3 : ∀ φ, ¬ φ = 0 → stk φ q3.1 → stk φ q5.1 := fun φ hφ hs => mm_again_sk hφ _ _ _ _ _ (mm_mustWord_sk hφ _ _ hs _ e4) _ e5
      show dc_wp ((hg_chk S1 (some (A 0)) 4).bind _) _
      rw [← a0]
      refine wq_chk g1.pa ?_
      refine wq_call (skip_l hok g1 g2 hK (i := 15) (by decide) (M' := N) (Or.inl ⟨c15, ha⟩)) ?_
      rintro zz (⟨ej, S2, rfl, j2, v2, w2, ra2, of2⟩ | ⟨ej, -⟩ | ⟨ej, X, rfl, g⟩)
      · have c8 : (q1'.1.1 4).toInt ≤ (N.1 7).toInt := ra2.2.2.2.2.1.1
        have t15 : tln 15 = 4 := by decide +kernel
        rw [c15, t15] at x4
        have f0 : N.1 10 = 0 := w2.2.2.2.1.2
        rw [f0, if_neg lt00] at e3
        refine wq_gr (x := some (A1 5)) v2.pa rfl ?_
        refine wq_chk v2.pa ?_
        refine wq_call (either_l hok hK v2 w2 (Int.le_refl _) e3) ?_
        rintro zz (⟨S3, x, rfl, A3, C3, B3, Q3, j3, v3, w3, ev3, ea3, ex3, ext3, eq3, ep3⟩ | ⟨X, rfl, g⟩)
        · have a03 : A3 0 = A1 0 := ev3.1 0 (by omega)
          have a13 : A3 1 = A1 1 := ev3.1 1 (by omega)
          have a53 : A3 5 = A1 5 := ev3.1 5 (by omega)
          have q12 : Q3 12 = Q1 12 := ev3.2.2.2.1 12 (by omega) (by omega)
          have q9 : Q3 9 = Q1 9 := ev3.2.2.2.1 9 (by omega) (by omega)
          have mm := fun k (d : ¬ (4 ≤ k ∧ k ≤ 8)) (d2 : ¬ k = 12) (d3 : ¬ k = 28) => ev3.2.2.2.2.1 k d d2 d3
          have ma := fun k (d : ¬ (4 ≤ k ∧ k ≤ 8)) => ra2.1 k (by omega) (by omega) (by omega) (by omega) (by omega)
          have evT := evS_tr (evS_adv (A := A1) (C := C1) (B := B1) (Q := Q1) (P := P1) (ND := ND1) (a := N.1 7) (b := N.1 4) (c := N.1 8) (d := 0) ra2 p1.2.1) (evS_T ev3)
          have evx := evS_tr g3 evT
          have p3 := w3.2.2.2.2.1.1
          have bn3 := w3.2.2.2.2.2.2.2.2.2.1.2
          have rc3 := RC_of v3 w3 hK
          have cv : cov I (Q 12).toInt.toNat (Q3 12).toInt.toNat := by rw [q12]; exact cv
          have sz3 : (Q 12).toInt ≤ (Q3 12).toInt := by rw [q12]; exact szx
          show dc_wp ((hg_chk S3 (some (A1 5)) 6).bind _) _
          refine chkD v3 a53 ?_
          refine wq_call (loopEach_t v3 rc3 a53 (by omega) hT cv (by omega) er1 (sv := q3.1.1 20 + 1)) ?_
          rintro ⟨S4, r4⟩ t
          refine ⟨_, rfl, Or.inl ⟨S4, r4, rfl, ?_⟩⟩
          refine dc_mono (end_l hok hK t w3 (Int.le_refl _) (by omega) (by omega) e4 (a03)) ?_
          rintro z (⟨S5, rfl, te⟩ | ⟨X, rfl, g⟩)
          · left
            refine ⟨S5, r4, rfl, ?_⟩
            have te0 := te
            obtain ⟨A', C', Q', el', P', ND', i', I', j', y1, y2, y3, y4, y5, ra⟩ := te
            have c83 : (q3.1.1 4).toInt ≤ (N2.1 7).toInt := ra.2.2.2.2.1.1
            have m := fun k (d : ¬ (4 ≤ k ∧ k ≤ 8)) => ra.1 k (by omega) (by omega) (by omega) (by omega) (by omega)
            have pN := y2.2.2.2.2.1.1
            have s20 : N2.1 20 = q3.1.1 20 := m 20 (by omega)
            have t20 : q3.1.1 20 = q1'.1.1 20 := (mm 20 (by omega) (by omega) (by omega)).trans (ma 20 (by omega))
            have t13 : q3.1.1 13 = q1'.1.1 13 := (mm 13 (by omega) (by omega) (by omega)).trans (ma 13 (by omega))
            have t14 : q3.1.1 14 = q1'.1.1 14 := (mm 14 (by omega) (by omega) (by omega)).trans (ma 14 (by omega))
            have key : ∃ y pq c, mm_then (q1'.1.1 29) 2 = some y ∧ mm_pairs (cAb2 (cAb y)) 2 = some pq ∧ mm_caught pq = some c ∧ (∃ Z, evR N2 Z ∧ evR (md_i (md_i Z 20 (N2.1 20 + 1)) 29 c) q5.1) ∧ (q5.1.1 12 = 0 → repR q5.1 (Tagn ln x (q3.1.1 20 + 1) T) q5.2) := by
              by_cases z2 : q3.1.1 12 = 0
              · have hT' : N2.1 12 = 0 → repR N2 T q1'.2 := fun _ => repR_ext (M := q3.1) (M' := N2) (by rw [m 27 (by omega)]; exact Int.le_refl _) (fun k i _ => by rw [ra.2.1]) T _ (repR_S g5 evT z2)
                obtain ⟨y, pq, c, k1, k2, k3, k4, k5⟩ := again_r hT' e5
                rw [s20, ea3 z2] at k5
                exact ⟨y, pq, c, k1, k2, k3, k4, k5⟩
              · have hT' : N2.1 12 = 0 → repR N2 T q1'.2 := fun z => absurd (by rw [← m 12 (by omega)]; exact z) z2
                obtain ⟨y, pq, c, k1, k2, k3, ⟨Z, k4, k4'⟩, k5⟩ := again_r hT' e5
                refine ⟨y, pq, c, k1, k2, k3, ⟨Z, k4, k4'⟩, fun z => absurd ?_ z2⟩
                rw [← m 12 (by omega)]
                exact (k4.2.2.2 (k4'.2.2.2 z).1).1
            obtain ⟨y, pq, c, k1, k2, k3, ⟨Z, k4, k4'⟩, k5⟩ := key
            have ee := fun k (d : ¬ k = 12) (d2 : ¬ k = 27) => k4'.1 k d d2
            have ez := fun k (d : ¬ k = 12) (d2 : ¬ k = 27) => k4.1 k d d2
            have e7 : q5.1.1 7 = N2.1 7 := (ee 7 (by omega) (by omega)).trans (ez 7 (by omega) (by omega))
            have e29 : q5.1.1 29 = c := (ee 29 (by omega) (by omega)).trans md_ii
            have e20 : q5.1.1 20 = q3.1.1 20 + 1 := (ee 20 (by omega) (by omega)).trans (by show N2.1 20 + 1 = _; rw [s20])
            have e13 : q5.1.1 13 = q3.1.1 13 := (ee 13 (by omega) (by omega)).trans ((ez 13 (by omega) (by omega)).trans (m 13 (by omega)))
            have e14 : q5.1.1 14 = q3.1.1 14 := (ee 14 (by omega) (by omega)).trans ((ez 14 (by omega) (by omega)).trans (m 14 (by omega)))
            have e201 : (q3.1.1 20 + 1).toInt = (q3.1.1 20).toInt + 1 := by
              have z0 := rs.1.1.1
              have z1 := g6.2.1.1
              rw [t20]
              rw [i_addS (by rw [il_1]; omega), il_1]
            have e15 : q5.1.1 15 = q1'.1.1 15 := (ee 15 (by omega) (by omega)).trans ((ez 15 (by omega) (by omega)).trans ((m 15 (by omega)).trans ((mm 15 (by omega) (by omega) (by omega)).trans (ma 15 (by omega)))))
            have tok := tst_ok (evS_tr g3 (evS_adv (A := A1) (C := C1) (B := B1) (Q := Q1) (P := P1) (ND := ND1) (a := N.1 7) (b := N.1 4) (c := N.1 8) (d := 0) ra2 p1.2.1)) ev3 ex3 ext3 eq3 g2.2.2.2.2.2.2.2.2.1.1.1 (evS_rf (P := P1) (ND := ND1))
            have tok2 : txx (B3 9) x = (Q3 11).toInt - (Q1 11).toInt := tok.2
            have eq3' : (Q1 11).toInt < (Q3 11).toInt := eq3
            have fg := fb5.get (evS_rf (A := A) (C := C) (P := P) (ND := ND)) evT
            have fb : FB M Q B q5.1 Q3 B3 (100 * (2 * (d + 1)) + (27 - (M.1 11).toInt).toNat) (Tagn ln x (q3.1.1 20 + 1) T) := FG_1 (k := txx (B3 9) x + txx (B3 9) x) (ka := (Q3 11).toInt - (Q1 11).toInt) fg (fun t L g => (FU_agn tok.1 g (by omega) (by omega)).eqt (by omega)) (by omega) (by omega) (Int.le_refl _) (by rw [e15]; exact Int.le_refl _)
            have gk : GK (tsz (Tagn ln x (q3.1.1 20 + 1) T) : Int) (Q3 11).toInt M q5.1 := gk_tr (gk_tr (gk_tr (gk_tr gk5 (gk_adv (w := (Q1 11).toInt) ra2) (Int.le_refl _) (by omega) rfl) (gk_T ev3) (by omega) (by omega) rfl) (gk_adv (w := (Q3 11).toInt) ra) (Int.le_refl _) (by omega) rfl) (gk_again e5) (Int.le_refl _) (by omega) (by show ((1 + (1 + (1 + (1 + (1 + (1 + tsz T + 2)) + 1) + 6)) : Nat) : Int) = _; omega)
            refine fin_e evx te0 rfl (fun A C B Q P ND => evS_tr (evS_R k4) (evS_tr (evS_i (k := 20) (v := N2.1 20 + 1) (by omega)) (evS_tr (evS_i (k := 29) (v := c) (by omega)) (evS_R k4')))) (fun C B Q j b u w r => RM_R (RM_i (RM_i (RM_R r k4) (k := 20) (v := N2.1 20 + 1) (by omega)) (k := 29) (v := c) (by omega)) k4') e7 k5 ?_ ?_ hu hw' ?_ ?_ ?_ fb gk
            · rw [e7]; omega
            · rw [e7]; omega
            · rw [e29, e20, e13, e14, e7, q9]
              rw [t20, t13, t14]
              exact BU_end ((((hA (eM B M) (M.1 20) (Q 9) (M.1 13) (M.1 14) (M.1 7).toInt rs.1 rs.2.1 (by omega)).2.2.2.2.1 T ln _ _ _ _ _ p0 _ g6 (by omega) h13 (by omega)).2.2.2.2.2 x y pq c k1 k2 k3).1) (by omega)
            · rw [e20, e7, e201, t20]; omega
            · rw [e7]; omega
          · right
            rw [a03, a13, a1] at g
            exact ⟨X, rfl, g.mono (fun φ hφ hs => mm_again_sk hφ _ _ _ _ _ hs _ e5)⟩
        · rw [a1] at g
          exact ⟨_, rfl, Or.inr ⟨X, rfl, Or.inr ⟨X, rfl, g.mono sk3⟩⟩⟩
      · exact absurd c15 ej
      · rw [a1] at g
        refine ⟨_, rfl, Or.inr ⟨X, rfl, Or.inr ⟨X, rfl, g.mono (fun φ hφ hs => sk3 φ hφ ?_)⟩⟩⟩
        rcases iv_if e3 with ⟨-, y⟩ | ⟨-, y⟩
        · have y := (Option.some.inj y).symm
          subst y
          exact hs
        · exact mm_asked_r_sk hφ N hs _ y
    · -- no 'each'
      have rc1 := RC_of g1 g2 hK
      show dc_wp ((hg_chk S1 (some (A 0)) 4).bind _) _
      rw [← a0]
      refine wq_chk g1.pa ?_
      refine wq_call (skip_l hok g1 g2 hK (i := 15) (by decide) (M' := q1'.1) (Or.inr ⟨c15, rfl⟩)) ?_
      rintro zz (⟨ej, -⟩ | ⟨ej, rfl, -⟩ | ⟨ej, -⟩)
      · exact absurd ej c15
      · refine wq_gr (x := some (A1 5)) g1.pa rfl ?_
        refine chkD g1 rfl ?_
        refine wq_call (jn1_t g1 rc1 rfl (by omega) hT cv (by omega) er1 (sv := -1)) ?_
        rintro ⟨S4, r4⟩ t
        refine ⟨_, rfl, Or.inl ⟨S4, r4, rfl, ?_⟩⟩
        by_cases c11 : j1 = 11
        · have m6 : q6.2 = 1 ∧ mm_advance q1'.1 = some q6.1 := by
            rcases mt with ⟨-, m2⟩ | ⟨m1, -⟩
            · exact m2
            · exact absurd c11 m1
          have he : mm_mustWord q1'.1 6647396 = some q6.1 := by
            delta mm_mustWord
            rw [e6, Option.bind_some, if_neg (by rw [m6.1]; decide)]
            rfl
          rw [if_neg (by rw [m6.1]; decide)] at hq
          refine dc_mono (end_l hok hK t g2 (Int.le_refl _) (by omega) (by omega) he rfl) ?_
          rintro z (⟨S5, rfl, te⟩ | ⟨X, rfl, g⟩)
          · left
            refine ⟨S5, r4, rfl, ?_⟩
            have te0 := te
            obtain ⟨A', C', Q', el', P', ND', i', I', j', y1, y2, y3, y4, y5, ra⟩ := te
            have c83 : (q1'.1.1 4).toInt ≤ (q6.1.1 7).toInt := ra.2.2.2.2.1.1
            have m := fun k (d : ¬ (4 ≤ k ∧ k ≤ 8)) => ra.1 k (by omega) (by omega) (by omega) (by omega) (by omega)
            have pN := y2.2.2.2.2.1.1
            have al := ((hA (eM B M) (M.1 20) (Q 9) (M.1 13) (M.1 14) (M.1 7).toInt rs.1 rs.2.1 (by omega)).2.2.2.2.1 T ln _ _ _ _ _ p0 _ g6 (by omega) h13 (by omega)).2.2.2.1 g0 hg (by omega) (by omega)
            -- what the reference notes
            have key : ∃ Z, mm_loop_L56 (mm_P2 e) Z ln q1'.2 = some q ∧ (∀ (A C : Nat → Nat) (B : Nat → Nat → Int32) (Q : Nat → Int32) (P : Nat → Nat) (ND : Nat → ndT), evS A C B Q P ND q6.1 A C B Q P ND Z) ∧ (∀ (C : Nat → Nat) (B : Nat → Nat → Int32) (Q : Nat → Int32) (j : Nat) (b u w : Int), RM q6.1 C B n f Q j b u w → RM Z C B n f Q j b u w) ∧ Z.2 = q6.1.2 ∧ (∀ k, ¬ k = 13 → ¬ k = 14 → Z.1 k = q6.1.1 k) ∧ Z.1 13 = (if (q1'.1.1 29 &&& 1) = 1 ∧ g0 < q1'.1.1 13 then g0 else q1'.1.1 13) ∧ Z.1 14 = (if (q1'.1.1 29 &&& 1) = 1 ∧ g0 < q1'.1.1 13 then ln else q1'.1.1 14) := by
              rw [m 13 (by omega)] at hq
              rcases iv_if hq with ⟨d1, hq⟩ | ⟨d1, hq⟩
              · rcases iv_if hq with ⟨d2, hq⟩ | ⟨d2, hq⟩
                · refine ⟨md_i (md_i q6.1 13 g0) 14 ln, hq, fun A C B Q P ND => evS_tr (evS_i (k := 13) (v := g0) (by omega)) (evS_i (k := 14) (v := ln) (by omega)), fun C B Q j b u w r => RM_i (RM_i r (k := 13) (v := g0) (by omega)) (k := 14) (v := ln) (by omega), rfl, fun k k1 k2 => (md_ij k2).trans (md_ij k1), ?_, ?_⟩
                  · rw [if_pos ⟨d1, d2⟩]; rfl
                  · rw [if_pos ⟨d1, d2⟩]; exact md_ii
                · refine ⟨q6.1, hq, fun _ _ _ _ _ _ => evS_rf, fun _ _ _ _ _ _ _ r => r, rfl, fun _ _ _ => rfl, ?_, ?_⟩
                  · rw [if_neg (fun z => d2 z.2)]; exact m 13 (by omega)
                  · rw [if_neg (fun z => d2 z.2)]; exact m 14 (by omega)
              · refine ⟨q6.1, hq, fun _ _ _ _ _ _ => evS_rf, fun _ _ _ _ _ _ _ r => r, rfl, fun _ _ _ => rfl, ?_, ?_⟩
                · rw [if_neg (fun z => d1 z.1)]; exact m 13 (by omega)
                · rw [if_neg (fun z => d1 z.1)]; exact m 14 (by omega)
            obtain ⟨Z, hq, kE, kM, k2, k3, k13, k14⟩ := key
            delta mm_loop_L56 at hq
            obtain ⟨q5, e5, hq⟩ := iv_bind hq
            have hq := (Option.some.inj hq).symm
            subst hq
            have hT' : Z.1 12 = 0 → repR Z T q1'.2 := by
              intro z
              have z1 : q1'.1.1 12 = 0 := by rw [← m 12 (by omega), ← k3 12 (by omega) (by omega)]; exact z
              exact repR_ext (M := q1'.1) (M' := Z) (by rw [k3 27 (by omega) (by omega), m 27 (by omega)]; exact Int.le_refl _) (fun k i _ => by rw [k2, ra.2.1]) T _ (g5 z1)
            obtain ⟨evr, hR⟩ := nd1_r (u := -1) (m := -1) (sv := -1) hT' rfl e5
            have ee := fun k (d : ¬ k = 12) (d2 : ¬ k = 27) => evr.1 k d d2
            have e7 : q5.1.1 7 = q6.1.1 7 := (ee 7 (by omega) (by omega)).trans (k3 7 (by omega) (by omega))
            have e29 : q5.1.1 29 = q1'.1.1 29 := (ee 29 (by omega) (by omega)).trans ((k3 29 (by omega) (by omega)).trans (m 29 (by omega)))
            have e20 : q5.1.1 20 = q1'.1.1 20 := (ee 20 (by omega) (by omega)).trans ((k3 20 (by omega) (by omega)).trans (m 20 (by omega)))
            have e13 : q5.1.1 13 = Z.1 13 := ee 13 (by omega) (by omega)
            have e14 : q5.1.1 14 = Z.1 14 := ee 14 (by omega) (by omega)
            have e15 : q5.1.1 15 = q1'.1.1 15 := (ee 15 (by omega) (by omega)).trans ((k3 15 (by omega) (by omega)).trans (m 15 (by omega)))
            have fb : FB M Q B q5.1 Q1 B1 (100 * (2 * (d + 1)) + (27 - (M.1 11).toInt).toNat) (Tloop ln T) := FG_1 (k := 0) (ka := 0) fb5 (fun t L g => (FU_loop g (by omega)).eqt (by omega)) (by omega) (by omega) (Int.le_refl _) (by rw [e15]; exact Int.le_refl _)
            have gk : GK (tsz (Tloop ln T) : Int) (Q1 11).toInt M q5.1 := gk_tr (gk_tr (gk_tr gk5 (gk_adv (w := (Q1 11).toInt) ra) (Int.le_refl _) (by omega) rfl) (gk_0 (w := (Q1 11).toInt) (k3 12 (by omega) (by omega)) (k3 27 (by omega) (by omega))) (Int.le_refl _) (by omega) rfl) (gk_node e5) (Int.le_refl _) (by omega) (by show ((1 + tsz T : Nat) : Int) = _; omega)
            refine fin_e g3 te0 rfl (fun A C B Q P ND => evS_tr (kE A C B Q P ND) (evS_R evr)) (fun C B Q j b u w r => RM_R (kM C B Q j b u w r) evr) e7 hR ?_ ?_ hu hw' ?_ ?_ ?_ fb gk
            · rw [e7]; omega
            · rw [e7]; omega
            · rw [e29, e20, e13, e14, k13, k14, e7]
              exact BU_end al (by omega)
            · rw [e20, e7]; omega
            · rw [e7]; omega
          · right
            rw [a1] at g
            refine ⟨X, rfl, g.mono (fun φ hφ hs => sW q6 φ hφ hs ?_)⟩
            rw [if_neg (by rw [m6.1]; decide)]
            exact hq
        · -- neither: both tell the fault here
          have he := mustW_no x3 x5 (i := 11) (w := 6647396) (by decide) (by decide) c11
          have m6 : q6 = (q1'.1, 0) := by
            rcases mt with ⟨m1, -⟩ | ⟨-, m2⟩
            · exact absurd m1 c11
            · exact m2
          subst m6
          rw [if_pos rfl] at hq
          have he2 := mustW_no x3 x5 (i := 15) (w := 1700881256) (by decide) (by decide) c15
          rw [he2, Option.bind_some] at hq
          refine dc_mono (end_l hok hK t g2 (Int.le_refl _) (by omega) (by omega) he rfl) ?_
          rintro z (⟨S5, rfl, te⟩ | ⟨X, rfl, g⟩)
          · exfalso
            obtain ⟨A', C', Q', el', P', ND', i', I', j', y1, y2, y3, y4, y5, ra⟩ := te
            have z := y2.2.2.2.1.2
            have z : 1 + 8 * q1'.1.1 8 = 0 := z
            exact ph_ne (by decide) (by omega) z
          · right
            rw [a1] at g
            refine ⟨X, rfl, g.mono (fun φ hφ hs => ?_)⟩
            rcases hs with hs | ⟨hs, -⟩
            · have hs : 1 + 8 * q1'.1.1 8 = φ := hs
              subst hs
              have f10 : (md_i q1'.1 10 (1 + 8 * q1'.1.1 8)).1 10 = 1 + 8 * q1'.1.1 8 := md_ii
              rw [f10, if_pos (ph_pos (by decide) (by omega))] at hq
              exact s90 _ _ _ hφ (Or.inl f10) hq
            · have hs : 1 + 8 * q1'.1.1 8 = 0 := hs
              exact absurd hs (ph_ne (by decide) (by omega))
      · exact absurd ej c15
  · refine ⟨_, rfl, Or.inr ⟨X, rfl, Or.inr ⟨X, rfl, g.mono (fun φ hφ hs => ?_)⟩⟩⟩
    rcases iv_if hq with ⟨-, hq⟩ | ⟨-, hq⟩
    · have hq := (Option.some.inj hq).symm
      subst hq
      exact hs
    · obtain ⟨q6, e6, hq⟩ := iv_bind hq
      exact sW q6 φ hφ (mm_meetsWord_sk hφ _ _ hs _ e6) hq
end LOP
