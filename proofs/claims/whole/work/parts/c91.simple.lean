/-! simple statements -/
section SMP
variable {G : hg_E} {sz t0' : Nat} {H0 : Nat → Option va_E} {K1 K2 n : Nat} {f : Nat → Int32} {S S' : hg_S} {A C A' C' : Nat → Nat} {B B' : Nat → Nat → Int32} {Q Q' : Nat → Int32} {j j' : Nat} {el el' : Nat → Option Nat} {P P' : Nat → Nat} {ND ND' : Nat → ndT} {M M' : md_S} {b u w u' w' p0 : Int}
theorem nothing_c {d : Nat} (hA : BUalg) (hK : 40 * n + 70 ≤ K1 ∧ 200 * n + 400 ≤ K2) (h : PV G t0' H0 K1 K2 n f S A C B Q j el P ND) (r : RM M C B n f Q j b u w) (hb : b ≤ (M.1 7).toInt) (rp : RP M B Q u w p0 1) {ln : Int32} {q : md_S × Int32} (hq : mm_simple_JI M (kw.getD 2 0) ln = some q) : dc_wp ((hg_gr S (some (A 0)) 4 3).bind fun e8 => (hg_chk S e8 6).bind fun b9 => (hm_DR_leaf G S b9 (0 : Int32) ((-1) : Int32) ln).bind fun q12 => (some (.inl (q12.1, q12.2)) : Option ((hg_S × Option Nat) ⊕ hg_X))) (fun z => (∃ S' r, z = .inl (S', r) ∧ stO G t0' H0 K1 K2 n f (100 * (2 * (d + 1)) + (27 - (M.1 11).toInt).toNat) A C B Q P ND M u w p0 S' r q) ∨ ∃ X : hg_X, z = .inr X ∧ thr t0' H0 K1 K2 n (A 0) (A 1) X q.1) := by
  have hq : (mm_leaf (md_i M 29 1) 0 (-1) ln).bind (fun q2 => some (q2.1, q2.2)) = some q := hq
  obtain ⟨q1', e1, hq⟩ := iv_bind hq
  have hq := (Option.some.inj hq).symm
  subst hq
  obtain ⟨a1, b1⟩ := leaf_r (k := 0) (u := -1) (m := -1) (sv := -1) (l := ln) rfl e1
  have hn : (n : Int) ≤ 32768 := by have := r.1.1; omega
  have pp := r.2.2.2.2.1.1
  have opx := r.2.2.2.2.2.2.2.1
  have rp0 := rp
  obtain ⟨rs, ⟨p00, p01⟩, ⟨hu, hw'⟩, h13, h20⟩ := rp
  have bn := r.2.2.2.2.2.2.2.2.2.1.2.1
  have al := ((hA (eM B M) (M.1 20) (Q 9) (M.1 13) (M.1 14) p0 rs.1 h13 (by omega)).1 ln (M.1 7).toInt (by omega))
  refine wq_gr (x := some (A 5)) h.pa rfl ?_
  refine chkD h rfl ?_
  refine wq_call (lf_t h (RC_of h r hK) rfl (by omega) (sv := -1)) ?_
  rintro ⟨S1, r1⟩ g
  exact ⟨_, rfl, Or.inl ⟨S1, r1, rfl, simple_nul hA hK h r hb rp0 (ln := ln) (by omega) al.1 a1 b1 g (FB_0 FU_not rfl) (gk_tr (gk_i (by omega)) (gk_leaf e1) (Int.le_refl _) (by omega) rfl)⟩⟩
theorem pause_c {d : Nat} (hA : BUalg) (hK : 40 * n + 70 ≤ K1 ∧ 200 * n + 400 ≤ K2) (h : PV G t0' H0 K1 K2 n f S A C B Q j el P ND) (r : RM M C B n f Q j b u w) (hb : b ≤ (M.1 7).toInt) (rp : RP M B Q u w p0 1) {ln : Int32} {q : md_S × Int32} (hq : mm_simple_JI M (kw.getD 3 0) ln = some q) : dc_wp ((hg_gr S (some (A 0)) 4 3).bind fun e8 => (hg_chk S e8 6).bind fun b9 => (hm_DR_leaf G S b9 (1 : Int32) ((-1) : Int32) ln).bind fun q12 => (some (.inl (q12.1, q12.2)) : Option ((hg_S × Option Nat) ⊕ hg_X))) (fun z => (∃ S' r, z = .inl (S', r) ∧ stO G t0' H0 K1 K2 n f (100 * (2 * (d + 1)) + (27 - (M.1 11).toInt).toNat) A C B Q P ND M u w p0 S' r q) ∨ ∃ X : hg_X, z = .inr X ∧ thr t0' H0 K1 K2 n (A 0) (A 1) X q.1) := by
  have hq : (mm_leaf (md_i M 29 2) 1 (-1) ln).bind (fun q2 => some (q2.1, q2.2)) = some q := hq
  obtain ⟨q1', e1, hq⟩ := iv_bind hq
  have hq := (Option.some.inj hq).symm
  subst hq
  obtain ⟨a1, b1⟩ := leaf_r (k := 1) (u := -1) (m := -1) (sv := -1) (l := ln) rfl e1
  have hn : (n : Int) ≤ 32768 := by have := r.1.1; omega
  have pp := r.2.2.2.2.1.1
  have opx := r.2.2.2.2.2.2.2.1
  have rp0 := rp
  obtain ⟨rs, ⟨p00, p01⟩, ⟨hu, hw'⟩, h13, h20⟩ := rp
  have bn := r.2.2.2.2.2.2.2.2.2.1.2.1
  have al := ((hA (eM B M) (M.1 20) (Q 9) (M.1 13) (M.1 14) p0 rs.1 h13 (by omega)).1 ln (M.1 7).toInt (by omega))
  refine wq_gr (x := some (A 5)) h.pa rfl ?_
  refine chkD h rfl ?_
  refine wq_call (lf_t h (RC_of h r hK) rfl (by omega) (sv := -1)) ?_
  rintro ⟨S1, r1⟩ g
  exact ⟨_, rfl, Or.inl ⟨S1, r1, rfl, simple_nul hA hK h r hb rp0 (ln := ln) (by omega) al.2.1 a1 b1 g (FB_0 FU_pau rfl) (gk_tr (gk_i (by omega)) (gk_leaf e1) (Int.le_refl _) (by omega) rfl)⟩⟩
theorem halt_c {d : Nat} (hA : BUalg) (hK : 40 * n + 70 ≤ K1 ∧ 200 * n + 400 ≤ K2) (h : PV G t0' H0 K1 K2 n f S A C B Q j el P ND) (r : RM M C B n f Q j b u w) (hb : b ≤ (M.1 7).toInt) (rp : RP M B Q u w p0 1) {ln : Int32} {q : md_S × Int32} (hq : mm_simple_JI M (kw.getD 4 0) ln = some q) : dc_wp ((hg_gr S (some (A 0)) 4 3).bind fun e8 => (hg_chk S e8 6).bind fun b9 => (hm_DR_halt G S b9 ln).bind fun q12 => (some (.inl (q12.1, q12.2)) : Option ((hg_S × Option Nat) ⊕ hg_X))) (fun z => (∃ S' r, z = .inl (S', r) ∧ stO G t0' H0 K1 K2 n f (100 * (2 * (d + 1)) + (27 - (M.1 11).toInt).toNat) A C B Q P ND M u w p0 S' r q) ∨ ∃ X : hg_X, z = .inr X ∧ thr t0' H0 K1 K2 n (A 0) (A 1) X q.1) := by
  have hq : (mm_halt (md_i M 29 2) ln).bind (fun q2 => some (q2.1, q2.2)) = some q := hq
  obtain ⟨q1', e1, hq⟩ := iv_bind hq
  have hq := (Option.some.inj hq).symm
  subst hq
  obtain ⟨a1, b1⟩ := halt_r e1
  have hn : (n : Int) ≤ 32768 := by have := r.1.1; omega
  have pp := r.2.2.2.2.1.1
  have opx := r.2.2.2.2.2.2.2.1
  have rp0 := rp
  obtain ⟨rs, ⟨p00, p01⟩, ⟨hu, hw'⟩, h13, h20⟩ := rp
  have bn := r.2.2.2.2.2.2.2.2.2.1.2.1
  have al := ((hA (eM B M) (M.1 20) (Q 9) (M.1 13) (M.1 14) p0 rs.1 h13 (by omega)).1 ln (M.1 7).toInt (by omega))
  refine wq_gr (x := some (A 5)) h.pa rfl ?_
  refine chkD h rfl ?_
  refine wq_call (halt_t h (RC_of h r hK) rfl (by omega)) ?_
  rintro ⟨S1, r1⟩ g
  exact ⟨_, rfl, Or.inl ⟨S1, r1, rfl, simple_nul hA hK h r hb rp0 (ln := ln) (by omega) al.2.2.1 a1 b1 g (FB_0 (FU_halt (by omega)) rfl) (gk_tr (gk_i (by omega)) (gk_halt e1) (Int.le_refl _) (by omega) rfl)⟩⟩
/-- behind the use of a signal -/
theorem emit_fin {d2 : Nat} (hA : BUalg) {N : md_S} {c0 : Int32} (ra : radv (md_i M 29 c0) N) (hp2 : (M.1 7).toInt ≤ (M.1 4).toInt) (rp : RP M B Q u w p0 1) (hn : (N.1 7).toInt ≤ 40000) {j1 : Nat} (r1 : RM N C B n f (q4 Q (N.1 7) (N.1 4) (N.1 8) 0) j1 (N.1 7).toInt u w) {T : tT} {m : Int} {S' : hg_S} {r' : Option Nat} {q : md_S × Int32} (t : trO G t0' H0 K1 K2 n f B j1 A C (q4 Q (N.1 7) (N.1 4) (N.1 8) 0) P ND T (Q 12).toInt.toNat m S' r') (hm : m ≤ 6) (ev : evR N q.1) (hR : q.1.1 12 = 0 → repR q.1 T q.2) (hbu : BU (eM B M) (M.1 20) (Q 9) (M.1 13) (M.1 14) p0 T c0 (M.1 20) (Q 9) (M.1 13) (M.1 14) (N.1 7).toInt) (fb : FB M Q B q.1 (q4 Q (N.1 7) (N.1 4) (N.1 8) 0) B d2 T) (gk : GK (tsz T : Int) (Q 11).toInt M q.1) : stO G t0' H0 K1 K2 n f d2 A C B Q P ND M u w p0 S' r' q := by
  obtain ⟨rs, ⟨p00, p01⟩, ⟨hu, hw'⟩, h13, h20⟩ := rp
  have c8 : (M.1 4).toInt ≤ (N.1 7).toInt := ra.2.2.2.2.1.1
  have mm := fun k (d : ¬ (4 ≤ k ∧ k ≤ 8)) => ra.1 k (by omega) (by omega) (by omega) (by omega) (by omega)
  have e := fun k (d : ¬ k = 12) (d2 : ¬ k = 27) => ev.1 k d d2
  have e7 : q.1.1 7 = N.1 7 := e 7 (by omega) (by omega)
  have e29 : q.1.1 29 = c0 := (e 29 (by omega) (by omega)).trans ((mm 29 (by omega)).trans md_ii)
  have e20 : q.1.1 20 = M.1 20 := (e 20 (by omega) (by omega)).trans (mm 20 (by omega))
  have e13 : q.1.1 13 = M.1 13 := (e 13 (by omega) (by omega)).trans (mm 13 (by omega))
  have e14 : q.1.1 14 = M.1 14 := (e 14 (by omega) (by omega)).trans (mm 14 (by omega))
  refine mk_fin (N := N) (evS_tr (evS_i (k := 29) (v := c0) (by omega)) (evS_adv ra hp2)) t rfl (evS_R ev) (RM_R r1 ev) (by rw [e7]; omega) hR (by rw [e7]; omega) (by rw [e7]; omega) hu hw' ?_ (by rw [e20, e7]; omega) (by rw [e7]; omega) fb gk
  rw [e29, e20, e13, e14, e7]
  exact hbu
theorem emit_c {d : Nat} (hA : BUalg) (hok : lw_ok G sz) (hK : 40 * n + 70 ≤ K1 ∧ 200 * n + 400 ≤ K2) (h : PV G t0' H0 K1 K2 n f S A C B Q j el P ND) (r : RM M C B n f Q j b u w) (hb : b ≤ (M.1 7).toInt) (rp : RP M B Q u w p0 1) {ln : Int32} {q : md_S × Int32} (hq : mm_simple_JI M (kw.getD 5 0) ln = some q) : dc_wp ((hg_gr S (some (A 0)) 4 3).bind fun e26 => (hg_gr S (some (A 0)) 4 1).bind fun e27 => (hg_gi S (some (A 0)) 4 4).bind fun e28 => (hg_chk S (some (A 0)) 4).bind fun b29 => (hm_PA_takeUse G S b29 e27 e28).bind (Sum.elim (fun q32 => (hg_chk q32.1 e26 6).bind fun b33 => (hm_DR_leaf G q32.1 b33 (2 : Int32) q32.2 ln).bind fun q36 => some (.inl (q36.1, q36.2))) (fun z => some (Sum.inr z)))) (fun z => (∃ S' r, z = .inl (S', r) ∧ stO G t0' H0 K1 K2 n f (100 * (2 * (d + 1)) + (27 - (M.1 11).toInt).toNat) A C B Q P ND M u w p0 S' r q) ∨ ∃ X : hg_X, z = .inr X ∧ thr t0' H0 K1 K2 n (A 0) (A 1) X q.1) := by
  have hq : (mm_named (md_i M 29 1) 1).bind (fun q5 => (mm_leaf q5.1 2 q5.2 ln).bind fun q6 => some (q6.1, q6.2)) = some q := hq
  obtain ⟨q1', e1, hq⟩ := iv_bind hq
  obtain ⟨q2', e2, hq⟩ := iv_bind hq
  have hq := (Option.some.inj hq).symm
  subst hq
  have hn : (n : Int) ≤ 32768 := by have := r.1.1; omega
  have pp := r.2.2.2.2.1.1
  have opx := r.2.2.2.2.2.2.2.1
  have rp0 := rp
  obtain ⟨rs, ⟨p00, p01⟩, ⟨hu, hw'⟩, h13, h20⟩ := rp
  have bn := r.2.2.2.2.2.2.2.2.2.1.2.1
  have x4 := r.2.1.2.2
  refine wq_gr (x := some (A 5)) h.pa rfl ?_
  refine wq_gr (x := some (A 3)) h.pa rfl ?_
  refine wq_gi (x := Q 0) h.pa rfl ?_
  refine wq_chk h.pa ?_
  refine wq_call (use_l hok h (RM_i r (k := 29) (v := 1) (by omega)) hK (p := 1) (least := Q 0) (Or.inr ⟨by decide, rs.2.2.2.1, rs.2.2.2.2⟩) e1) ?_
  rintro z (⟨hj, S1, rfl, ⟨j1, v1, w1, ra1, of1'⟩, s0, s1, -, sv⟩ | ⟨X, rfl, g⟩)
  · have c8 : (M.1 4).toInt ≤ (q1'.1.1 7).toInt := ra1.2.2.2.2.1.1
    have p1 := w1.2.2.2.2.1.1
    obtain ⟨a1, b1⟩ := leaf_r (k := 2) (u := q1'.2) (m := -1) (sv := -1) (l := ln) rfl e2
    have al := ((hA (eM B M) (M.1 20) (Q 9) (M.1 13) (M.1 14) p0 rs.1 h13 (by omega)).1 ln (q1'.1.1 7).toInt (by omega)).2.2.2 q1'.2
    have Q12 : q4 Q (q1'.1.1 7) (q1'.1.1 4) (q1'.1.1 8) 0 12 = Q 12 := rfl
    show dc_wp ((hg_chk S1 (some (A 5)) 6).bind _) _
    refine chkD v1 rfl ?_
    refine wq_call (lf_t v1 (RC_of v1 w1 hK) rfl (by rw [Q12]; omega) (sv := -1)) ?_
    rintro ⟨S2, r2⟩ g
    exact ⟨_, rfl, Or.inl ⟨S2, r2, rfl, emit_fin hA ra1 pp.2.1 rp0 (by omega) w1 (q := q2') g (by omega) a1 b1 al.1 (FB_0 (FU_emi sv) rfl) (gk_tr (gk_tr (gk_i (by omega)) (gk_adv (w := (Q 11).toInt) ra1) (Int.le_refl _) (by omega) rfl) (gk_leaf e2) (Int.le_refl _) (by omega) rfl)⟩⟩
  · exact ⟨_, rfl, Or.inr ⟨X, rfl, g.mono (fun φ hφ hs => mm_leaf_sk hφ _ _ _ _ hs _ e2)⟩⟩
theorem sustain_c {d : Nat} (hA : BUalg) (hok : lw_ok G sz) (hK : 40 * n + 70 ≤ K1 ∧ 200 * n + 400 ≤ K2) (h : PV G t0' H0 K1 K2 n f S A C B Q j el P ND) (r : RM M C B n f Q j b u w) (hb : b ≤ (M.1 7).toInt) (rp : RP M B Q u w p0 1) {ln : Int32} {q : md_S × Int32} (hq : mm_simple_JI M (kw.getD 6 0) ln = some q) : dc_wp ((hg_gr S (some (A 0)) 4 3).bind fun e26 => (hg_gr S (some (A 0)) 4 1).bind fun e27 => (hg_gi S (some (A 0)) 4 4).bind fun e28 => (hg_chk S (some (A 0)) 4).bind fun b29 => (hm_PA_takeUse G S b29 e27 e28).bind (Sum.elim (fun q32 => (hg_chk q32.1 e26 6).bind fun b33 => (hm_DR_sustain G q32.1 b33 q32.2 ln).bind fun q36 => some (.inl (q36.1, q36.2))) (fun z => some (Sum.inr z)))) (fun z => (∃ S' r, z = .inl (S', r) ∧ stO G t0' H0 K1 K2 n f (100 * (2 * (d + 1)) + (27 - (M.1 11).toInt).toNat) A C B Q P ND M u w p0 S' r q) ∨ ∃ X : hg_X, z = .inr X ∧ thr t0' H0 K1 K2 n (A 0) (A 1) X q.1) := by
  have hq : (mm_named (md_i M 29 2) 1).bind (fun q8 => (mm_leaf q8.1 2 q8.2 ln).bind fun q9 => (mm_leaf q9.1 1 (-1) ln).bind fun q10 => (mm_node_IIIIII q10.1 5 q9.2 q10.2 (-1) ln (-1)).bind fun q11 => (mm_node_IIIIII q11.1 6 q11.2 (-1) (-1) ln (-1)).bind fun q12 => some (q12.1, q12.2)) = some q := hq
  obtain ⟨q1', e1, hq⟩ := iv_bind hq
  obtain ⟨q2', e2, hq⟩ := iv_bind hq
  obtain ⟨q3', e3, hq⟩ := iv_bind hq
  obtain ⟨q4', e4, hq⟩ := iv_bind hq
  obtain ⟨q5', e5, hq⟩ := iv_bind hq
  have hq := (Option.some.inj hq).symm
  subst hq
  have hn : (n : Int) ≤ 32768 := by have := r.1.1; omega
  have pp := r.2.2.2.2.1.1
  have opx := r.2.2.2.2.2.2.2.1
  have rp0 := rp
  obtain ⟨rs, ⟨p00, p01⟩, ⟨hu, hw'⟩, h13, h20⟩ := rp
  have bn := r.2.2.2.2.2.2.2.2.2.1.2.1
  refine wq_gr (x := some (A 5)) h.pa rfl ?_
  refine wq_gr (x := some (A 3)) h.pa rfl ?_
  refine wq_gi (x := Q 0) h.pa rfl ?_
  refine wq_chk h.pa ?_
  refine wq_call (use_l hok h (RM_i r (k := 29) (v := 2) (by omega)) hK (p := 1) (least := Q 0) (Or.inr ⟨by decide, rs.2.2.2.1, rs.2.2.2.2⟩) e1) ?_
  rintro z (⟨hj, S1, rfl, ⟨j1, v1, w1, ra1, of1'⟩, s0, s1, -, sv⟩ | ⟨X, rfl, g⟩)
  · have c8 : (M.1 4).toInt ≤ (q1'.1.1 7).toInt := ra1.2.2.2.2.1.1
    have p1 := w1.2.2.2.2.1.1
    obtain ⟨a1, b1⟩ := leaf_r (k := 2) (u := q1'.2) (m := -1) (sv := -1) (l := ln) rfl e2
    obtain ⟨a2, b2⟩ := leaf_r (k := 1) (u := -1) (m := -1) (sv := -1) (l := ln) rfl e3
    obtain ⟨a3, b3⟩ := nd2_r (u := -1) (m := -1) (sv := -1) (fun z => repR_ev b1 a2 z) b2 rfl e4
    obtain ⟨a4, b4⟩ := nd1_r (u := -1) (m := -1) (sv := -1) b3 rfl e5
    have al := ((hA (eM B M) (M.1 20) (Q 9) (M.1 13) (M.1 14) p0 rs.1 h13 (by omega)).1 ln (q1'.1.1 7).toInt (by omega)).2.2.2 q1'.2
    have Q12 : q4 Q (q1'.1.1 7) (q1'.1.1 4) (q1'.1.1 8) 0 12 = Q 12 := rfl
    show dc_wp ((hg_chk S1 (some (A 5)) 6).bind _) _
    refine chkD v1 rfl ?_
    refine wq_call (sustain_t v1 (RC_of v1 w1 hK) rfl (by rw [Q12]; omega)) ?_
    rintro ⟨S2, r2⟩ g
    exact ⟨_, rfl, Or.inl ⟨S2, r2, rfl, emit_fin hA ra1 pp.2.1 rp0 (by omega) w1 (q := q5') g (by omega) (evR_tr a1 (evR_tr a2 (evR_tr a3 a4))) b4 al.2 (FB_0 (FU_sus sv (by omega)) rfl) (gk_tr (gk_tr (gk_tr (gk_tr (gk_tr (gk_i (by omega)) (gk_adv (w := (Q 11).toInt) ra1) (Int.le_refl _) (by omega) rfl) (gk_leaf (w := (Q 11).toInt) e2) (Int.le_refl _) (by omega) rfl) (gk_leaf (w := (Q 11).toInt) e3) (Int.le_refl _) (by omega) rfl) (gk_node (w := (Q 11).toInt) e4) (Int.le_refl _) (by omega) rfl) (gk_node e5) (Int.le_refl _) (by omega) rfl)⟩⟩
  · exact ⟨_, rfl, Or.inr ⟨X, rfl, g.mono (fun φ hφ hs => mm_node_IIIIII_sk hφ _ _ _ _ _ _ _ (mm_node_IIIIII_sk hφ _ _ _ _ _ _ _ (mm_leaf_sk hφ _ _ _ _ (mm_leaf_sk hφ _ _ _ _ hs _ e2) _ e3) _ e4) _ e5)⟩⟩
theorem await_c {d : Nat} (hA : BUalg) (hok : lw_ok G sz) (hK : 40 * n + 70 ≤ K1 ∧ 200 * n + 400 ≤ K2) (h : PV G t0' H0 K1 K2 n f S A C B Q j el P ND) (r : RM M C B n f Q j b u w) (hb : b ≤ (M.1 7).toInt) (rp : RP M B Q u w p0 2) {ln : Int32} {q : md_S × Int32} (hq : mm_simple_JI M (kw.getD 21 0) ln = some q) : dc_wp ((hg_gr S (some (A 0)) 4 3).bind fun e61 => (hg_chk S (some (A 0)) 4).bind fun b62 => (hm_PA_takeEither_r G S b62).bind (Sum.elim (fun q65 => (hg_chk q65.1 e61 6).bind fun b66 => (hm_DR_await G q65.1 b66 q65.2 ln).bind fun q69 => some (.inl (q69.1, q69.2))) (fun z => some (Sum.inr z)))) (fun z => (∃ S' r, z = .inl (S', r) ∧ stO G t0' H0 K1 K2 n f (100 * (2 * (d + 1)) + (27 - (M.1 11).toInt).toNat) A C B Q P ND M u w p0 S' r q) ∨ ∃ X : hg_X, z = .inr X ∧ thr t0' H0 K1 K2 n (A 0) (A 1) X q.1) := by
  have hq : (mm_asked_r (md_i M 29 2)).bind (fun q13 => (mm_await q13.1 ln q13.2).bind fun q14 => some (q14.1, q14.2)) = some q := hq
  obtain ⟨q1', e1, hq⟩ := iv_bind hq
  obtain ⟨q2', e2, hq⟩ := iv_bind hq
  have hq := (Option.some.inj hq).symm
  subst hq
  have hn : (n : Int) ≤ 32768 := by have := r.1.1; omega
  have pp := r.2.2.2.2.1.1
  have opx := r.2.2.2.2.2.2.2.1
  obtain ⟨rs, ⟨p00, p01⟩, ⟨hu, hw'⟩, h13, h20⟩ := rp
  have bn := r.2.2.2.2.2.2.2.2.2.1.2.1
  refine wq_gr (x := some (A 5)) h.pa rfl ?_
  refine wq_chk h.pa ?_
  refine wq_call (either_l hok hK h (RM_i r (k := 29) (v := 2) (by omega)) hb e1) ?_
  rintro z (⟨S1, x1, rfl, A1, C1, B1, Q1, j1, v1, w1, ev1, ea, ex, ext, eq, ep⟩ | ⟨X, rfl, g⟩)
  · have ep : (M.1 7).toInt < (q1'.1.1 7).toInt := ep
    have p1 := w1.2.2.2.2.1.1
    have bn1 := w1.2.2.2.2.2.2.2.2.2.1.2.1
    have a5 : A1 5 = A 5 := ev1.1 5 (by omega)
    have q12 : Q1 12 = Q 12 := ev1.2.2.2.1 12 (by omega) (by omega)
    have q9 : Q1 9 = Q 9 := ev1.2.2.2.1 9 (by omega) (by omega)
    have mm := fun k (d : ¬ (4 ≤ k ∧ k ≤ 8)) (d2 : ¬ k = 12) (d3 : ¬ k = 28) => ev1.2.2.2.2.1 k d d2 d3
    have s20 : q1'.1.1 20 = M.1 20 := mm 20 (by omega) (by omega) (by omega)
    have s13 : q1'.1.1 13 = M.1 13 := mm 13 (by omega) (by omega) (by omega)
    have s14 : q1'.1.1 14 = M.1 14 := mm 14 (by omega) (by omega) (by omega)
    obtain ⟨a2, b2⟩ := await_r e2
    have e := fun k (d : ¬ k = 12) (d2 : ¬ k = 27) => a2.1 k d d2
    have e7 : q2'.1.1 7 = q1'.1.1 7 := e 7 (by omega) (by omega)
    have e29 : q2'.1.1 29 = 2 := e 29 (by omega) (by omega)
    have e20 : q2'.1.1 20 = M.1 20 + 1 := (e 20 (by omega) (by omega)).trans (by show q1'.1.1 20 + 1 = _; rw [s20])
    have e13 : q2'.1.1 13 = M.1 13 := (e 13 (by omega) (by omega)).trans s13
    have e14 : q2'.1.1 14 = M.1 14 := (e 14 (by omega) (by omega)).trans s14
    have e201 : (M.1 20 + 1).toInt = (M.1 20).toInt + 1 := by
      have := rs.1.1.1
      rw [i_addS (by rw [il_1]; omega), il_1]
    have al := ((hA (eM B M) (M.1 20) (Q 9) (M.1 13) (M.1 14) p0 rs.1 h13 (by omega)).2.1 ln x1 (q1'.1.1 7).toInt (by omega))
    show dc_wp ((hg_chk S1 (some (A 5)) 6).bind _) _
    refine chkD v1 a5 ?_
    refine wq_call (await_t v1 (RC_of v1 w1 hK) a5 (by rw [q12]; omega) (sv := M.1 20 + 1)) ?_
    rintro ⟨S2, r2⟩ g
    refine ⟨_, rfl, Or.inl ⟨S2, r2, rfl, ?_⟩⟩
    have tok := tst_ok (A := A) (C := C) (P := P) (ND := ND) (P1 := P) (ND1 := ND) (evS_i (M := M) (k := 29) (v := 2) (by omega)) ev1 ex ext eq r.2.2.2.2.2.2.2.2.1.1.1 (evS_rf (P := P) (ND := ND))
    have fb : FB M Q B q2'.1 Q1 B1 (100 * (2 * (d + 1)) + (27 - (M.1 11).toInt).toNat) (Tawa ln x1 (M.1 20 + 1)) := FG_0 (FU_awa tok.1 (by omega)) (by rw [tok.2]; omega)
    have gk : GK (tsz (Tawa ln x1 (M.1 20 + 1)) : Int) (Q1 11).toInt M q2'.1 := gk_tr (gk_tr (gk_i (w := (Q1 11).toInt) (i := 29) (v := 2) (by omega)) (gk_T ev1) (Int.le_refl _) (by omega) rfl) (gk_await e2) (Int.le_refl _) (by omega) rfl
    refine mk_fin (N := q1'.1) (evS_tr (evS_i (k := 29) (v := 2) (by omega)) (evS_T ev1)) g (by rw [q12]) (evS_tr (evS_i (k := 20) (v := q1'.1.1 20 + 1) (by omega)) (evS_tr (evS_i (k := 29) (v := 2) (by omega)) (evS_R a2))) (RM_R (RM_i (RM_i w1 (k := 20) (v := q1'.1.1 20 + 1) (by omega)) (k := 29) (v := 2) (by omega)) a2) (by show _ ≤ (q2'.1.1 7).toInt; rw [e7]; omega) (fun z => ?_) (by show _ ≤ u + 6 * ((q2'.1.1 7).toInt - p0); rw [e7]; omega) (by show _ ≤ w + ((q2'.1.1 7).toInt - p0); rw [e7]; show w + ((q1'.1.1 7).toInt - (M.1 7).toInt) ≤ _; omega) hu hw' ?_ (by show (q2'.1.1 20).toInt ≤ _ + ((q2'.1.1 7).toInt - p0); rw [e20, e7]; omega) (by show p0 < (q2'.1.1 7).toInt; rw [e7]; omega) fb gk
    · have z1 : q1'.1.1 12 = 0 := (a2.2.2.2 z).1
      have b2 := b2 z
      rw [s20, ea z1] at b2
      exact b2
    · show BU (eM B M) (M.1 20) (Q 9) (M.1 13) (M.1 14) p0 _ (q2'.1.1 29) (q2'.1.1 20) (Q1 9) (q2'.1.1 13) (q2'.1.1 14) (q2'.1.1 7).toInt
      rw [e29, e20, e13, e14, e7, q9]
      exact al
  · exact ⟨_, rfl, Or.inr ⟨X, rfl, g.mono (fun φ hφ hs => mm_await_sk hφ _ _ _ hs _ e2)⟩⟩
end SMP
