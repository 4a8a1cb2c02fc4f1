/-! exit -/
theorem envP_len {bn rs : Nat → Int32} : ∀ k, (envP bn rs k).length = k
  | 0 => rfl
  | k + 1 => by
    show (envP bn rs k).length + 1 = k + 1
    rw [envP_len k]
theorem envP_get {bn rs : Nat → Int32} : ∀ (t k : Nat), k < t → (envP bn rs t)[t - 1 - k]? = some (bn k, rs k)
  | 0, k, h => by omega
  | t + 1, k, h => by
    by_cases e : k = t
    · subst e
      rw [show k + 1 - 1 - k = 0 by omega]
      rfl
    · rw [show t + 1 - 1 - k = (t - 1 - k) + 1 by omega]
      exact envP_get t k (by omega)
/-- the reference's search for a trap -/
theorem exs_w {M : md_S} {ln : Int32} (c0 : 0 ≤ (M.1 19).toInt) (c1 : (M.1 19).toInt ≤ 32) (hs : ∀ k, k < (M.1 19).toInt.toNat → 0 ≤ (M.2.1 24 k).toInt ∧ 0 ≤ (M.2.1 25 k).toInt ∧ (M.2.1 24 k).toInt + (M.2.1 25 k).toInt ≤ 32768) (fr0 : 0 ≤ (M.1 7).toInt) (frt : (M.1 7).toInt ≤ (M.1 4).toInt) (tn : (M.1 4).toInt ≤ 32768) : dc_wp (dc_it (mm_exit_s32 M ln) (M.1 19 - 1)) (fun z => (z.toInt = -1 ∧ ∀ k, k < (M.1 19).toInt.toNat → ¬ eqs (M.2.1 1) (M.2.1 24 k) (M.2.1 25 k) (M.1 7) (M.1 4 - M.1 7)) ∨ ∃ k : Nat, k < (M.1 19).toInt.toNat ∧ z.toInt = (k : Int) ∧ eqs (M.2.1 1) (M.2.1 24 k) (M.2.1 25 k) (M.1 7) (M.1 4 - M.1 7) ∧ ∀ k', k < k' → k' < (M.1 19).toInt.toNat → ¬ eqs (M.2.1 1) (M.2.1 24 k') (M.2.1 25 k') (M.1 7) (M.1 4 - M.1 7)) := by
  have s1 : (M.1 19 - 1).toInt = (M.1 19).toInt - 1 := by rw [i_subS (by rw [il_1]; omega), il_1]
  have d0 : (M.1 4 - M.1 7).toInt = (M.1 4).toInt - (M.1 7).toInt := i_subS (by omega)
  refine dc_itK (fun k (x : Int32) => ∃ m : Nat, m ≤ (M.1 19).toInt.toNat ∧ x.toInt = (m : Int) - 1 ∧ k = m ∧ ∀ k', m ≤ k' → k' < (M.1 19).toInt.toNat → ¬ eqs (M.2.1 1) (M.2.1 24 k') (M.2.1 25 k') (M.1 7) (M.1 4 - M.1 7)) ?_ (M.1 19).toInt.toNat (M.1 19 - 1) ⟨(M.1 19).toInt.toNat, Nat.le_refl _, by rw [s1]; omega, rfl, fun k' h1 h2 => by omega⟩
  rintro k x ⟨m, m1, m2, rfl, m3⟩
  show dc_wp (mm_exit_b32 M ln x) _
  delta mm_exit_b32
  refine wq_if (fun d1 => ?_) (fun d1 => ?_)
  · have d2 := i_lt.mp d1
    rw [il_0] at d2
    exact ⟨_, rfl, Or.inl ⟨by omega, fun j hj => m3 j (by omega) hj⟩⟩
  · have d2 : ¬ x.toInt < (0 : Int32).toInt := fun z => d1 (i_lt.mpr z)
    rw [il_0] at d2
    obtain ⟨t, ht⟩ : ∃ t, k = t + 1 := ⟨k - 1, by omega⟩
    subst ht
    have xt : x.toInt = (t : Int) := by omega
    have xn : x.toInt.toNat = t := by omega
    have xlo : -2147483648 < x.toInt := by omega
    have tl : t ≤ (M.1 19).toInt.toNat := by omega
    obtain ⟨g3, g4, g5⟩ := hs t (by omega)
    refine wq_ix (by omega) (by omega) ?_
    refine wq_ix (by omega) (by omega) ?_
    rw [xn]
    refine wq_call (same_w g3 g4 g5 fr0 (fun e => by rw [e, d0]; omega)) ?_
    rintro q (⟨e1, rfl⟩ | ⟨e1, rfl⟩)
    · exact ⟨_, rfl, Or.inr ⟨t, by omega, xt, e1, fun k' h1 h2 => m3 k' (by omega) h2⟩⟩
    · refine ⟨_, rfl, t, Nat.lt_succ_self t, t, tl, (i_dec xlo).trans (by rw [xt]), rfl, fun k' h1 h2 => ?_⟩
      by_cases c : k' = t
      · rw [c]; exact e1
      · exact m3 k' (Nat.lt_of_le_of_ne h1 (fun z => c z.symm)) h2
section EXT
variable {G : hg_E} {sz t0' : Nat} {H0 : Nat → Option va_E} {K1 K2 n : Nat} {f : Nat → Int32} {S : hg_S} {A C : Nat → Nat} {B : Nat → Nat → Int32} {Q : Nat → Int32} {j : Nat} {el : Nat → Option Nat} {P : Nat → Nat} {ND : Nat → ndT} {M : md_S} {b u w p0 : Int}
set_option maxHeartbeats 1000000 in
theorem exit_c {d : Nat} (hA : BUalg) (hok : lw_ok G sz) (hK : 40 * n + 70 ≤ K1 ∧ 200 * n + 400 ≤ K2) (h : PV G t0' H0 K1 K2 n f S A C B Q j el P ND) (r : RM M C B n f Q j b u w) (hb : b ≤ (M.1 7).toInt) (rp : RP M B Q u w p0 1) {ln : Int32} {q : md_S × Int32} (hq : mm_simple_JI M (kw.getD 7 0) ln = some q) : dc_wp ((hg_gr S (some (A 0)) 4 3).bind fun e50 => (hg_gr S (some (A 0)) 4 2).bind fun e51 => (hg_chk S (some (A 0)) 4).bind fun b52 => (hm_PA_takeUse G S b52 e51 (0 : Int32)).bind (Sum.elim (fun q55 => (hg_chk q55.1 e50 6).bind fun b56 => (hm_DR_exit G q55.1 b56 q55.2 ln).bind fun q59 => some (.inl (q59.1, q59.2))) (fun z => some (Sum.inr z)))) (fun z => (∃ S' r, z = .inl (S', r) ∧ stO G t0' H0 K1 K2 n f (100 * (2 * (d + 1)) + (27 - (M.1 11).toInt).toNat) A C B Q P ND M u w p0 S' r q) ∨ ∃ X : hg_X, z = .inr X ∧ thr t0' H0 K1 K2 n (A 0) (A 1) X q.1) := by
  have hq0 : (mm_exit (md_i M 29 2) ln).bind (fun q7 => some (q7.1, q7.2)) = some q := hq
  clear hq
  obtain ⟨q1', hq, hz⟩ := iv_bind hq0
  clear hq0
  have hz := (Option.some.inj hz).symm
  subst hz
  have rp0 := rp
  obtain ⟨rs, ⟨p00, p01⟩, ⟨hu, hw'⟩, h13, h20⟩ := rp
  have r2 := RM_i r (k := 29) (v := 2) (by omega)
  have hn : (n : Int) ≤ 32768 := by have := r.1.1; omega
  obtain ⟨r1, ⟨x2, x3, x4⟩, ⟨q3, q4', -⟩, ⟨l1, l2⟩, ⟨⟨p1, p2, p3⟩, p4, p5⟩, -, ⟨q10, ⟨t1, t2, t3, t4⟩, t5, t6⟩, ⟨op0, op1, op2⟩, -, ⟨⟨b1, b2, b3'⟩, bn⟩, -, ⟨cc1, cc2⟩, -⟩ := r
  have ed : (M.1 4 - M.1 7).toInt = (M.1 4).toInt - (M.1 7).toInt := i_subS (by omega)
  delta mm_exit at hq
  rw [isName_e, kstep] at hq
  refine wq_gr (x := some (A 5)) h.pa rfl ?_
  refine wq_gr (x := some (A 4)) h.pa rfl ?_
  refine wq_chk h.pa ?_
  delta hm_PA_takeUse
  refine wq_call (P := fun z => (∃ S' k, z = .inl (S', B 5 k) ∧ k < (M.1 19).toInt.toNat ∧ ∃ N, mm_advance (md_i M 29 2) = some N ∧ okA G t0' H0 K1 K2 n f S A C B Q el P ND (md_i M 29 2) u w S' N ∧ mm_leaf (md_i N 29 ((4 : Int32) <<< (Int32.ofNat ((M.1 19).toInt.toNat - 1 - k) &&& 31))) 9 (M.2.1 26 k) ln = some q1') ∨ ∃ X : hg_X, z = .inr X ∧ thr t0' H0 K1 K2 n (A 0) (A 1) X q1'.1) ?_ ?_
  · refine wq_gr (x := some (A 1)) h.pa rfl ?_
    refine wq_gr (x := some (A 1)) h.pa rfl ?_
    refine wq_gr (x := some (G.2.1 j)) h.lx.1 rfl ?_
    by_cases hj : j = 31
    · rw [if_pos (show (md_i M 29 2).1 6 = 1 ∧ ¬ (md_i M 29 2).2.2.1 ∈ kw from (tk_name x3).mpr hj)] at hq
      delta mm_exit_L16 at hq
      have f0 : (md_i M 29 2).1 10 = 0 := l2
      rw [f0, if_neg lt00] at hq
      have hq : mm_exit_L32 (md_i M 29 2) ln (M.1 19 - 1) = some q1' := hq
      delta mm_exit_L32 at hq
      obtain ⟨z, ez, hq⟩ := iv_bind hq
      obtain ⟨z', ez', hz⟩ := exs_w (M := md_i M 29 2) (ln := ln) t1 (by show (M.1 19).toInt ≤ 32; omega) (fun k hk => by
        obtain ⟨⟨y1, y2⟩, y3, y4⟩ := t6 k hk
        have y5 := t5 (B 5 k).toInt.toNat (by omega)
        show 0 ≤ (M.2.1 24 k).toInt ∧ 0 ≤ (M.2.1 25 k).toInt ∧ (M.2.1 24 k).toInt + (M.2.1 25 k).toInt ≤ 32768
        rw [← y3, ← y4]
        exact ⟨y5.1, y5.2.1, by omega⟩) p1 p2 (by show (M.1 4).toInt ≤ 32768; omega)
      have eqz : z' = z := Option.some.inj (ez'.symm.trans ez)
      subst eqz
      obtain ⟨fq, efq, hf⟩ := find_w h.tn h.lx (by rw [q10]; exact t1) (by rw [q10]; omega) (by omega) (fun k hk => by
        rw [q10] at hk
        obtain ⟨⟨y1, y2⟩, y3, y4⟩ := t6 k hk
        have y5 := t5 (B 5 k).toInt.toNat (by omega)
        exact ⟨y1, by omega, y5.1, y5.2.1, y5.2.2⟩) (by rw [q3]; exact p1) (by rw [q3, q4']; exact p2) (by rw [q4']; exact p3) (by omega)
      rw [q10, q3, q4'] at hf
      have tr : ∀ k, k < (M.1 19).toInt.toNat → (eqs f (B 3 (B 5 k).toInt.toNat) (B 4 (B 5 k).toInt.toNat) (M.1 7) (M.1 4 - M.1 7) ↔ eqs (M.2.1 1) (M.2.1 24 k) (M.2.1 25 k) (M.1 7) (M.1 4 - M.1 7)) := by
        intro k hk
        obtain ⟨⟨y1, y2⟩, y3, y4⟩ := t6 k hk
        have y5 := t5 (B 5 k).toInt.toNat (by omega)
        rw [← y3, ← y4]
        exact eqs_congr r1.2.1 y5.1 y5.2.1 y5.2.2 p1 (by omega)
      have hz : (z'.toInt = -1 ∧ ∀ k, k < (M.1 19).toInt.toNat → ¬ eqs (M.2.1 1) (M.2.1 24 k) (M.2.1 25 k) (M.1 7) (M.1 4 - M.1 7)) ∨ ∃ k : Nat, k < (M.1 19).toInt.toNat ∧ z'.toInt = (k : Int) ∧ eqs (M.2.1 1) (M.2.1 24 k) (M.2.1 25 k) (M.1 7) (M.1 4 - M.1 7) ∧ ∀ k', k < k' → k' < (M.1 19).toInt.toNat → ¬ eqs (M.2.1 1) (M.2.1 24 k') (M.2.1 25 k') (M.1 7) (M.1 4 - M.1 7) := hz
      rw [if_pos ((tok_eq hok x2 (by omega)).mpr hj)]
      delta hm_PA_takeUse_L22
      refine wq_chk h.lx.1 ?_
      rw [req_ok (by decide)]
      show dc_wp ((hg_gr S (some (A 0)) 4 0).bind _) _
      refine wq_gr (x := some (A 1)) h.pa rfl ?_
      refine wq_chk h.tn.1 ?_
      rw [efq, Option.bind_some]
      delta mm_exit_L74 at hq
      rcases hz with ⟨z1, z2⟩ | ⟨k, k1, k2, k3, k4⟩
      · have fm : fq = -1 := by
          rcases hf with ⟨y, -⟩ | ⟨k, -, k1, -, k3, -⟩
          · exact y
          · exact absurd ((tr k k1).mp k3) (z2 k k1)
        rw [if_pos (i_lt.mpr (by rw [z1, il_0]; decide))] at hq
        obtain ⟨Mf, ef, hq⟩ := iv_bind hq
        have ff : Mf.1 10 = 2 + 8 * M.1 8 := fail_f f0 ef
        rw [if_pos (by rw [fm]; decide)]
        refine wq_gr (x := some (A 1)) h.pa rfl ?_
        refine wq_chk h.lx.1 ?_
        refine wq_call (rf_l h r2 hK (k := 2) (by decide) (by omega) (M' := q1'.1) (Or.inl (mm_exit_L87_fk (ph_ne (by decide) (by show 1 ≤ (M.1 8).toInt ∧ (M.1 8).toInt ≤ 40000; omega)) Mf ln _ ff q1' hq))) ?_
        rintro zz ⟨X, rfl, g⟩
        exact ⟨_, rfl, Or.inr ⟨X, rfl, g⟩⟩
      · have fm : fq = B 5 k := by
          rcases hf with ⟨-, y⟩ | ⟨k0, -, y1, y2, y3, y4⟩
          · exact absurd ((tr k k1).mpr k3) (y k (Nat.zero_le _) k1)
          · have : k0 = k := by
              rcases Nat.lt_trichotomy k0 k with c | c | c
              · exact absurd ((tr k k1).mpr k3) (y4 k c k1)
              · exact c
              · exact absurd ((tr k0 y1).mp y3) (k4 k0 c y1)
            subst this
            exact y2
        have bk := (t6 k k1).1
        rw [if_neg (fun y => by have := i_lt.mp y; rw [il_0] at this; omega)] at hq
        delta mm_exit_L87 at hq
        rw [f0, if_neg lt00] at hq
        obtain ⟨N, eN, hq⟩ := iv_bind hq
        obtain ⟨Mx, ex, ra0⟩ := radv_w (M := md_i M 29 2) (by show 0 ≤ (M.1 4).toInt; omega) (by have := r1.1; show (M.1 4).toInt ≤ (M.1 2).toInt; omega) (by have := r1.1; show (M.1 2).toInt ≤ 32768; omega)
        have eMx : Mx = N := Option.some.inj (ex.symm.trans eN)
        subst eMx
        have n19 : Mx.1 19 = M.1 19 := ra0.1 19 (by omega) (by omega) (by omega) (by omega) (by omega)
        have hq : (dc_ix z' 32).bind (fun j3 => (mm_leaf (md_i Mx 29 ((4 : Int32) <<< ((((Mx.1 19) - 1) - z') &&& (31 : Int32)))) 9 (Mx.2.1 26 j3) ln).bind fun q4 => some (q4.1, q4.2)) = some q1' := hq
        obtain ⟨-, -, hq⟩ := iv_ix hq
        obtain ⟨q5, e5, hq⟩ := iv_bind hq
        have hq := (Option.some.inj hq).symm
        subst hq
        have zk : z'.toInt.toNat = k := by omega
        have cz : Mx.1 19 - 1 - z' = Int32.ofNat ((M.1 19).toInt.toNat - 1 - k) := by
          rw [n19]
          have s1 : (M.1 19 - 1).toInt = (M.1 19).toInt - 1 := by rw [i_subS (by rw [il_1]; omega), il_1]
          refine i_eq.mpr ?_
          rw [i_subS (by rw [s1]; omega), s1, Int32.toInt_ofNat_of_lt (by omega), k2]
          omega
        rw [zk, cz, show Mx.2.1 26 k = M.2.1 26 k by rw [ra0.2.1]; rfl] at e5
        rw [fm, if_neg (fun y => by have := i_lt.mp y; rw [il_0] at this; omega)]
        delta hm_PA_takeUse_L47
        refine wq_gr (x := some (A 1)) h.pa rfl ?_
        refine wq_chk h.lx.1 ?_
        refine wq_call (adv_l hok h r2 hK eN) ?_
        rintro zz (⟨S2, rfl, g⟩ | ⟨X, rfl, g⟩)
        · exact ⟨_, rfl, Or.inl ⟨S2, k, rfl, k1, Mx, eN, g, e5⟩⟩
        · exact ⟨_, rfl, Or.inr ⟨X, rfl, g.mono (fun φ hφ hs => mm_leaf_sk hφ _ _ _ _ (stk_i (by decide) (by decide) (by decide) hs) _ e5)⟩⟩
    · rw [if_neg (show ¬ ((md_i M 29 2).1 6 = 1 ∧ ¬ (md_i M 29 2).2.2.1 ∈ kw) from fun z => hj ((tk_name x3).mp z))] at hq
      obtain ⟨Mf, ef, hq⟩ := iv_bind hq
      have ff : Mf.1 10 = 1 + 8 * M.1 8 := fail_f (M := md_i M 29 2) l2 ef
      rw [if_neg (fun z => hj ((tok_eq hok x2 (by omega)).mp z))]
      delta hm_PA_takeUse_L22
      refine wq_chk h.lx.1 ?_
      refine wq_call (req_no h r2 hK (M' := q1'.1) (Or.inl (mm_exit_L16_fk (ph_ne (by decide) (by show 1 ≤ (M.1 8).toInt ∧ (M.1 8).toInt ≤ 40000; omega)) Mf ln ff q1' hq))) ?_
      rintro z ⟨X, rfl, g⟩
      exact ⟨_, rfl, Or.inr ⟨X, rfl, g⟩⟩
  · rintro z (⟨S1, k, rfl, k1, N, eN, ⟨j1, v1, w1, ra1, of1'⟩, e5⟩ | ⟨X, rfl, g⟩)
    · have c8 : (M.1 4).toInt ≤ (N.1 7).toInt := ra1.2.2.2.2.1.1
      have pN := w1.2.2.2.2.1.1
      obtain ⟨a1, b1'⟩ := leaf_r (k := 9) (u := -1) (m := B 5 k) (sv := M.2.1 26 k) (l := ln) rfl e5
      have Q12 : q4 Q (N.1 7) (N.1 4) (N.1 8) 0 12 = Q 12 := rfl
      have al := ((hA (eM B M) (M.1 20) (Q 9) (M.1 13) (M.1 14) p0 rs.1 h13 (by omega)).2.2.1 ln (B 5 k) (M.2.1 26 k) ((M.1 19).toInt.toNat - 1 - k) (N.1 7).toInt (by omega) (envP_get _ k k1))
      show dc_wp ((hg_chk S1 (some (A 5)) 6).bind _) _
      refine chkD v1 rfl ?_
      refine wq_call (exit_t v1 (RC_of v1 w1 hK) rfl (by rw [Q12]; omega) (sv := M.2.1 26 k)) ?_
      rintro ⟨S2, r2'⟩ g
      refine ⟨_, rfl, Or.inl ⟨S2, r2', rfl, ?_⟩⟩
      have m := fun k (d : ¬ (4 ≤ k ∧ k ≤ 8)) => ra1.1 k (by omega) (by omega) (by omega) (by omega) (by omega)
      have ee := fun k (d : ¬ k = 12) (d2 : ¬ k = 27) => a1.1 k d d2
      have e7 : q1'.1.1 7 = N.1 7 := ee 7 (by omega) (by omega)
      have e29 : q1'.1.1 29 = (4 : Int32) <<< (Int32.ofNat ((M.1 19).toInt.toNat - 1 - k) &&& 31) := (ee 29 (by omega) (by omega)).trans md_ii
      have e20 : q1'.1.1 20 = M.1 20 := (ee 20 (by omega) (by omega)).trans (m 20 (by omega))
      have e13 : q1'.1.1 13 = M.1 13 := (ee 13 (by omega) (by omega)).trans (m 13 (by omega))
      have e14 : q1'.1.1 14 = M.1 14 := (ee 14 (by omega) (by omega)).trans (m 14 (by omega))
      refine mk_fin (N := N) (evS_tr (evS_i (k := 29) (v := 2) (by omega)) (evS_adv ra1 p2)) g rfl (evS_tr (evS_i (k := 29) (v := (4 : Int32) <<< (Int32.ofNat ((M.1 19).toInt.toNat - 1 - k) &&& 31)) (by omega)) (evS_R a1)) (RM_R (RM_i w1 (k := 29) (v := (4 : Int32) <<< (Int32.ofNat ((M.1 19).toInt.toNat - 1 - k) &&& 31)) (by omega)) a1) ?_ b1' ?_ ?_ hu hw' ?_ ?_ ?_ (FB_0 (FU_exi ⟨rfl, rfl⟩) rfl) (gk_tr (gk_tr (gk_tr (gk_i (w := (Q 11).toInt) (i := 29) (v := 2) (by omega)) (gk_adv (w := (Q 11).toInt) ra1) (Int.le_refl _) (by omega) rfl) (gk_i (w := (Q 11).toInt) (i := 29) (v := (4 : Int32) <<< (Int32.ofNat ((M.1 19).toInt.toNat - 1 - k) &&& 31)) (by omega)) (Int.le_refl _) (by omega) rfl) (gk_leaf e5) (Int.le_refl _) (by omega) rfl)
      · show _ ≤ (q1'.1.1 7).toInt
        rw [e7]; omega
      · show _ ≤ u + 6 * ((q1'.1.1 7).toInt - p0)
        rw [e7]; omega
      · show _ ≤ w + ((q1'.1.1 7).toInt - p0)
        rw [e7]; omega
      · show BU (eM B M) (M.1 20) (Q 9) (M.1 13) (M.1 14) p0 _ (q1'.1.1 29) (q1'.1.1 20) (Q 9) (q1'.1.1 13) (q1'.1.1 14) (q1'.1.1 7).toInt
        rw [e29, e20, e13, e14, e7]
        exact al
      · show (q1'.1.1 20).toInt ≤ (M.1 20).toInt + ((q1'.1.1 7).toInt - p0)
        rw [e20, e7]; omega
      · show p0 < (q1'.1.1 7).toInt
        rw [e7]; omega
    · exact ⟨_, rfl, Or.inr ⟨X, rfl, g⟩⟩
end EXT
