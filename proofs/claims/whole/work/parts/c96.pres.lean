/-! present -/
theorem pr_ref {N : md_S} {TT : mm_T2} {s1 s2 ln y : Int32} {T1 T2 : tT} {q : md_S × Int32} (h1 : N.1 12 = 0 → (s1 = -1 ∧ T1 = Tnot ln) ∨ (¬ s1 = -1 ∧ repR N T1 s1)) (h2 : N.1 12 = 0 → (s2 = -1 ∧ T2 = Tnot ln) ∨ (¬ s2 = -1 ∧ repR N T2 s2)) (hq : (if s1 = -1 then ((mm_leaf N 0 (-1) ln).bind fun q5 => mm_present_I_L138 TT q5.1 ln y s2 q5.2) else (mm_present_I_L138 TT N ln y s2 s1)) = some q) : evR N q.1 ∧ (q.1.1 12 = 0 → repR q.1 (Tpre ln y T1 T2) q.2) := by
  have h157 : ∀ (Z : md_S) (a b : Int32), evR N Z → (Z.1 12 = 0 → repR Z T1 a) → (Z.1 12 = 0 → repR Z T2 b) → mm_present_I_L157 TT Z ln y a b = some q → evR N q.1 ∧ (q.1.1 12 = 0 → repR q.1 (Tpre ln y T1 T2) q.2) := by
    intro Z a b ev ha hb hq
    delta mm_present_I_L157 at hq
    obtain ⟨q1, e1, hq⟩ := iv_bind hq
    have hq := (Option.some.inj hq).symm
    subst hq
    obtain ⟨a1, b1⟩ := nd2_r (u := -1) (m := -1) (sv := -1) ha hb rfl e1
    exact ⟨evR_tr ev a1, b1⟩
  have h138 : ∀ (Z : md_S) (a : Int32), evR N Z → (Z.1 12 = 0 → repR Z T1 a) → mm_present_I_L138 TT Z ln y s2 a = some q → evR N q.1 ∧ (q.1.1 12 = 0 → repR q.1 (Tpre ln y T1 T2) q.2) := by
    intro Z a ev ha hq
    delta mm_present_I_L138 at hq
    rcases iv_if hq with ⟨c, hq⟩ | ⟨c, hq⟩
    · obtain ⟨q1, e1, hq⟩ := iv_bind hq
      obtain ⟨a1, b1⟩ := leaf_r (k := 0) (u := -1) (m := -1) (sv := -1) (l := ln) rfl e1
      refine h157 _ _ _ (evR_tr ev a1) (fun z => repR_ev ha a1 z) (fun z => ?_) hq
      rcases h2 ((evR_tr ev a1).2.2.2 z).1 with ⟨-, y⟩ | ⟨y, -⟩
      · rw [y]; exact b1 z
      · exact absurd c y
    · refine h157 _ _ _ ev ha (fun z => ?_) hq
      rcases h2 (ev.2.2.2 z).1 with ⟨y, -⟩ | ⟨-, y⟩
      · exact absurd y c
      · obtain ⟨x1, x2, x3⟩ := ev.2.2.2 z
        exact repR_ext x2 x3 _ _ y
  rcases iv_if hq with ⟨c, hq⟩ | ⟨c, hq⟩
  · obtain ⟨q1, e1, hq⟩ := iv_bind hq
    obtain ⟨a1, b1⟩ := leaf_r (k := 0) (u := -1) (m := -1) (sv := -1) (l := ln) rfl e1
    refine h138 _ _ a1 (fun z => ?_) hq
    rcases h1 (a1.2.2.2 z).1 with ⟨-, y⟩ | ⟨y, -⟩
    · rw [y]; exact b1 z
    · exact absurd c y
  · refine h138 _ _ evR_rf (fun z => ?_) hq
    rcases h1 z with ⟨y, -⟩ | ⟨-, y⟩
    · exact absurd y c
    · exact y
theorem gk_pr {N : md_S} {TT : mm_T2} {s1 s2 ln y : Int32} {w : Int} {q : md_S × Int32} (hq : (if s1 = -1 then ((mm_leaf N 0 (-1) ln).bind fun q5 => mm_present_I_L138 TT q5.1 ln y s2 q5.2) else (mm_present_I_L138 TT N ln y s2 s1)) = some q) : GK ((if s1 = -1 then 1 else 0) + ((if s2 = -1 then 1 else 0) + 1)) w N q.1 := by
  have p2 : 0 ≤ ((if s2 = -1 then 1 else 0) + 1 : Int) := by
    by_cases c : s2 = -1
    · rw [if_pos c]; omega
    · rw [if_neg c]; omega
  have h138 : ∀ (Z : md_S) (a : Int32), mm_present_I_L138 TT Z ln y s2 a = some q → GK ((if s2 = -1 then 1 else 0) + 1) w Z q.1 := by
    intro Z a hq
    delta mm_present_I_L138 at hq
    rcases iv_if hq with ⟨c, hq⟩ | ⟨c, hq⟩
    · obtain ⟨q1, e1, hq⟩ := iv_bind hq
      delta mm_present_I_L157 at hq
      obtain ⟨q2, e2, hq⟩ := iv_bind hq
      have hq := (Option.some.inj hq).symm
      subst hq
      rw [if_pos c]
      exact gk_tr (gk_leaf (w := w) e1) (gk_node e2) (Int.le_refl _) (by omega) (by omega)
    · delta mm_present_I_L157 at hq
      obtain ⟨q2, e2, hq⟩ := iv_bind hq
      have hq := (Option.some.inj hq).symm
      subst hq
      rw [if_neg c]
      exact gk_node e2
  rcases iv_if hq with ⟨c, hq⟩ | ⟨c, hq⟩
  · obtain ⟨q1, e1, hq⟩ := iv_bind hq
    rw [if_pos c]
    exact gk_tr (gk_leaf (w := w) e1) (h138 _ _ hq) (Int.le_refl _) p2 rfl
  · rw [if_neg c, Int.zero_add]
    exact h138 _ _ hq
section PR2
variable {G : hg_E} {sz t0' : Nat} {H0 : Nat → Option va_E} {K1 K2 n : Nat} {f : Nat → Int32} {S : hg_S} {A C : Nat → Nat} {B : Nat → Nat → Int32} {Q : Nat → Int32} {j : Nat} {el : Nat → Option Nat} {P : Nat → Nat} {ND : Nat → ndT} {M : md_S} {b u w p0 : Int}
set_option maxHeartbeats 2000000 in
theorem present_c (hA : BUalg) (hok : lw_ok G sz) (hK : 40 * n + 70 ≤ K1 ∧ 200 * n + 400 ≤ K2) {d e : Nat} (ih : StP G t0' H0 K1 K2 n f d 3 ((hm_P2 d).1) ((mm_P2 e).1)) (h : PV G t0' H0 K1 K2 n f S A C B Q j el P ND) (r : RM M C B n f Q j b u w) (hb : b ≤ (M.1 7).toInt) (rp : RP M B Q u w p0 4) (hd : 5 * (24 - (M.1 11).toInt) + 3 ≤ (d : Int)) {ln : Int32} {q : md_S × Int32} (hq : mm_present_I (mm_P2 e) M ln = some q) : dc_wp (ceX G (A 0) (hm_PA_takePresent (hm_P2 d) G S (A 0) ln)) (fun z => (∃ S' r, z = .inl (S', r) ∧ stO G t0' H0 K1 K2 n f (100 * (2 * (d + 1)) + (27 - (M.1 11).toInt).toNat) A C B Q P ND M u w p0 S' r q) ∨ ∃ X : hg_X, z = .inr X ∧ thr t0' H0 K1 K2 n (A 0) (A 1) X q.1) := by
  obtain ⟨rs, ⟨p00, p01⟩, ⟨hu, hw'⟩, h13, h20⟩ := rp
  have hn : (n : Int) ≤ 32768 := by have := r.1.1; omega
  have pp := r.2.2.2.2.1.1
  have opx := r.2.2.2.2.2.2.2.1
  have w9 : (1952998766 : Int64) = kw.getD 9 0 := by decide
  have w10 : (1701606245 : Int64) = kw.getD 10 0 := by decide
  delta mm_present_I at hq
  obtain ⟨q14, e14, hq⟩ := iv_bind hq
  have rest : ∀ φ, ¬ φ = 0 → stk φ q14.1 → stk φ q.1 := by
    intro φ hφ hs
    obtain ⟨x1, -, hq⟩ := iv_bind hq
    rcases iv_if hq with ⟨-, hq⟩ | ⟨-, hq⟩
    · obtain ⟨x2, -, hq⟩ := iv_bind hq
      rcases iv_if hq with ⟨-, hq⟩ | ⟨-, hq⟩
      · obtain ⟨Mf, ef, hq⟩ := iv_bind hq
        exact mm_present_I_L34_sk hφ (mm_P2 e) (mm_P2_sk hφ e) Mf ln q14.2 (mm_fail_sk hφ _ _ _ rfl rfl hs _ ef) _ hq
      · exact mm_present_I_L34_sk hφ (mm_P2 e) (mm_P2_sk hφ e) _ ln q14.2 hs _ hq
    · exact mm_present_I_L34_sk hφ (mm_P2 e) (mm_P2_sk hφ e) _ ln q14.2 hs _ hq
  refine ce_l ?_
  delta hm_PA_takePresent
  refine wq_chk h.pa ?_
  refine wq_call (either_l hok hK h r hb e14) ?_
  rintro z (⟨S1, x, rfl, A1, C1, B1, Q1, j1, v1, w1, ev1, ea, ex, ext, eq, ep⟩ | ⟨X, rfl, g⟩)
  · have a0 : A1 0 = A 0 := ev1.1 0 (by omega)
    have a1 : A1 1 = A 1 := ev1.1 1 (by omega)
    have q12 : Q1 12 = Q 12 := ev1.2.2.2.1 12 (by omega) (by omega)
    have q9 : Q1 9 = Q 9 := ev1.2.2.2.1 9 (by omega) (by omega)
    have mm := fun k (d : ¬ (4 ≤ k ∧ k ≤ 8)) (d2 : ¬ k = 12) (d3 : ¬ k = 28) => ev1.2.2.2.2.1 k d d2 d3
    have evS1 := evS_T (P := P) (ND := ND) ev1
    have p1 := w1.2.2.2.2.1.1
    have pl1 := w1.2.2.2.2.1.2
    have bn1 := w1.2.2.2.2.2.2.2.2.2.1.2
    have x3 := w1.2.1.2.1
    have x5 := w1.2.2.2.1.2
    have rs1 : RS q14.1 B1 Q1 := by
      obtain ⟨z1, z2, z3, z4, z5⟩ := rs
      refine ⟨?_, ?_, ?_, ?_, ?_⟩
      · rw [eM_ev evS1, mm 20 (by omega) (by omega) (by omega), q9]; exact z1
      · rw [mm 13 (by omega) (by omega) (by omega)]
        exact z2.imp (fun y => by omega) id
      · rw [mm 20 (by omega) (by omega) (by omega)]; omega
      · rw [mm 16 (by omega) (by omega) (by omega), ev1.2.2.2.1 0 (by omega) (by omega)]; exact z4
      · rw [mm 16 (by omega) (by omega) (by omega)]; exact z5
    have dcell : hg_at S1.1 (A 0) = some (.inr (4, [.ref (A1 1), .ref (A1 3), .ref (A1 4), .ref (A1 5), .int (Q1 0), .int (Q1 1), .int (Q1 2)])) := by rw [← a0]; exact v1.pa
    refine wq_gr (x := some (A1 1)) dcell rfl ?_
    refine wq_gr (x := some (A1 1)) dcell rfl ?_
    refine wq_gr (x := some (G.2.1 j1)) v1.lx.1 rfl ?_
    rw [isWord_e, isWord_e, w9, w10] at hq
    -- behind the right token
    have go : mm_present_I_L34 (mm_P2 e) q14.1 ln q14.2 = some q → dc_wp (hm_PA_takePresent_L40 (hm_P2 d) G S1 (A 0) ln x 1 (some (A1 1))) (fun z => (∃ S2 r', z = .inl (S2, r') ∧ dc_wp ((hg_chk S2 (some (A 0)) 4).bind fun b => (hm_PA_closedBy G S2 b (some (G.2.1 11)) r').bind (Sum.elim (fun q8 => some (.inl (q8.1, q8.2))) (fun z => some (Sum.inr z)))) (fun z => (∃ S' r, z = .inl (S', r) ∧ stO G t0' H0 K1 K2 n f (100 * (2 * (d + 1)) + (27 - (M.1 11).toInt).toNat) A C B Q P ND M u w p0 S' r q) ∨ ∃ X : hg_X, z = .inr X ∧ thr t0' H0 K1 K2 n (A 0) (A 1) X q.1)) ∨ ∃ Y : hg_X, z = .inr Y ∧ ((∃ S' r, (.inr Y : (hg_S × Option Nat) ⊕ hg_X) = .inl (S', r) ∧ stO G t0' H0 K1 K2 n f (100 * (2 * (d + 1)) + (27 - (M.1 11).toInt).toNat) A C B Q P ND M u w p0 S' r q) ∨ ∃ X : hg_X, (.inr Y : (hg_S × Option Nat) ⊕ hg_X) = .inr X ∧ thr t0' H0 K1 K2 n (A 0) (A 1) X q.1)) := by
      intro hq
      delta mm_present_I_L34 at hq
      obtain ⟨q10, e10, hq⟩ := iv_bind hq
      have hN : ∃ N s c, ((q10.2 = 0 ∧ N = q10.1 ∧ s = -1 ∧ c = 1) ∨ (¬ q10.2 = 0 ∧ ∃ q12, (mm_P2 e).1 q10.1 = some q12 ∧ N = q12.1 ∧ s = q12.2 ∧ c = q12.1.1 29)) ∧ mm_present_I_L75 (mm_P2 e) N ln q14.2 s (-1) c = some q := by
        rcases iv_if hq with ⟨c, hq⟩ | ⟨c, hq⟩
        · exact ⟨q10.1, -1, 1, Or.inl ⟨c, rfl, rfl, rfl⟩, hq⟩
        · obtain ⟨q12, e12, hq⟩ := iv_bind hq
          refine ⟨q12.1, q12.2, q12.1.1 29, Or.inr ⟨c, q12, e12, rfl, rfl, rfl⟩, ?_⟩
          have hq : mm_present_I_L75 (mm_P2 e) q12.1 ln q14.2 q12.2 (-1) (0 ||| q12.1.1 29) = some q := hq
          rw [Int32.zero_or] at hq
          exact hq
      obtain ⟨N, s, c, hN, hq⟩ := hN
      delta hm_PA_takePresent_L40
      refine wq_chk v1.lx.1 ?_
      rw [req_ok (by decide)]
      refine br_l hA hok hK ih v1 w1 (Int.le_refl _) rs1 (by omega) (by rw [mm 11 (by omega) (by omega) (by omega)]; exact hd) (i := 9) (Or.inl rfl) w9 (ln := ln) e10 hN a0 (E := fun S' r' => hm_PA_takePresent_L70 (hm_P2 d) G S' (A 0) ln x r') ?_ ?_
      · rintro S2 r2 ⟨A2, C2, B2, Q2, j2, el2, P2, ND2, T1, i1, I1, v2, w2, ev2, ⟨er2, ei2, hT1, cv1⟩, ⟨hR1, fb1, gb1⟩, bu1, hs1, rs2⟩
        have a02 : A2 0 = A 0 := (ev2.1 0 (by omega)).trans a0
        have a12 : A2 1 = A 1 := (ev2.1 1 (by omega)).trans a1
        have p2 := w2.2.2.2.2.1.1
        have bn2 := w2.2.2.2.2.2.2.2.2.2.1.2
        have f2 := ev2.2.2.2.2.2.2.2.1
        delta mm_present_I_L75 at hq
        obtain ⟨q6, e6, hq⟩ := iv_bind hq
        have hN2 : ∃ N2 s2 c2, ((q6.2 = 0 ∧ N2 = q6.1 ∧ s2 = -1 ∧ c2 = 1) ∨ (¬ q6.2 = 0 ∧ ∃ q12, (mm_P2 e).1 q6.1 = some q12 ∧ N2 = q12.1 ∧ s2 = q12.2 ∧ c2 = q12.1.1 29)) ∧ mm_present_I_L109 (mm_P2 e) N2 ln q14.2 s s2 (c ||| c2) = some q := by
          rcases iv_if hq with ⟨c, hq⟩ | ⟨c, hq⟩
          · exact ⟨q6.1, -1, 1, Or.inl ⟨c, rfl, rfl, rfl⟩, hq⟩
          · obtain ⟨q12, e12, hq⟩ := iv_bind hq
            exact ⟨q12.1, q12.2, q12.1.1 29, Or.inr ⟨c, q12, e12, rfl, rfl, rfl⟩, hq⟩
        obtain ⟨N2, s2, c2, hN2, hq⟩ := hN2
        delta hm_PA_takePresent_L70
        refine br_l hA hok hK ih v2 w2 (Int.le_refl _) rs2 (by omega) (by rw [ev2.2.2.1.2.1, mm 11 (by omega) (by omega) (by omega)]; exact hd) (i := 10) (Or.inr rfl) w10 (ln := ln) e6 hN2 a02 (E := fun S' r' => hm_PA_takePresent_L98 (hm_P2 d) G S' (A 0) ln x r2 r') ?_ ?_
        · rintro S3 r3 ⟨A3, C3, B3, Q3, j3, el3, P3, ND3, T2, i2, I2, v3, w3, ev3, ⟨er3, ei3, hT2, cv2⟩, ⟨hR2, fb2, gb2⟩, bu2, hs2, rs3⟩
          have a03 : A3 0 = A 0 := (ev3.1 0 (by omega)).trans a02
          have a13 : A3 1 = A 1 := (ev3.1 1 (by omega)).trans a12
          have p3 := w3.2.2.2.2.1.1
          have bn3 := w3.2.2.2.2.2.2.2.2.2.1.2
          have f3 := ev3.2.2.2.2.2.2.2.1
          have sz2 : (Q 12).toInt ≤ (Q2 12).toInt := by rw [← q12]; exact ev2.2.2.2.1.1
          have sz3 : (Q2 12).toInt ≤ (Q3 12).toInt := ev3.2.2.2.1.1
          have nd3 : ∀ i, i < (Q2 12).toInt.toNat → P3 i = P2 i ∧ ND3 i = ND2 i := ev3.2.2.2.1.2
          have hT1' : repC ND3 T1 i1 I1 := repC_ext _ _ _ hT1 (fun k hk => (nd3 k ((cv1.1 k).mp hk).2).2)
          have er2' : r2 = some (P3 i1) := by rw [(nd3 i1 (by omega)).1]; exact er2
          rw [q12] at cv1
          have rc3 := RC_of v3 w3 hK
          have evx := evS_tr evS1 (evS_tr ev2 ev3)
          have dcell3 : hg_at S3.1 (A 0) = some (.inr (4, [.ref (A3 1), .ref (A3 3), .ref (A3 4), .ref (A3 5), .int (Q3 0), .int (Q3 1), .int (Q3 2)])) := by rw [← a03]; exact v3.pa
          delta hm_PA_takePresent_L98
          refine wq_gr (x := some (A3 5)) dcell3 rfl ?_
          refine chkD v3 rfl ?_
          refine wq_call (tested2_t v3 rc3 rfl (by omega) hT1' hT2 (cov_app cv1 cv2 (by omega) (by omega)) (by omega) er2' er3 (e := x)) ?_
          rintro ⟨S4, r4⟩ t
          refine ⟨_, rfl, Or.inl ⟨S4, r4, rfl, ?_⟩⟩
          delta mm_present_I_L109 at hq
          obtain ⟨N3, e3, hq⟩ := iv_bind hq
          have hq : (if s = -1 then ((mm_leaf (md_i N3 29 (c ||| c2)) 0 (-1) ln).bind fun q5 => mm_present_I_L138 (mm_P2 e) q5.1 ln q14.2 s2 q5.2) else (mm_present_I_L138 (mm_P2 e) (md_i N3 29 (c ||| c2)) ln q14.2 s2 s)) = some q := hq
          refine dc_mono (end_l hok hK t w3 (Int.le_refl _) (by omega) (by omega) e3 a03) ?_
          rintro z (⟨S5, rfl, te⟩ | ⟨X, rfl, g⟩)
          · left
            refine ⟨S5, r4, rfl, ?_⟩
            have te0 := te
            obtain ⟨A', C', Q', el', P', ND', i', I', j', y1, y2, y3, y4, y5, ra⟩ := te
            have c8 : (N2.1 4).toInt ≤ (N3.1 7).toInt := ra.2.2.2.2.1.1
            have m := fun k (d : ¬ (4 ≤ k ∧ k ≤ 8)) => ra.1 k (by omega) (by omega) (by omega) (by omega) (by omega)
            have pN := y2.2.2.2.2.1.1
            have evZ : evS A3 C3 B3 Q3 P3 ND3 N2 A3 C3 B3 (q4 Q3 0 0 0 0) P3 ND3 N3 := evS_adv ra p3.2.1
            -- trees of the reference behind 'end'
            have k1 : (md_i N3 29 (c ||| c2)).1 12 = 0 → (s = -1 ∧ T1 = Tnot ln) ∨ (¬ s = -1 ∧ repR (md_i N3 29 (c ||| c2)) T1 s) := by
              intro z
              have z2 : N2.1 12 = 0 := by rw [← m 12 (by omega)]; exact z
              have z1 : N.1 12 = 0 := (ev3.2.2.2.2.2.2.1 z2).1
              rcases hR1 z1 with y | ⟨y, y'⟩
              · exact Or.inl y
              · refine Or.inr ⟨y, ?_⟩
                have k := repR_S (fun _ => repR_S (fun _ => y') ev3 z2) evZ z
                exact repR_ext (M := N3) (M' := md_i N3 29 (c ||| c2)) (Int.le_refl _) (fun _ _ _ => rfl) _ _ k
            have k2 : (md_i N3 29 (c ||| c2)).1 12 = 0 → (s2 = -1 ∧ T2 = Tnot ln) ∨ (¬ s2 = -1 ∧ repR (md_i N3 29 (c ||| c2)) T2 s2) := by
              intro z
              have z2 : N2.1 12 = 0 := by rw [← m 12 (by omega)]; exact z
              rcases hR2 z2 with y | ⟨y, y'⟩
              · exact Or.inl y
              · refine Or.inr ⟨y, ?_⟩
                have k := repR_S (fun _ => y') evZ z
                exact repR_ext (M := N3) (M' := md_i N3 29 (c ||| c2)) (Int.le_refl _) (fun _ _ _ => rfl) _ _ k
            obtain ⟨evr, hR⟩ := pr_ref k1 k2 hq
            have ee := fun k (d : ¬ k = 12) (d2 : ¬ k = 27) => evr.1 k d d2
            have e7 : q.1.1 7 = N3.1 7 := ee 7 (by omega) (by omega)
            have e29 : q.1.1 29 = c ||| c2 := (ee 29 (by omega) (by omega)).trans md_ii
            have e20 : q.1.1 20 = N2.1 20 := (ee 20 (by omega) (by omega)).trans (m 20 (by omega))
            have e13 : q.1.1 13 = N2.1 13 := (ee 13 (by omega) (by omega)).trans (m 13 (by omega))
            have e14' : q.1.1 14 = N2.1 14 := (ee 14 (by omega) (by omega)).trans (m 14 (by omega))
            have z15 : q.1.1 15 = N2.1 15 := (ee 15 (by omega) (by omega)).trans (m 15 (by omega))
            have m15a : (q14.1.1 15).toInt ≤ (N.1 15).toInt := ev2.2.2.2.2.2.2.2.2.2
            have m15b : (N.1 15).toInt ≤ (N2.1 15).toInt := ev3.2.2.2.2.2.2.2.2.2
            have m15c : q14.1.1 15 = M.1 15 := mm 15 (by omega) (by omega) (by omega)
            have n11a : (Q1 11).toInt ≤ (Q2 11).toInt := ev2.2.2.2.2.1.1
            have n11b : (Q2 11).toInt ≤ (Q3 11).toInt := ev3.2.2.2.2.1.1
            have z11 : (q14.1.1 11).toInt = (M.1 11).toInt := by rw [mm 11 (by omega) (by omega) (by omega)]
            have z11' : (N.1 11).toInt = (q14.1.1 11).toInt := by rw [ev2.2.2.1.2.1]
            have tok := tst_ok (evS_rf (A := A) (C := C) (P := P) (ND := ND)) ev1 ex ext eq r.2.2.2.2.2.2.2.2.1.1.1 (evS_tr ev2 ev3)
            have G1 := fb1.get evS1 ev3
            have G2 := fb2.get (evS_tr evS1 ev2) (evS_rf (A := A3) (C := C3) (P := P3) (ND := ND3))
            have fb : FB M Q B q.1 Q3 B3 (100 * (2 * (d + 1)) + (27 - (M.1 11).toInt).toNat) (Tpre ln x T1 T2) := FG_2 (k := txx (B3 9) x) (ka := (Q1 11).toInt - (Q 11).toInt) G1 G2 (fun t L t' L' g k => FU_pre tok.1 g k (by omega) (by omega)) (by rw [tok.2]; omega) (by omega) (Int.le_refl _) (by rw [z15]; rw [m15c] at m15a; rw [m15c]; omega)
            have gp := gk_pr (w := (Q3 11).toInt) hq
            have gk : GK (tsz (Tpre ln x T1 T2) : Int) (Q3 11).toInt M q.1 := by
              intro z1 z2 z3
              have z2 : (M.1 27).toInt + ((1 + tsz T1 + tsz T2 : Nat) : Int) ≤ 1200 := z2
              have t27 : q14.1.1 27 = M.1 27 := mm 27 (by omega) (by omega) (by omega)
              have a1 := ev1.2.2.2.2.2.2.2.2.2.2.2.1 z1 (by omega)
              obtain ⟨b1, b2, b3'⟩ := gb1 a1 (by rw [t27]; omega) (by omega)
              have k1 : (if s = -1 then (0 : Int) else (tsz T1 : Int)) + (if s = -1 then 1 else 0) = (tsz T1 : Int) := by
                by_cases c : s = -1
                · rw [if_pos c, if_pos c, b3' c]; omega
                · rw [if_neg c, if_neg c]; omega
              have n1 : 0 ≤ (if s = -1 then (1 : Int) else 0) := by
                by_cases c : s = -1
                · rw [if_pos c]; omega
                · rw [if_neg c]; omega
              obtain ⟨d1, d2, d3⟩ := gb2 b1 (by rw [b2, t27]; omega) z3
              have k2 : (if s2 = -1 then (0 : Int) else (tsz T2 : Int)) + (if s2 = -1 then 1 else 0) = (tsz T2 : Int) := by
                by_cases c : s2 = -1
                · rw [if_pos c, if_pos c, d3 c]; omega
                · rw [if_neg c, if_neg c]; omega
              have e12' : (md_i N3 29 (c ||| c2)).1 12 = 0 := (m 12 (by omega)).trans d1
              have e27' : (md_i N3 29 (c ||| c2)).1 27 = N2.1 27 := m 27 (by omega)
              obtain ⟨f1, f2⟩ := gp e12' (by rw [e27', d2, b2, t27]; omega) z3
              refine ⟨f1, ?_⟩
              rw [f2, e27', d2, b2, t27]
              show _ = (M.1 27).toInt + ((1 + tsz T1 + tsz T2 : Nat) : Int)
              omega
            refine fin_e evx te0 rfl (fun A C B Q P ND => evS_tr (evS_i (k := 29) (v := c ||| c2) (by omega)) (evS_R evr)) (fun C B Q j b u w r => RM_R (RM_i r (k := 29) (v := c ||| c2) (by omega)) evr) e7 ?_ ?_ ?_ hu hw' ?_ ?_ ?_ fb gk
            · intro z
              have z3 : N3.1 12 = 0 := (evr.2.2.2 z).1
              have z2 : N2.1 12 = 0 := by rw [← m 12 (by omega)]; exact z3
              have z1 : q14.1.1 12 = 0 := ((evS_tr ev2 ev3).2.2.2.2.2.2.1 z2).1
              have k := hR z
              rw [ea z1] at k
              exact k
            · rw [e7]; omega
            · rw [e7]; omega
            · rw [e29, e20, e13, e14', e7]
              rw [eM_ev ev2, ] at bu2
              have b1 := bu1
              rw [eM_ev evS1, mm 20 (by omega) (by omega) (by omega), mm 13 (by omega) (by omega) (by omega), mm 14 (by omega) (by omega) (by omega), q9] at b1
              rw [eM_ev evS1] at bu2
              have B1 := (((hA (eM B M) (M.1 20) (Q 9) (M.1 13) (M.1 14) (q14.1.1 7).toInt rs.1 (by rcases h13 with y | y; exact Or.inl (by omega); exact Or.inr y) (by omega)).2.2.2.1 T1 T2 ln c c2 _ _ _ _ _ _ _ _ _ _ b1 bu2 (by have := mm 20 (by omega) (by omega) (by omega); rw [this] at hs1; omega)).2.2 x)
              exact BU_end (((hA (eM B M) (M.1 20) (Q 9) (M.1 13) (M.1 14) (q14.1.1 7).toInt rs.1 (by rcases h13 with y | y; exact Or.inl (by omega); exact Or.inr y) (by omega)).2.2.2.2.1 _ ln _ _ _ _ _ p0 _ B1 (by omega) h13 (by have := mm 20 (by omega) (by omega) (by omega); rw [this] at hs1; omega)).2.2.1) (by omega)
            · rw [e20, e7]
              have := mm 20 (by omega) (by omega) (by omega)
              rw [this] at hs1
              omega
            · rw [e7]; omega
          · right
            rw [a03, a13] at g
            refine ⟨X, rfl, g.mono (fun φ hφ hs => ?_)⟩
            have hs' := stk_i (k := 29) (v := c ||| c2) (by decide) (by decide) (by decide) hs
            rcases iv_if hq with ⟨-, hq⟩ | ⟨-, hq⟩
            · obtain ⟨q5, e5, hq⟩ := iv_bind hq
              exact mm_present_I_L138_sk hφ (mm_P2 e) (mm_P2_sk hφ e) _ _ _ _ _ (mm_leaf_sk hφ _ _ _ _ hs' _ e5) _ hq
            · exact mm_present_I_L138_sk hφ (mm_P2 e) (mm_P2_sk hφ e) _ _ _ _ _ hs' _ hq
        · intro X g
          rw [a02, a12] at g
          exact Or.inr ⟨X, rfl, Or.inr ⟨X, rfl, g.mono (fun φ hφ hs => mm_present_I_L109_sk hφ (mm_P2 e) (mm_P2_sk hφ e) _ _ _ _ _ _ hs _ hq)⟩⟩
      · intro X g
        rw [a0, a1] at g
        exact Or.inr ⟨X, rfl, Or.inr ⟨X, rfl, g.mono (fun φ hφ hs => mm_present_I_L75_sk hφ (mm_P2 e) (mm_P2_sk hφ e) _ _ _ _ _ _ hs _ hq)⟩⟩
    by_cases c9 : j1 = 9
    · rw [if_pos ((tok_eq hok w1.2.1.1 (by omega)).mpr c9)]
      rw [if_pos ((tk_word (i := 9) x3 (by decide)).mpr c9), Option.bind_some, if_neg (by decide)] at hq
      exact go hq
    · rw [if_neg (fun z => c9 ((tok_eq hok w1.2.1.1 (by omega)).mp z))]
      rw [if_neg (fun z => c9 ((tk_word (i := 9) x3 (by decide)).mp z)), Option.bind_some, if_pos rfl] at hq
      refine wq_gr (x := some (A1 1)) dcell rfl ?_
      refine wq_gr (x := some (G.2.1 j1)) v1.lx.1 rfl ?_
      by_cases c10 : j1 = 10
      · rw [if_pos ((tok_eq hok w1.2.1.1 (by omega)).mpr c10)]
        rw [if_pos ((tk_word (i := 10) x3 (by decide)).mpr c10), Option.bind_some, if_neg (by decide)] at hq
        exact go hq
      · rw [if_neg (fun z => c10 ((tok_eq hok w1.2.1.1 (by omega)).mp z))]
        rw [if_neg (fun z => c10 ((tk_word (i := 10) x3 (by decide)).mp z)), Option.bind_some, if_pos rfl] at hq
        obtain ⟨Mf, ef, hq⟩ := iv_bind hq
        have ff := fail_f x5 ef
        delta hm_PA_takePresent_L40
        refine wq_chk v1.lx.1 ?_
        refine wq_call (req_no v1 w1 hK (M' := q.1) (Or.inl (mm_present_I_L34_fk (ph_ne (by decide) (by omega)) (mm_P2 e) (mm_P2_fk (ph_ne (by decide) (by omega)) e) Mf ln q14.2 ff q hq))) ?_
        rintro z ⟨X, rfl, g⟩
        rw [a0, a1] at g
        exact ⟨_, rfl, Or.inr ⟨X, rfl, Or.inr ⟨X, rfl, g⟩⟩⟩
  · exact ⟨_, rfl, Or.inr ⟨X, rfl, Or.inr ⟨X, rfl, g.mono rest⟩⟩⟩
end PR2
