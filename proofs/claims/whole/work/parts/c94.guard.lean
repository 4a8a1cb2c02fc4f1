/-! suspend, abort, weak abort: to the end -/
theorem rx_r {n : Nat} {f : Nat → Int32} {N M' : md_S} (ev : evR N M') (C : Nat → Nat) (B : Nat → Nat → Int32) (Q : Nat → Int32) (j : Nat) (b u w : Int) (r : RM N C B n f Q j b u w) : RM M' C B n f Q j b u w := RM_R r ev
theorem ask_e {N : md_S} {τ : Type} {L : md_S → Int32 → Option τ} {q : τ} (h : (if (0 : Int32) < N.1 10 then L N 0 else (mm_asked_r N).bind fun q7 => L q7.1 q7.2) = some q) : ∃ q3, (if (0 : Int32) < N.1 10 then some (N, (0 : Int32)) else mm_asked_r N) = some q3 ∧ L q3.1 q3.2 = some q := by
  rcases iv_if h with ⟨c, h⟩ | ⟨c, h⟩
  · exact ⟨(N, 0), if_pos c, h⟩
  · obtain ⟨q3, e, h⟩ := iv_bind h
    exact ⟨q3, by rw [if_neg c]; exact e, h⟩
theorem ce_pre {G : hg_E} {o : Nat} {E : Option (hg_S ⊕ hg_X)} {L : hg_S → Option ((hg_S × Option Nat) ⊕ hg_X)} {F : (hg_S × Option Nat) ⊕ hg_X → Prop} (h : dc_wp E (fun z => (∃ S1, z = .inl S1 ∧ dc_wp (ceX G o (L S1)) F) ∨ ∃ X : hg_X, z = .inr X ∧ F (.inr X))) : dc_wp (ceX G o (E.bind (Sum.elim L (fun z => some (Sum.inr z))))) F := by
  obtain ⟨z, ez, h⟩ := h
  rw [ez]
  rcases h with ⟨S1, rfl, g⟩ | ⟨X, rfl, g⟩
  · exact g
  · exact ⟨_, rfl, g⟩
section GR2
variable {G : hg_E} {sz t0' : Nat} {H0 : Nat → Option va_E} {K1 K2 n : Nat} {f : Nat → Int32} {S : hg_S} {A C : Nat → Nat} {B : Nat → Nat → Int32} {Q : Nat → Int32} {j jw : Nat} {el : Nat → Option Nat} {P : Nat → Nat} {ND : Nat → ndT} {M : md_S} {b u w p0 : Int}
set_option maxHeartbeats 1000000 in
theorem suspend_c (hA : BUalg) (hok : lw_ok G sz) (hK : 40 * n + 70 ≤ K1 ∧ 200 * n + 400 ≤ K2) {d e : Nat} (ih : StP G t0' H0 K1 K2 n f d 3 ((hm_P2 d).1) ((mm_P2 e).1)) (h : PV G t0' H0 K1 K2 n f S A C B Q j el P ND) (r : RM M C B n f Q j b u w) (hb : b ≤ (M.1 7).toInt) (rp : RP M B Q u w p0 4) (hd : 5 * (24 - (M.1 11).toInt) + 3 ≤ (d : Int)) {ln : Int32} {q : md_S × Int32} (hq : mm_suspend (mm_P2 e) M ln = some q) : dc_wp (ceX G (A 0) (hm_PA_takeGuarded (hm_P2 d) G S (A 0) (some (G.2.1 12)) ln)) (fun z => (∃ S' r, z = .inl (S', r) ∧ stO G t0' H0 K1 K2 n f (100 * (2 * (d + 1)) + (27 - (M.1 11).toInt).toNat) A C B Q P ND M u w p0 S' r q) ∨ ∃ X : hg_X, z = .inr X ∧ thr t0' H0 K1 K2 n (A 0) (A 1) X q.1) := by
  delta mm_suspend at hq
  obtain ⟨q1', e1, hq⟩ := iv_bind hq
  have hq : (mm_mustWord q1'.1 2003330414).bind (fun q6 => if (0 : Int32) < (q6.1 10) then (mm_suspend_L32 (mm_P2 e) q6 ln q1'.2 (q1'.1.1 29) 0) else ((mm_asked_r q6).bind fun q7 => mm_suspend_L32 (mm_P2 e) q7.1 ln q1'.2 (q1'.1.1 29) q7.2)) = some q := hq
  obtain ⟨N, e2, hq⟩ := iv_bind hq
  obtain ⟨q3, e3, hq⟩ := ask_e (L := fun N y => mm_suspend_L32 (mm_P2 e) N ln q1'.2 (q1'.1.1 29) y) hq
  delta mm_suspend_L32 at hq
  obtain ⟨N2, e4, hq⟩ := iv_bind hq
  have hq : (mm_node_IIIIII (md_i N2 29 (q1'.1.1 29)) 4 q1'.2 (-1) (-1) ln q3.2).bind (fun q3 => some (q3.1, q3.2)) = some q := hq
  obtain ⟨q5, e5, hq⟩ := iv_bind hq
  have hq := (Option.some.inj hq).symm
  subst hq
  have rp0 := rp
  obtain ⟨rs, ⟨p00, p01⟩, ⟨hu, hw'⟩, h13, h20⟩ := rp
  have hn : (n : Int) ≤ 32768 := by have := r.1.1; omega
  have pp := r.2.2.2.2.1.1
  have opx := r.2.2.2.2.2.2.2.1
  delta hm_PA_takeGuarded
  rw [if_neg (fun z => absurd ((tok_eq hok (by omega) (by omega)).mp z) (by omega))]
  refine gd_l hA hok hK ih h r hb rp0 hd (Or.inl rfl) (sv := -1) e1 e2 e3 e4 (fun X g => Or.inr ⟨X, rfl, g.mono (fun φ hφ hs => mm_node_IIIIII_sk hφ _ _ _ _ _ _ _ (stk_i (by decide) (by decide) (by decide) hs) _ e5)⟩) ?_
  intro S3 r' A1 C1 B1 Q1 P1 ND1 T x um w1 ev1 te hum hw1 hRx bu hser hp ⟨a, fg, tok, txe, tx0⟩ gkT
  refine Or.inl ⟨S3, r', rfl, ?_⟩
  have te0 := te
  obtain ⟨-, -, -, -, -, -, -, -, -, -, -, -, -, -, ra⟩ := te
  have m := fun k (d : ¬ (4 ≤ k ∧ k ≤ 8)) => ra.1 k (by omega) (by omega) (by omega) (by omega) (by omega)
  have evr := (node_r e5).1
  have ee := fun k (d : ¬ k = 12) (d2 : ¬ k = 27) => evr.1 k d d2
  have e7 : q5.1.1 7 = N2.1 7 := ee 7 (by omega) (by omega)
  have e29 : q5.1.1 29 = q1'.1.1 29 := (ee 29 (by omega) (by omega)).trans md_ii
  have e20 : q5.1.1 20 = q3.1.1 20 := (ee 20 (by omega) (by omega)).trans (m 20 (by omega))
  have e13 : q5.1.1 13 = q3.1.1 13 := (ee 13 (by omega) (by omega)).trans (m 13 (by omega))
  have e14 : q5.1.1 14 = q3.1.1 14 := (ee 14 (by omega) (by omega)).trans (m 14 (by omega))
  have e15 : q5.1.1 15 = q3.1.1 15 := (ee 15 (by omega) (by omega)).trans (m 15 (by omega))
  have fb : FB M Q B q5.1 Q1 B1 (100 * (2 * (d + 1)) + (27 - (M.1 11).toInt).toNat) (Tsup ln x T) := FG_1 (k := txx (B1 9) x) (ka := (Q1 11).toInt - (Q 11).toInt - a) fg (fun t L g => (FU_sup tok g).up (by omega)) (by omega) (by omega) (Int.le_refl _) (by rw [e15]; exact Int.le_refl _)
  have gk : GK (tsz (Tsup ln x T) : Int) (Q1 11).toInt M q5.1 := gk_tr (gk_tr gkT (gk_i (w := (Q1 11).toInt) (i := 29) (v := q1'.1.1 29) (by omega)) (Int.le_refl _) (by omega) rfl) (gk_node e5) (Int.le_refl _) (by omega) (by show ((1 + tsz T : Nat) : Int) = _; omega)
  refine fin_e ev1 te0 rfl (fun A C B Q P ND => evS_tr (evS_i (k := 29) (v := q1'.1.1 29) (by omega)) (evS_R evr)) (fun C B Q j b u w r => RM_R (RM_i r (k := 29) (v := q1'.1.1 29) (by omega)) evr) e7 ?_ (by show um ≤ u + 6 * ((q5.1.1 7).toInt - p0); rw [e7]; exact hum) (by show w1 ≤ w + ((q5.1.1 7).toInt - p0); rw [e7]; exact hw1) hu hw' ?_ ?_ ?_ fb gk
  · intro z
    have z1 := (evr.2.2.2 z).1
    have z2 : q3.1.1 12 = 0 := by rw [← m 12 (by omega)]; exact z1
    obtain ⟨y1, y2⟩ := hRx z2
    have hT' : (md_i N2 29 (q1'.1.1 29)).1 12 = 0 → repR (md_i N2 29 (q1'.1.1 29)) T q1'.2 := fun _ => repR_ext (M := q3.1) (M' := md_i N2 29 (q1'.1.1 29)) (by show _ ≤ (N2.1 27).toInt; rw [m 27 (by omega)]; exact Int.le_refl _) (fun k i _ => by show N2.2.1 k i = _; rw [ra.2.1]) T _ y1
    have k := (nd1_r (u := -1) (m := -1) (sv := -1) hT' rfl e5).2 z
    rw [y2] at k
    exact k
  · show BU (eM B M) (M.1 20) (Q 9) (M.1 13) (M.1 14) p0 (Tsup ln x T) (q5.1.1 29) (q5.1.1 20) (Q1 9) (q5.1.1 13) (q5.1.1 14) (q5.1.1 7).toInt
    rw [e29, e20, e13, e14, e7]
    exact BU_end (((hA (eM B M) (M.1 20) (Q 9) (M.1 13) (M.1 14) (M.1 7).toInt rs.1 rs.2.1 (by omega)).2.2.2.2.1 T ln _ _ _ _ _ p0 _ bu (by omega) h13 (by omega)).1 x) (by omega)
  · show (q5.1.1 20).toInt ≤ (M.1 20).toInt + ((q5.1.1 7).toInt - p0)
    rw [e20, e7]; omega
  · show p0 < (q5.1.1 7).toInt
    rw [e7]; omega
set_option maxHeartbeats 1000000 in
theorem abort_c' (hA : BUalg) (hok : lw_ok G sz) (hK : 40 * n + 70 ≤ K1 ∧ 200 * n + 400 ≤ K2) {d e : Nat} (ih : StP G t0' H0 K1 K2 n f d 3 ((hm_P2 d).1) ((mm_P2 e).1)) (h : PV G t0' H0 K1 K2 n f S A C B Q j el P ND) (r : RM M C B n f Q j b u w) (hb : b ≤ (M.1 7).toInt) (rp : RP M B Q u w p0 4) (hd : 5 * (24 - (M.1 11).toInt) + 3 ≤ (d : Int)) {ln wk : Int32} (hj : (jw = 22 ∧ wk = 0) ∨ (jw = 23 ∧ wk = 1)) {q : md_S × Int32} (hq : mm_abort (mm_P2 e) M ln wk = some q) : dc_wp (ceX G (A 0) (hm_PA_takeGuarded_L14 (hm_P2 d) G S (A 0) (some (G.2.1 jw)) ln)) (fun z => (∃ S' r, z = .inl (S', r) ∧ stO G t0' H0 K1 K2 n f (100 * (2 * (d + 1)) + (27 - (M.1 11).toInt).toNat) A C B Q P ND M u w p0 S' r q) ∨ ∃ X : hg_X, z = .inr X ∧ thr t0' H0 K1 K2 n (A 0) (A 1) X q.1) := by
  delta mm_abort at hq
  obtain ⟨q1', e1, hq⟩ := iv_bind hq
  have hq : (mm_mustWord q1'.1 2003330414).bind (fun q6 => if (0 : Int32) < (q6.1 10) then (mm_abort_L33 (mm_P2 e) q6 ln wk q1'.2 (q1'.1.1 29) 0) else ((mm_asked_r q6).bind fun q7 => mm_abort_L33 (mm_P2 e) q7.1 ln wk q1'.2 (q1'.1.1 29) q7.2)) = some q := hq
  obtain ⟨N, e2, hq⟩ := iv_bind hq
  obtain ⟨q3, e3, hq⟩ := ask_e (L := fun N y => mm_abort_L33 (mm_P2 e) N ln wk q1'.2 (q1'.1.1 29) y) hq
  delta mm_abort_L33 at hq
  obtain ⟨N2, e4, hq⟩ := iv_bind hq
  obtain ⟨q5, e5, hq⟩ := iv_bind hq
  have hq := (Option.some.inj hq).symm
  subst hq
  have rp0 := rp
  obtain ⟨rs, ⟨p00, p01⟩, ⟨hu, hw'⟩, h13, h20⟩ := rp
  have hn : (n : Int) ≤ 32768 := by have := r.1.1; omega
  have pp := r.2.2.2.2.1.1
  have opx := r.2.2.2.2.2.2.2.1
  refine gd_l hA hok hK ih h r hb rp0 hd (by rcases hj with ⟨y, -⟩ | ⟨y, -⟩ <;> omega) (sv := q3.1.1 20 + 1) e1 e2 e3 e4 (fun X g => Or.inr ⟨X, rfl, g.mono (fun φ hφ hs => mm_aborted_sk hφ _ _ _ _ _ _ hs _ e5)⟩) ?_
  intro S3 r' A1 C1 B1 Q1 P1 ND1 T x um w1 ev1 te hum hw1 hRx bu hser hp ⟨a, fg, tok, txe, tx0⟩ gkT
  refine Or.inl ⟨S3, r', rfl, ?_⟩
  have te0 := te
  obtain ⟨-, -, -, -, -, -, -, -, -, -, -, -, -, -, ra⟩ := te
  have m := fun k (d : ¬ (4 ≤ k ∧ k ≤ 8)) => ra.1 k (by omega) (by omega) (by omega) (by omega) (by omega)
  have s20 : N2.1 20 = q3.1.1 20 := m 20 (by omega)
  have Tg : Tgd jw ln x (q3.1.1 20 + 1) T = Tabo ln (q3.1.1 20 + 1) (Trun wk ln x T) (Twat ln x (q3.1.1 20 + 1)) := by
    unfold Tgd
    rcases hj with ⟨y, y2⟩ | ⟨y, y2⟩
    · rw [if_neg (by omega), if_neg (by omega), y2]
    · rw [if_neg (by omega), if_pos y, y2]
  rw [Tg] at te0
  -- what the reference makes, once the test is known
  have key : ∃ c pq, mm_pairs (cAb2 (cAb (q1'.1.1 29))) 2 = some pq ∧ mm_caught pq = some c ∧ evR (md_i (md_i N2 20 (N2.1 20 + 1)) 29 c) q5.1 ∧ (q5.1.1 12 = 0 → repR q5.1 (Tabo ln (q3.1.1 20 + 1) (Trun wk ln x T) (Twat ln x (q3.1.1 20 + 1))) q5.2) := by
    by_cases z2 : q3.1.1 12 = 0
    · obtain ⟨y1, y2⟩ := hRx z2
      have hT' : N2.1 12 = 0 → repR N2 T q1'.2 := fun _ => repR_ext (M := q3.1) (M' := N2) (by rw [m 27 (by omega)]; exact Int.le_refl _) (fun k i _ => by rw [ra.2.1]) T _ y1
      obtain ⟨pq, c, k1, k2, k3, k4⟩ := aborted_r hT' e5
      rw [s20, y2] at k4
      exact ⟨c, pq, k1, k2, k3, k4⟩
    · have hT' : N2.1 12 = 0 → repR N2 T q1'.2 := fun z => absurd (by rw [← m 12 (by omega)]; exact z) z2
      obtain ⟨pq, c, k1, k2, k3, k4⟩ := aborted_r hT' e5
      exact ⟨c, pq, k1, k2, k3, fun z => absurd (by rw [← m 12 (by omega)]; exact (k3.2.2.2 z).1) z2⟩
  obtain ⟨c, pq, k1, k2, evr, k4⟩ := key
  have ee := fun k (d : ¬ k = 12) (d2 : ¬ k = 27) => evr.1 k d d2
  have e7 : q5.1.1 7 = N2.1 7 := ee 7 (by omega) (by omega)
  have e29 : q5.1.1 29 = c := (ee 29 (by omega) (by omega)).trans md_ii
  have e20 : q5.1.1 20 = q3.1.1 20 + 1 := (ee 20 (by omega) (by omega)).trans (by show N2.1 20 + 1 = _; rw [s20])
  have e13 : q5.1.1 13 = q3.1.1 13 := (ee 13 (by omega) (by omega)).trans (m 13 (by omega))
  have e14 : q5.1.1 14 = q3.1.1 14 := (ee 14 (by omega) (by omega)).trans (m 14 (by omega))
  have e201 : (q3.1.1 20 + 1).toInt = (q3.1.1 20).toInt + 1 := by
    have z0 := rs.1.1.1
    have z1 := bu.2.1.1
    rw [i_addS (by rw [il_1]; omega), il_1]
  have e15 : q5.1.1 15 = q3.1.1 15 := (ee 15 (by omega) (by omega)).trans (m 15 (by omega))
  have gk0 := gk_abt (w := (Q1 11).toInt) e5
  have fbk : FB M Q B q5.1 Q1 B1 (100 * (2 * (d + 1)) + (27 - (M.1 11).toInt).toNat) (Tabo ln (q3.1.1 20 + 1) (Trun wk ln x T) (Twat ln x (q3.1.1 20 + 1))) ∧ GK (tsz (Tabo ln (q3.1.1 20 + 1) (Trun wk ln x T) (Twat ln x (q3.1.1 20 + 1))) : Int) (Q1 11).toInt M q5.1 := by
    rcases hj with ⟨-, y⟩ | ⟨-, y⟩
    · rw [if_pos y] at gk0
      rw [show Trun wk ln x T = Tsup ln x T from if_pos y]
      refine ⟨FG_1 (k := txx (B1 9) x + txx (B1 9) x) (ka := (Q1 11).toInt - (Q 11).toInt - a) fg (fun t L g => ?_) (by omega) (by omega) (Int.le_refl _) (by rw [e15]; exact Int.le_refl _), gk_tr gkT gk0 (Int.le_refl _) (by omega) ?_⟩
      · have k := FU_abo (l := ln) (sv := q3.1.1 20 + 1) (c := 100 * (2 * (d + 1)) + (27 - (M.1 11).toInt).toNat) (FU_sup (l := ln) tok g) (FU_wat (l := ln) (sv := q3.1.1 20 + 1) (c := 200) tok (by omega)) (by omega) (by omega) (by omega)
        rw [List.append_nil] at k
        exact k.eqt (by omega)
      · show ((1 + (1 + (1 + (1 + tsz T) + 1) + 6) : Nat) : Int) = _
        omega
    · have wn : ¬ wk = 0 := by rw [y]; decide
      rw [if_neg wn] at gk0
      rw [show Trun wk ln x T = T from if_neg wn]
      refine ⟨FG_1 (k := txx (B1 9) x) (ka := (Q1 11).toInt - (Q 11).toInt - a) fg (fun t L g => ?_) (by omega) (by omega) (Int.le_refl _) (by rw [e15]; exact Int.le_refl _), gk_tr gkT gk0 (Int.le_refl _) (by omega) ?_⟩
      · have k := FU_abo (l := ln) (sv := q3.1.1 20 + 1) (c := 100 * (2 * (d + 1)) + (27 - (M.1 11).toInt).toNat) g (FU_wat (l := ln) (sv := q3.1.1 20 + 1) (c := 200) tok (by omega)) (by omega) (by omega) (by omega)
        rw [List.append_nil] at k
        exact k.eqt (by omega)
      · show ((1 + (1 + (1 + tsz T + 1) + 6) : Nat) : Int) = _
        omega
  refine fin_e ev1 te0 rfl (fun A C B Q P ND => evS_tr (evS_i (k := 20) (v := N2.1 20 + 1) (by omega)) (evS_tr (evS_i (k := 29) (v := c) (by omega)) (evS_R evr))) (fun C B Q j b u w r => RM_R (RM_i (RM_i r (k := 20) (v := N2.1 20 + 1) (by omega)) (k := 29) (v := c) (by omega)) evr) e7 k4 (by show um ≤ u + 6 * ((q5.1.1 7).toInt - p0); rw [e7]; exact hum) (by show w1 ≤ w + ((q5.1.1 7).toInt - p0); rw [e7]; exact hw1) hu hw' ?_ ?_ ?_ fbk.1 fbk.2
  · show BU (eM B M) (M.1 20) (Q 9) (M.1 13) (M.1 14) p0 _ (q5.1.1 29) (q5.1.1 20) (Q1 9) (q5.1.1 13) (q5.1.1 14) (q5.1.1 7).toInt
    rw [e29, e20, e13, e14, e7]
    exact BU_end (((hA (eM B M) (M.1 20) (Q 9) (M.1 13) (M.1 14) (M.1 7).toInt rs.1 rs.2.1 (by omega)).2.2.2.2.1 T ln _ _ _ _ _ p0 _ bu (by omega) h13 (by omega)).2.2.2.2.1 wk x pq c k1 k2) (by omega)
  · show (q5.1.1 20).toInt ≤ (M.1 20).toInt + ((q5.1.1 7).toInt - p0)
    rw [e20, e7]; omega
  · show p0 < (q5.1.1 7).toInt
    rw [e7]; omega
theorem abort_c (hA : BUalg) (hok : lw_ok G sz) (hK : 40 * n + 70 ≤ K1 ∧ 200 * n + 400 ≤ K2) {d e : Nat} (ih : StP G t0' H0 K1 K2 n f d 3 ((hm_P2 d).1) ((mm_P2 e).1)) (h : PV G t0' H0 K1 K2 n f S A C B Q j el P ND) (r : RM M C B n f Q j b u w) (hb : b ≤ (M.1 7).toInt) (rp : RP M B Q u w p0 4) (hd : 5 * (24 - (M.1 11).toInt) + 3 ≤ (d : Int)) {ln : Int32} {q : md_S × Int32} (hq : mm_abort (mm_P2 e) M ln 0 = some q) : dc_wp (ceX G (A 0) (hm_PA_takeGuarded (hm_P2 d) G S (A 0) (some (G.2.1 22)) ln)) (fun z => (∃ S' r, z = .inl (S', r) ∧ stO G t0' H0 K1 K2 n f (100 * (2 * (d + 1)) + (27 - (M.1 11).toInt).toNat) A C B Q P ND M u w p0 S' r q) ∨ ∃ X : hg_X, z = .inr X ∧ thr t0' H0 K1 K2 n (A 0) (A 1) X q.1) := by
  delta hm_PA_takeGuarded
  rw [if_neg (fun z => absurd ((tok_eq hok (by omega) (by omega)).mp z) (by omega))]
  exact abort_c' hA hok hK ih h r hb rp hd (Or.inl ⟨rfl, rfl⟩) hq
/-- what is read from a place further on, seen from here -/
theorem stO_from {d2 : Nat} {A1 C1 P1 : Nat → Nat} {B1 : Nat → Nat → Int32} {Q1 : Nat → Int32} {ND1 : Nat → ndT} {N : md_S} {S' : hg_S} {r' : Option Nat} {M' : md_S} {s c : Int32} (ev : evS A C B Q P ND M A1 C1 B1 Q1 P1 ND1 N) (hE : eM B1 N = eM B M) (h12 : Q1 12 = Q 12) (h9 : Q1 9 = Q 9) (h20 : N.1 20 = M.1 20) (h13 : N.1 13 = M.1 13) (h14 : N.1 14 = M.1 14) (h11 : Q1 11 = Q 11) (h12' : N.1 12 = M.1 12) (h27 : N.1 27 = M.1 27) (t : stOc G t0' H0 K1 K2 n f d2 A1 C1 B1 Q1 P1 ND1 N u w p0 S' r' M' s c) : stOc G t0' H0 K1 K2 n f d2 A C B Q P ND M u w p0 S' r' M' s c := by
  obtain ⟨A', C', B', Q', j', el', P', ND', T, i, I, g1, g2, g3, ⟨g4, g5, g6, g7⟩, g8, g9, g10, g11⟩ := t
  rw [h12] at g7
  rw [hE, h20, h9, h13, h14] at g9
  rw [h20] at g10
  exact ⟨A', C', B', Q', j', el', P', ND', T, i, I, g1, g2, evS_tr ev g3, ⟨g4, g5, g6, g7⟩, ⟨g8.1, g8.2.1.mv ev (evS_rf (A := A') (C := C') (P := P') (ND := ND')) h11 rfl ⟨Nat.le_refl _, Nat.le_refl _⟩, gk_tr (gk_0 (w := (Q' 11).toInt) h12' h27) g8.2.2 (Int.le_refl _) (by omega) (by omega)⟩, g9, g10, g11⟩
theorem weak_c (hA : BUalg) (hok : lw_ok G sz) (hK : 40 * n + 70 ≤ K1 ∧ 200 * n + 400 ≤ K2) {d e : Nat} (ih : ∀ e, StP G t0' H0 K1 K2 n f d 3 ((hm_P2 d).1) ((mm_P2 e).1)) (h : PV G t0' H0 K1 K2 n f S A C B Q j el P ND) (r : RM M C B n f Q j b u w) (hb : b ≤ (M.1 7).toInt) (rp : RP M B Q u w p0 4) (hd : 5 * (24 - (M.1 11).toInt) + 3 ≤ (d : Int)) {ln : Int32} {q : md_S × Int32} (hq : mm_weak (mm_P2 e) M ln = some q) : dc_wp (ceX G (A 0) (hm_PA_takeGuarded (hm_P2 d) G S (A 0) (some (G.2.1 23)) ln)) (fun z => (∃ S' r, z = .inl (S', r) ∧ stO G t0' H0 K1 K2 n f (100 * (2 * (d + 1)) + (27 - (M.1 11).toInt).toNat) A C B Q P ND M u w p0 S' r q) ∨ ∃ X : hg_X, z = .inr X ∧ thr t0' H0 K1 K2 n (A 0) (A 1) X q.1) := by
  have rp0 := rp
  obtain ⟨rs, ⟨p00, p01⟩, ⟨hu, hw'⟩, h13, h20⟩ := rp
  have hn : (n : Int) ≤ 32768 := by have := r.1.1; omega
  have pp := r.2.2.2.2.1.1
  have opx := r.2.2.2.2.2.2.2.1
  have hq0 := hq
  delta mm_weak at hq
  obtain ⟨N, e1, hq⟩ := iv_bind hq
  have mt := must_i (i := 22) r.2.1.2.1 r.2.2.2.1.2 (by decide) (by decide) e1
  have rest : ∀ φ, ¬ φ = 0 → stk φ N → stk φ q.1 := by
    intro φ hφ hs
    rcases iv_if hq with ⟨-, g⟩ | ⟨-, g⟩
    · have g := (Option.some.inj g).symm
      subst g
      exact hs
    · obtain ⟨q2, e2, g⟩ := iv_bind g
      have g := (Option.some.inj g).symm
      subst g
      exact (mm_P2_sk hφ e).2.2.2.2.2.2.2.2.2.2.1 N ln 1 hs _ e2
  delta hm_PA_takeGuarded
  rw [if_pos rfl]
  have ck : (hg_chk S (some (A 0)) 4) = some (A 0) := vq_chk h.pa
  rw [ck, Option.bind_some]
  refine ce_pre ?_
  refine dc_mono (take_l hok h r hK (i := 22) (by decide) mt) ?_
  rintro z (⟨ej, S1, rfl, j1, v1, w1, ra1, of1'⟩ | ⟨X, rfl, g⟩)
  · left
    refine ⟨S1, rfl, ?_⟩
    have f0 : N.1 10 = 0 := w1.2.2.2.1.2
    rw [f0, if_neg lt00] at hq
    obtain ⟨q2, e2, hq⟩ := iv_bind hq
    have hq := (Option.some.inj hq).symm
    subst hq
    have c8 : (M.1 4).toInt ≤ (N.1 7).toInt := ra1.2.2.2.2.1.1
    have m := fun k (d : ¬ (4 ≤ k ∧ k ≤ 8)) => ra1.1 k (by omega) (by omega) (by omega) (by omega) (by omega)
    have evA : evS A C B Q P ND M A C B (q4 Q (N.1 7) (N.1 4) (N.1 8) 0) P ND N := evS_adv ra1 pp.2.1
    cases e with
    | zero => cases e2
    | succ e' =>
      have rpN : RP N B (q4 Q (N.1 7) (N.1 4) (N.1 8) 0) u w p0 4 := ⟨RS_adv rs ra1 pp.2.1, ⟨p00, by omega⟩, ⟨hu, hw'⟩, by rw [m 13 (by omega)]; exact h13, by rw [m 20 (by omega)]; exact h20⟩
      refine dc_mono (abort_c' hA hok hK (ih e') v1 w1 (Int.le_refl _) rpN (by rw [m 11 (by omega)]; exact hd) (Or.inr ⟨rfl, rfl⟩) e2) ?_
      rintro z (⟨S', r', rfl, g⟩ | ⟨X, rfl, g⟩)
      · rw [m 11 (by omega)] at g
        exact Or.inl ⟨S', r', rfl, stO_from evA (eM_ev evA) rfl rfl (m 20 (by omega)) (m 13 (by omega)) (m 14 (by omega)) rfl (m 12 (by omega)) (m 27 (by omega)) g⟩
      · exact Or.inr ⟨X, rfl, g⟩
  · exact Or.inr ⟨X, rfl, Or.inr ⟨X, rfl, g.mono rest⟩⟩
end GR2
