/-! behind a statement's first word: brackets and simple statements -/
def RP (M : md_S) (B : Nat → Nat → Int32) (Q : Nat → Int32) (u w p0 k : Int) : Prop := RS M B Q ∧ (0 ≤ p0 ∧ p0 + k ≤ (M.1 7).toInt) ∧ (u ≤ 6 * p0 ∧ w ≤ p0) ∧ ((M.1 13).toInt < p0 ∨ M.1 13 = 32768) ∧ (M.1 20).toInt ≤ p0
section RST
variable {G : hg_E} {sz t0' : Nat} {H0 : Nat → Option va_E} {K1 K2 n : Nat} {f : Nat → Int32} {S S' : hg_S} {A C A' C' : Nat → Nat} {B B' : Nat → Nat → Int32} {Q Q' : Nat → Int32} {j j' : Nat} {el el' : Nat → Option Nat} {P P' : Nat → Nat} {ND ND' : Nat → ndT} {M M' : md_S} {b u w u' w' p0 : Int}
theorem RM_u (r : RM M C B n f Q j b u w) (h : u ≤ u') (h2 : u' ≤ 6 * (M.1 7).toInt) : RM M C B n f Q j b u' w := by
  obtain ⟨r1, r2, r3, r4, r5, r6, r7, r8, r9, ⟨b1, ⟨b2, b3, b4⟩, b5⟩, r10⟩ := r
  exact ⟨r1, r2, r3, r4, r5, r6, r7, r8, r9, ⟨b1, ⟨b2, by omega, h2⟩, b5⟩, r10⟩
/-- the algebra at a place -/
theorem RP.alg (hA : BUalg) {k : Int} (hp : RP M B Q u w p0 k) (hn : (M.1 7).toInt ≤ 40000) (hk : 0 ≤ k) : EOK (eM B M) (M.1 20) (Q 9) ∧ ((M.1 13).toInt < p0 ∨ M.1 13 = 32768) ∧ (M.1 20).toInt ≤ 40000 := ⟨hp.1.1, hp.2.2.2.1, by have := hp.2.2.2.2; have := hp.2.1; omega⟩
theorem back (hA : BUalg) (rs : RS M B Q) (hp : p0 ≤ (M.1 7).toInt) (h13 : (M.1 13).toInt < p0 ∨ M.1 13 = 32768) {T : tT} {c s tm a l : Int32} {p' : Int} (hs : s.toInt ≤ 99000) (h20 : (M.1 20).toInt ≤ 100000) (h : BU (eM B M) (M.1 20) (Q 9) (M.1 13) (M.1 14) (M.1 7).toInt T c s tm a l p') : BU (eM B M) (M.1 20) (Q 9) (M.1 13) (M.1 14) p0 T c s tm a l p' := ((hA (eM B M) (M.1 20) (Q 9) (M.1 13) (M.1 14) (M.1 7).toInt rs.1 rs.2.1 h20).2.2.2.2.1 T 0 c s tm a l p0 p' h hp h13 hs).2.2.1
/-- a bracket -/
theorem closed_c (hA : BUalg) (hok : lw_ok G sz) (hK : 40 * n + 70 ≤ K1 ∧ 200 * n + 400 ≤ K2) {d e : Nat} (ih : StP G t0' H0 K1 K2 n f d 3 ((hm_P2 d).1) ((mm_P2 e).1)) (h : PV G t0' H0 K1 K2 n f S A C B Q j el P ND) (r : RM M C B n f Q j b u w) (hb : b ≤ (M.1 7).toInt) (rp : RP M B Q u w p0 1) (hd : 5 * (24 - (M.1 11).toInt) + 3 ≤ (d : Int)) {q : md_S × Int32} (hq : mm_closed (mm_P2 e) M = some q) : dc_wp ((hg_chk S (some (A 0)) 4).bind fun b1 => ((hm_P2 d).1 G S b1).bind (Sum.elim (fun q4 => (hg_chk q4.1 (some (A 0)) 4).bind fun b5 => (hm_PA_closedBy G q4.1 b5 (some (G.2.1 29)) q4.2).bind (Sum.elim (fun q8 => some (.inl (q8.1, q8.2))) (fun z => some (Sum.inr z)))) (fun z => some (Sum.inr z)))) (fun z => (∃ S' r, z = .inl (S', r) ∧ stO G t0' H0 K1 K2 n f (100 * (2 * d) + (27 - (M.1 11).toInt).toNat) A C B Q P ND M u w p0 S' r q) ∨ ∃ X : hg_X, z = .inr X ∧ thr t0' H0 K1 K2 n (A 0) (A 1) X q.1) := by
  obtain ⟨rs, ⟨p00, p01⟩, ⟨hu, hw'⟩, h13, h20⟩ := rp
  have hn : (n : Int) ≤ 32768 := by have := r.1.1; omega
  have pp := r.2.2.2.2.1.1
  have opx := r.2.2.2.2.2.2.2.1
  delta mm_closed at hq
  obtain ⟨q1', e1, hq⟩ := iv_bind hq
  obtain ⟨q2', e2, hq⟩ := iv_bind hq
  have rest : ∀ φ, ¬ φ = 0 → stk φ q1'.1 → stk φ q.1 := by
    intro φ hφ hs
    have s2 := mm_meetsSign_sk hφ q1'.1 41 3 (by decide) (by decide) hs _ e2
    rcases iv_if hq with ⟨-, g⟩ | ⟨-, g⟩
    · obtain ⟨q3', e3, g⟩ := iv_bind g
      have g := (Option.some.inj g).symm
      subst g
      exact mm_fail_sk hφ _ _ _ rfl rfl s2 _ e3
    · have g := (Option.some.inj g).symm
      subst g
      exact s2
  refine wq_chk h.pa ?_
  refine wq_call (ih S A C B Q j el P ND M b u w q1' h r hb rs hd e1) ?_
  rintro z (⟨S1, r1, rfl, A1, C1, B1, Q1, j1, el1, P1, ND1, T, i, I, g1, g2, g3, g4, g5, g6, g7, g8⟩ | ⟨X, rfl, g⟩)
  · have a0 : A1 0 = A 0 := g3.1 0 (by omega)
    have a1 : A1 1 = A 1 := g3.1 1 (by omega)
    have p1 := g2.2.2.2.2.1.1
    have mt := meetsS_i (i := 3) (p := 41) g2.2.1.2.1 g2.2.2.2.1.2 (by decide) (by decide) e2
    have hm : ∃ M4, ((j1 = 29 ∧ mm_advance q1'.1 = some M4) ∨ (¬ j1 = 29 ∧ M4.1 10 = 1 + 8 * q1'.1.1 8)) ∧ q = (M4, q1'.2) := by
      rcases mt with ⟨m1, m2, m3⟩ | ⟨m1, m2⟩
      · rw [if_neg (by rw [m2]; decide)] at hq
        exact ⟨q2'.1, Or.inl ⟨m1, m3⟩, (Option.some.inj hq).symm⟩
      · subst m2
        rw [if_pos rfl] at hq
        obtain ⟨M4, e4, hq⟩ := iv_bind hq
        exact ⟨M4, Or.inr ⟨m1, fail_f g2.2.2.2.1.2 e4⟩, (Option.some.inj hq).symm⟩
    obtain ⟨M4, hm, rfl⟩ := hm
    show dc_wp ((hg_chk S1 (some (A 0)) 4).bind _) _
    rw [← a0, ← a1]
    refine wq_chk g1.pa ?_
    delta hm_PA_closedBy
    refine wq_call (P := fun z => (∃ S', z = .inl (S', r1) ∧ okA G t0' H0 K1 K2 n f S1 A1 C1 B1 Q1 el1 P1 ND1 q1'.1 (u + 6 * ((q1'.1.1 7).toInt - (M.1 7).toInt)) (w + ((q1'.1.1 7).toInt - (M.1 7).toInt)) S' M4) ∨ ∃ X : hg_X, z = .inr X ∧ thr t0' H0 K1 K2 n (A1 0) (A1 1) X M4) ?_ ?_
    · refine wq_chk g1.pa ?_
      refine wq_call (take_l hok g1 g2 hK (i := 29) (by decide) hm) ?_
      rintro zz (⟨ej3, S4, rfl, g⟩ | ⟨X, rfl, g⟩)
      · exact ⟨_, rfl, Or.inl ⟨S4, rfl, g⟩⟩
      · exact ⟨_, rfl, Or.inr ⟨X, rfl, g⟩⟩
    · rintro zz (⟨S4, rfl, j4, v4, w4, ra4, of4⟩ | ⟨X, rfl, g⟩)
      · have c8 : (q1'.1.1 4).toInt ≤ (M4.1 7).toInt := ra4.2.2.2.2.1.1
        have m := fun k (d : ¬ (4 ≤ k ∧ k ≤ 8)) => ra4.1 k (by omega) (by omega) (by omega) (by omega) (by omega)
        have evA : evS A1 C1 B1 Q1 P1 ND1 q1'.1 A1 C1 B1 (q4 Q1 (M4.1 7) (M4.1 4) (M4.1 8) 0) P1 ND1 M4 := evS_adv ra4 p1.2.1
        refine ⟨_, rfl, Or.inl ⟨S4, r1, rfl, A1, C1, B1, _, j4, el1, P1, ND1, T, i, I, v4, RM_w (RM_u w4 ?_ ?_) ?_ ?_, evS_tr g3 evA, g4, ⟨fun z => repR_S g5.1 evA z, g5.2.1.mv (evS_rf (A := A) (C := C) (P := P) (ND := ND)) evA rfl rfl (by omega), gk_tr g5.2.2 (gk_adv ra4) (Int.le_refl _) (Int.le_refl _) (by omega)⟩, ?_, ?_, ?_⟩⟩
        · show u + 6 * ((q1'.1.1 7).toInt - (M.1 7).toInt) ≤ u + 6 * ((M4.1 7).toInt - p0)
          omega
        · show u + 6 * ((M4.1 7).toInt - p0) ≤ 6 * (M4.1 7).toInt
          omega
        · show w + ((q1'.1.1 7).toInt - (M.1 7).toInt) ≤ w + ((M4.1 7).toInt - p0)
          omega
        · show w + ((M4.1 7).toInt - p0) ≤ (M4.1 7).toInt
          omega
        · show BU (eM B M) (M.1 20) (Q 9) (M.1 13) (M.1 14) p0 T (M4.1 29) (M4.1 20) (Q1 9) (M4.1 13) (M4.1 14) (M4.1 7).toInt
          rw [m 29 (by omega), m 20 (by omega), m 13 (by omega), m 14 (by omega)]
          exact BU_end (back hA rs (by omega) h13 (by omega) (by omega) g6) (by omega)
        · show (M4.1 20).toInt ≤ (M.1 20).toInt + ((M4.1 7).toInt - p0)
          rw [m 20 (by omega)]
          omega
        · show p0 < (M4.1 7).toInt
          omega
      · exact ⟨_, rfl, Or.inr ⟨X, rfl, g⟩⟩
  · exact ⟨_, rfl, Or.inr ⟨X, rfl, g.mono rest⟩⟩
/-- the class has made a tree, the reference the same: what is left -/
theorem mk_fin {d2 : Nat} {A1 C1 P1 : Nat → Nat} {B1 : Nat → Nat → Int32} {Q1 : Nat → Int32} {ND1 : Nat → ndT} {j1 lo : Nat} {N : md_S} {b1 u1 w1 m : Int} {T : tT} {r' : Option Nat} {s c : Int32} (ev1 : evS A C B Q P ND M A1 C1 B1 Q1 P1 ND1 N) (t : trO G t0' H0 K1 K2 n f B1 j1 A1 C1 Q1 P1 ND1 T lo m S' r') (hlo : lo = (Q 12).toInt.toNat) (evr : evS A1 C1 B1 Q1 P1 ND1 N A1 C1 B1 Q1 P1 ND1 M') (rm' : RM M' C1 B1 n f Q1 j1 b1 u1 w1) (hb1 : b1 ≤ (M'.1 7).toInt) (hR : M'.1 12 = 0 → repR M' T s) (hm : u1 + m ≤ u + 6 * ((M'.1 7).toInt - p0)) (hw1 : w1 ≤ w + ((M'.1 7).toInt - p0)) (hu : u ≤ 6 * p0) (hw' : w ≤ p0) (bu : BU (eM B M) (M.1 20) (Q 9) (M.1 13) (M.1 14) p0 T c (M'.1 20) (Q1 9) (M'.1 13) (M'.1 14) (M'.1 7).toInt) (hs : (M'.1 20).toInt ≤ (M.1 20).toInt + ((M'.1 7).toInt - p0)) (hpos : p0 < (M'.1 7).toInt) (fb : FB M Q B M' Q1 B1 d2 T) (gk : GK (tsz T : Int) (Q1 11).toInt M M') : stOc G t0' H0 K1 K2 n f d2 A C B Q P ND M u w p0 S' r' M' s c := by
  obtain ⟨A', C', Q', el', P', ND', i, I, g1, g2, g3, g4, g5, g6, g7, g8⟩ := t
  subst hlo
  have b5 := rm'.2.2.2.2.2.2.2.2.2.1.2.1
  have q9 : Q' 9 = Q1 9 := g3.2.2.1 9 (by omega) (by omega)
  have q11 : Q' 11 = Q1 11 := g3.2.2.1 11 (by omega) (by omega)
  refine ⟨A', C', B1, Q', j1, el', P', ND', T, i, I, g1, RM_w (RM_C (RM_b rm' hb1) g3 g2 ?_ ?_) hw1 (by omega), evS_tr ev1 (evS_tr evr (evS_C g3)), ⟨g5, g6, g7, g8⟩, ⟨hR, fb.q q11, by rw [q11]; exact gk⟩, by rw [q9]; exact bu, hs, hpos⟩
  · omega
  · omega
/-- nothing, pause, halt -/
theorem simple_nul {d2 : Nat} (hA : BUalg) (hK : 40 * n + 70 ≤ K1 ∧ 200 * n + 400 ≤ K2) (h : PV G t0' H0 K1 K2 n f S A C B Q j el P ND) (r : RM M C B n f Q j b u w) (hb : b ≤ (M.1 7).toInt) (rp : RP M B Q u w p0 1) {ln c : Int32} {q : md_S × Int32} {T : tT} {m : Int} (hm : m ≤ 6) (hbu : BU (eM B M) (M.1 20) (Q 9) (M.1 13) (M.1 14) p0 T c (M.1 20) (Q 9) (M.1 13) (M.1 14) (M.1 7).toInt) (ev : evR (md_i M 29 c) q.1) (hR : q.1.1 12 = 0 → repR q.1 T q.2) {S' : hg_S} {r' : Option Nat} (t : trO G t0' H0 K1 K2 n f B j A C Q P ND T (Q 12).toInt.toNat m S' r') (fb : FB M Q B q.1 Q B d2 T) (gk : GK (tsz T : Int) (Q 11).toInt M q.1) : stO G t0' H0 K1 K2 n f d2 A C B Q P ND M u w p0 S' r' q := by
  obtain ⟨rs, ⟨p00, p01⟩, ⟨hu, hw'⟩, h13, h20⟩ := rp
  have e := fun k (d : ¬ k = 12) (d2 : ¬ k = 27) => ev.1 k d d2
  have e7 : q.1.1 7 = M.1 7 := e 7 (by omega) (by omega)
  have e29 : q.1.1 29 = c := e 29 (by omega) (by omega)
  have e20 : q.1.1 20 = M.1 20 := e 20 (by omega) (by omega)
  have e13 : q.1.1 13 = M.1 13 := e 13 (by omega) (by omega)
  have e14 : q.1.1 14 = M.1 14 := e 14 (by omega) (by omega)
  refine mk_fin evS_rf t rfl (evS_tr (evS_i (k := 29) (v := c) (by omega)) (evS_R ev)) (RM_R (RM_i r (k := 29) (v := c) (by omega)) ev) (by rw [e7]; exact hb) hR (by rw [e7]; omega) (by rw [e7]; omega) hu hw' ?_ (by rw [e20, e7]; omega) (by rw [e7]; omega) fb gk
  rw [e29, e20, e13, e14, e7]
  exact hbu
end RST
