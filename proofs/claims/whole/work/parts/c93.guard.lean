/-! suspend, abort, weak abort -/
/-- closed by 'end' -/
noncomputable abbrev ceX (G : hg_E) (o : Nat) (X : Option ((hg_S × Option Nat) ⊕ hg_X)) : Option ((hg_S × Option Nat) ⊕ hg_X) := X.bind (Sum.elim (fun q => (hg_chk q.1 (some o) 4).bind fun b => (hm_PA_closedBy G q.1 b (some (G.2.1 11)) q.2).bind (Sum.elim (fun q8 => some (.inl (q8.1, q8.2))) (fun z => some (Sum.inr z)))) (fun z => some (Sum.inr z)))
theorem ce_l {G : hg_E} {o : Nat} {X : Option ((hg_S × Option Nat) ⊕ hg_X)} {F : (hg_S × Option Nat) ⊕ hg_X → Prop} (hX : dc_wp X (fun z => (∃ S2 r', z = .inl (S2, r') ∧ dc_wp ((hg_chk S2 (some o) 4).bind fun b => (hm_PA_closedBy G S2 b (some (G.2.1 11)) r').bind (Sum.elim (fun q8 => some (.inl (q8.1, q8.2))) (fun z => some (Sum.inr z)))) F) ∨ ∃ Y : hg_X, z = .inr Y ∧ F (.inr Y))) : dc_wp (ceX G o X) F := by
  refine wq_call hX ?_
  rintro z (⟨S2, r', rfl, g⟩ | ⟨Y, rfl, g⟩)
  · exact g
  · exact ⟨_, rfl, g⟩
def Tgd (j : Nat) (ln x sv : Int32) (T : tT) : tT := if j = 12 then Tsup ln x T else Tabo ln sv (Trun (if j = 23 then 1 else 0) ln x T) (Twat ln x sv)
section GRD
variable {G : hg_E} {sz t0' : Nat} {H0 : Nat → Option va_E} {K1 K2 n : Nat} {f : Nat → Int32} {S : hg_S} {A C : Nat → Nat} {B : Nat → Nat → Int32} {Q : Nat → Int32} {j jw : Nat} {el : Nat → Option Nat} {P : Nat → Nat} {ND : Nat → ndT} {M : md_S} {b u w p0 : Int}
set_option maxHeartbeats 2000000 in
theorem gd_l (hA : BUalg) (hok : lw_ok G sz) (hK : 40 * n + 70 ≤ K1 ∧ 200 * n + 400 ≤ K2) {d e : Nat} (ih : StP G t0' H0 K1 K2 n f d 3 ((hm_P2 d).1) ((mm_P2 e).1)) (h : PV G t0' H0 K1 K2 n f S A C B Q j el P ND) (r : RM M C B n f Q j b u w) (hb : b ≤ (M.1 7).toInt) (rp : RP M B Q u w p0 4) (hd : 5 * (24 - (M.1 11).toInt) + 3 ≤ (d : Int)) (hj : jw = 12 ∨ jw = 22 ∨ jw = 23) {ln sv : Int32} {q1' q3 : md_S × Int32} {N N2 : md_S} (e1 : (mm_P2 e).1 M = some q1') (e2 : mm_mustWord q1'.1 2003330414 = some N) (e3 : (if (0 : Int32) < N.1 10 then some (N, (0 : Int32)) else mm_asked_r N) = some q3) (e4 : mm_mustWord q3.1 6647396 = some N2) {F : (hg_S × Option Nat) ⊕ hg_X → Prop} (kt : ∀ X, thr t0' H0 K1 K2 n (A 0) (A 1) X N2 → F (.inr X)) (kk : ∀ (S3 : hg_S) (r' : Option Nat) (A1 C1 : Nat → Nat) (B1 : Nat → Nat → Int32) (Q1 : Nat → Int32) (P1 : Nat → Nat) (ND1 : Nat → ndT) (T : tT) (x : Int32) (um w1 : Int), evS A C B Q P ND M A1 C1 B1 Q1 P1 ND1 q3.1 → trE G t0' H0 K1 K2 n f A1 C1 B1 Q1 P1 ND1 q3.1 (Tgd jw ln x sv T) (Q 12).toInt.toNat um w1 S3 r' N2 → um ≤ u + 6 * ((N2.1 7).toInt - p0) → w1 ≤ w + ((N2.1 7).toInt - p0) → (q3.1.1 12 = 0 → repR q3.1 T q1'.2 ∧ q3.2 = x) → BU (eM B M) (M.1 20) (Q 9) (M.1 13) (M.1 14) (M.1 7).toInt T (q1'.1.1 29) (q3.1.1 20) (Q1 9) (q3.1.1 13) (q3.1.1 14) (q3.1.1 7).toInt → (q3.1.1 20).toInt ≤ (M.1 20).toInt + ((q3.1.1 7).toInt - (M.1 7).toInt) → ((M.1 7).toInt ≤ (q3.1.1 7).toInt ∧ (q3.1.1 7).toInt + 3 ≤ (N2.1 7).toInt ∧ (N2.1 7).toInt ≤ 32768) → (∃ a : Int, FG (pOk (B1 6) (B1 7) (B1 9) (Q 11).toInt (Q1 11).toInt) (B1 9) (sV B M) T (100 * (2 * d) + (26 - (M.1 11).toInt).toNat) a (M.1 15).toInt (q3.1.1 15).toInt ∧ pOk (B1 6) (B1 7) (B1 9) (Q 11).toInt (Q1 11).toInt (sV B M) x ∧ txx (B1 9) x = (Q1 11).toInt - (Q 11).toInt - a ∧ 0 ≤ (Q1 11).toInt - (Q 11).toInt - a) → GK (tsz T : Int) (Q1 11).toInt M N2 → F (.inl (S3, r'))) : dc_wp (ceX G (A 0) (hm_PA_takeGuarded_L14 (hm_P2 d) G S (A 0) (some (G.2.1 jw)) ln)) F := by
  obtain ⟨rs, ⟨p00, p01⟩, ⟨hu, hw'⟩, h13, h20⟩ := rp
  have hn : (n : Int) ≤ 32768 := by have := r.1.1; omega
  have pp := r.2.2.2.2.1.1
  have jw33 : jw < 33 := by omega
  -- behind a throw: the reference goes on
  have sk3 : ∀ φ, ¬ φ = 0 → stk φ q3.1 → stk φ N2 := fun φ hφ hs => mm_mustWord_sk hφ _ _ hs _ e4
  have sk1 : ∀ φ, ¬ φ = 0 → stk φ q1'.1 → stk φ N2 := by
    intro φ hφ hs
    refine sk3 φ hφ ?_
    have sN := mm_mustWord_sk hφ _ _ hs _ e2
    rcases iv_if e3 with ⟨-, y⟩ | ⟨-, y⟩
    · have y := (Option.some.inj y).symm
      subst y
      exact sN
    · exact mm_asked_r_sk hφ N sN _ y
  refine ce_l ?_
  delta hm_PA_takeGuarded_L14
  refine wq_chk h.pa ?_
  refine wq_call (ih S A C B Q j el P ND M b u w q1' h r hb rs hd e1) ?_
  rintro z (⟨S1, r1, rfl, A1, C1, B1, Q1, j1, el1, P1, ND1, T, i, I, g1, g2, g3, ⟨er, ei, hT, cv⟩, g5, g6, g7, g8⟩ | ⟨X, rfl, g⟩)
  · have a0 : A1 0 = A 0 := g3.1 0 (by omega)
    have a1 : A1 1 = A 1 := g3.1 1 (by omega)
    have p1 := g2.2.2.2.2.1.1
    refine when_l hok hK g1 g2 (Int.le_refl _) (i := 13) (by decide) (by decide) (by decide +kernel) e2 e3 a0 (E := fun S' x => if some (G.2.1 jw) = (some (G.2.1 23)) then ((hg_gr S' (some (A 0)) 4 3).bind fun e13 => (hg_gr S' (some (A 0)) 4 3).bind fun e14 => (hg_chk S' e14 6).bind fun b15 => (hm_DR_watch G S' b15 x ln).bind fun q18 => (hg_chk q18.1 e13 6).bind fun b19 => (hm_DR_abort G q18.1 b19 r1 q18.2 ln).bind fun q22 => some (.inl (q22.1, q22.2))) else ((hg_gr S' (some (A 0)) 4 3).bind fun e23 => (hg_chk S' e23 6).bind fun b24 => (hm_DR_tested G S' b24 (4 : Int32) x r1 (none : Option Nat) ln).bind fun q27 => if some (G.2.1 jw) = (some (G.2.1 12)) then (hm_PA_takeGuarded_L106 (hm_P2 d) G q27.1 (A 0) q27.2) else ((hg_gr q27.1 (some (A 0)) 4 3).bind fun e28 => (hg_gr q27.1 (some (A 0)) 4 3).bind fun e29 => (hg_chk q27.1 e29 6).bind fun b30 => (hm_DR_watch G q27.1 b30 x ln).bind fun q33 => (hg_chk q33.1 e28 6).bind fun b34 => (hm_DR_abort G q33.1 b34 q27.2 q33.2 ln).bind fun q37 => hm_PA_takeGuarded_L106 (hm_P2 d) G q37.1 (A 0) q37.2))) ?_ ?_
    · rintro S2 x ⟨A2, C2, B2, Q2, j2, v2, w2, ev2, ea, ex, ext, eq, ep⟩
      have a02 : A2 0 = A 0 := (ev2.1 0 (by omega)).trans a0
      have a12 : A2 1 = A 1 := (ev2.1 1 (by omega)).trans a1
      have q12 : Q2 12 = Q1 12 := ev2.2.2.2.1 12 (by omega) (by omega)
      have q9 : Q2 9 = Q1 9 := ev2.2.2.2.1 9 (by omega) (by omega)
      have evx := evS_tr g3 (evS_T (P := P1) (ND := ND1) ev2)
      have p2 := w2.2.2.2.2.1.1
      have bn2 := w2.2.2.2.2.2.2.2.2.2.1.2.1
      have rc2 := RC_of v2 w2 hK
      have mm := fun k (d : ¬ (4 ≤ k ∧ k ≤ 8)) (d2 : ¬ k = 12) (d3 : ¬ k = 28) => ev2.2.2.2.2.1 k d d2 d3
      have s20 : q3.1.1 20 = q1'.1.1 20 := mm 20 (by omega) (by omega) (by omega)
      have s13 : q3.1.1 13 = q1'.1.1 13 := mm 13 (by omega) (by omega) (by omega)
      have s14 : q3.1.1 14 = q1'.1.1 14 := mm 14 (by omega) (by omega) (by omega)
      have szx : (Q 12).toInt ≤ (Q2 12).toInt := by rw [q12]; exact g3.2.2.2.1.1
      have cv : cov I (Q 12).toInt.toNat (Q2 12).toInt.toNat := by rw [q12]; exact cv
      have dcell : hg_at S2.1 (A 0) = some (.inr (4, [.ref (A2 1), .ref (A2 3), .ref (A2 4), .ref (A2 5), .int (Q2 0), .int (Q2 1), .int (Q2 2)])) := by rw [← a02]; exact v2.pa
      have tok := tst_ok g3 ev2 ex ext eq g2.2.2.2.2.2.2.2.2.1.1.1 (evS_rf (P := P1) (ND := ND1))
      have fg := g5.2.1.get (evS_rf (A := A) (C := C) (P := P) (ND := ND)) (evS_T (P := P1) (ND := ND1) ev2)
      rw [show q1'.1.1 15 = q3.1.1 15 from (mm 15 (by omega) (by omega) (by omega)).symm] at fg
      -- the end
      have fin : ∀ (m : Int) (Sm : hg_S) (rr : Option Nat), 0 ≤ m → m ≤ 11 → trO G t0' H0 K1 K2 n f B2 j2 A2 C2 Q2 P1 ND1 (Tgd jw ln x sv T) (Q 12).toInt.toNat m Sm rr → dc_wp ((hg_chk Sm (some (A 0)) 4).bind fun b => (hm_PA_closedBy G Sm b (some (G.2.1 11)) rr).bind (Sum.elim (fun q8 => some (.inl (q8.1, q8.2))) (fun z => some (Sum.inr z)))) F := by
        intro m Sm rr m0 m1 t
        refine dc_mono (end_l hok hK t w2 (Int.le_refl _) (by omega) m0 e4 a02) ?_
        rintro z (⟨S3, rfl, te⟩ | ⟨X, rfl, g⟩)
        · have te0 := te
          obtain ⟨A', C', Q', el', P', ND', i', I', j', y1, y2, y3, y4, y5, ra⟩ := te
          have c8 : (q3.1.1 4).toInt ≤ (N2.1 7).toInt := ra.2.2.2.2.1.1
          have mt := must_i (i := 11) w2.2.1.2.1 w2.2.2.2.1.2 (by decide) (by decide) e4
          have x4 := w2.2.1.2.2
          have t11 : tln 11 = 3 := by decide +kernel
          have j11 : j2 = 11 := by
            rcases mt with ⟨y, -⟩ | ⟨-, y⟩
            · exact y
            · have f0 := y2.2.2.2.1.2
              rw [f0] at y
              exact absurd y.symm (ph_ne (by decide) (by have := w2.2.2.2.2.1.2; omega))
          rw [j11, t11] at x4
          have pN := y2.2.2.2.2.1.1
          refine kk S3 rr A2 C2 B2 Q2 P1 ND1 T x _ _ evx te0 (by omega) (by omega) (fun z => ⟨repR_S g5.1 (evS_T (A := A1) (C := C1) (B := B1) (Q := Q1) (P := P1) (ND := ND1) ev2) z, ea z⟩) ?_ ?_ ⟨by omega, by omega, by omega⟩ ⟨_, fg, tok.1, by rw [tok.2]; omega, by omega⟩ (gk_tr (gk_tr g5.2.2 (gk_T ev2) (by omega) (by omega) rfl) (gk_adv ra) (Int.le_refl _) (by omega) (by omega))
          · rw [s20, s13, s14, q9]
            exact BU_end g6 (by omega)
          · rw [s20]; omega
        · rw [a02, a12] at g
          exact kt X g
      have er2 : r1 = some (P1 i) := er
      by_cases c23 : jw = 23
      · rw [if_pos ((tok_eq hok jw33 (by omega)).mpr c23)]
        refine wq_gr (x := some (A2 5)) dcell rfl ?_
        refine wq_gr (x := some (A2 5)) dcell rfl ?_
        refine chkD v2 rfl ?_
        refine wq_call (watch_t v2 rc2 rfl (by omega) (sv := sv)) ?_
        rintro ⟨S4, r4⟩ ⟨A4, C4, Q4, el4, P4, ND4, i4, I4, v4, rc4, ev4, m4, er4, il4, T4, cv4⟩
        obtain ⟨T', pi⟩ := repC_ev hT cv (Nat.le_refl _) ev4
        refine chkD v4 (ev4.1 5 (by omega)) ?_
        refine wq_call (abort_t v4 rc4 (ev4.1 5 (by omega)) (by omega) T' T4 cv cv4 (by omega) (by omega) (by rw [er2, pi]) er4 (sv := sv)) ?_
        rintro ⟨S5, r5⟩ g
        refine ⟨_, rfl, Or.inl ⟨S5, r5, rfl, fin 10 S5 r5 (by omega) (by omega) ?_⟩⟩
        have k := g.up ev4 m4 (m := 10) (by omega)
        rw [show Tgd jw ln x sv T = Tabo ln sv T (Twat ln x sv) by unfold Tgd; rw [if_neg (by omega), if_pos c23]; rfl]
        exact k
      · rw [if_neg (fun z => c23 ((tok_eq hok jw33 (by omega)).mp z))]
        refine wq_gr (x := some (A2 5)) dcell rfl ?_
        refine chkD v2 rfl ?_
        refine wq_call (tested1_t v2 rc2 rfl (by omega) hT cv (by omega) er2) ?_
        rintro ⟨S4, r4⟩ g
        by_cases c12 : jw = 12
        · rw [if_pos ((tok_eq hok jw33 (by omega)).mpr c12)]
          refine ⟨_, rfl, Or.inl ⟨S4, r4, rfl, fin 1 S4 r4 (by omega) (by omega) ?_⟩⟩
          rw [show Tgd jw ln x sv T = Tsup ln x T by unfold Tgd; rw [if_pos c12]]
          exact g
        · rw [if_neg (fun z => c12 ((tok_eq hok jw33 (by omega)).mp z))]
          obtain ⟨A4, C4, Q4, el4, P4, ND4, i4, I4, v4, rc4, ev4, m4, er4, il4, T4, cv4⟩ := g
          have a04 : A4 0 = A 0 := (ev4.1 0 (by omega)).trans a02
          have er4 : r4 = some (P4 i4) := er4
          have dcell4 : hg_at S4.1 (A 0) = some (.inr (4, [.ref (A4 1), .ref (A4 3), .ref (A4 4), .ref (A4 5), .int (Q4 0), .int (Q4 1), .int (Q4 2)])) := by rw [← a04]; exact v4.pa
          refine wq_gr (x := some (A4 5)) dcell4 rfl ?_
          refine wq_gr (x := some (A4 5)) dcell4 rfl ?_
          refine chkD v4 rfl ?_
          refine wq_call (watch_t v4 rc4 rfl (by omega) (sv := sv)) ?_
          rintro ⟨S5, r5⟩ ⟨A5, C5, Q5, el5, P5, ND5, i5, I5, v5, rc5, ev5, m5, er5, il5, T5, cv5⟩
          obtain ⟨T4', pi⟩ := repC_ev T4 cv4 (Nat.le_refl _) ev5
          refine chkD v5 (ev5.1 5 (by omega)) ?_
          refine wq_call (abort_t v5 rc5 (ev5.1 5 (by omega)) (by omega) T4' T5 cv4 cv5 (by omega) (by omega) (by rw [er4, pi]) er5 (sv := sv)) ?_
          rintro ⟨S6, r6⟩ g
          refine ⟨_, rfl, Or.inl ⟨S6, r6, rfl, fin 11 S6 r6 (by omega) (by omega) ?_⟩⟩
          have k := g.up (evC_tr ev4 ev5) (m1 := 7) (m := 11) (by omega) (by omega)
          rw [show Tgd jw ln x sv T = Tabo ln sv (Tsup ln x T) (Twat ln x sv) by unfold Tgd; rw [if_neg c12, if_neg c23]; rfl]
          exact k
    · intro X g
      rw [a0, a1] at g
      exact Or.inr ⟨X, rfl, kt X (g.mono sk3)⟩
  · exact ⟨_, rfl, Or.inr ⟨X, rfl, kt X (g.mono sk1)⟩⟩
end GRD
