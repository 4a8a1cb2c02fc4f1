/-! advance, refuse, require of the parser beside the reference's reader -/
section ADVL
variable {G : hg_E} {sz t0 : Nat} {H0 : Nat → Option va_E} {K1 K2 n : Nat} {f : Nat → Int32} {S S' : hg_S} {A C : Nat → Nat} {B : Nat → Nat → Int32} {Q : Nat → Int32} {j : Nat} {el : Nat → Option Nat} {P : Nat → Nat} {ND : Nat → ndT} {M M' : md_S} {b u w : Int}
theorem RM.use (h : PV G t0 H0 K1 K2 n f S A C B Q j el P ND) (r : RM M C B n f Q j b u w) : K1 ≤ S.2.2.1 + 40 * n + 60 ∧ K2 ≤ S.2.2.2 + 170 * n + 140 := by
  obtain ⟨h1, h2⟩ := h.rm
  obtain ⟨-, -, -, -, ⟨⟨r1, r2, r3⟩, -⟩, -, -, -, -, ⟨⟨r4, r5, r6⟩, ⟨r7, r8, r9⟩, r10, r11⟩, ⟨-, r12⟩, ⟨-, r13⟩, ⟨-, r14⟩, r15⟩ := r
  constructor <;> omega
theorem thr_of (h : PV G t0 H0 K1 K2 n f S A C B Q j el P ND) (r : RM M C B n f Q j b u w) (hK : 40 * n + 70 ≤ K1 ∧ 200 * n + 400 ≤ K2) {X : hg_X} (h1 : X.2.2 = true) {tk : Option Nat} {a c l φ : Int32} (h2 : lxv G X.1 (A 1) (A 2) n f tk a c l φ) (h3 : X.1.2 = (S.2.1 + 1, S.2.2.1 - 1, S.2.2.2 - 6)) (h4 : ∀ b, b ≠ A 1 → hg_at X.1.1 b = hg_at S.1 b) (hφ : ¬ φ = 0) (hs : stk φ M') : thr t0 H0 K1 K2 n (A 0) (A 1) X M' := by
  have us := RM.use h r
  have l1 := h.st.1.lt h.lx.1
  have l2 := h.st.2.2.1 1 (by omega)
  refine ⟨h1, ⟨?_, ?_, ?_⟩, ?_, ⟨_, _, _, _, _, _, (h4 _ (h.st.2.1.ne (i := 0) (j := 1) (by omega) (by omega) (by omega))).trans h.pa⟩, φ, _, _, _, _, _, hφ, hs, h2.1⟩
  · intro b hb
    rw [h3] at hb
    have hb : S.2.1 + 1 ≤ b := hb
    rw [h4 b (by omega)]
    exact h.st.1 b (by omega)
  · rw [h3]
    have := h.st.2.2.2.2.2
    show t0 ≤ S.2.1 + 1
    omega
  · intro b hb
    rw [h4 b (by omega)]
    exact h.st.2.2.2.1 b hb
  · rw [h3]
    show K1 ≤ S.2.2.1 - 1 + 40 * n + 70 ∧ K2 ≤ S.2.2.2 - 6 + 170 * n + 200
    omega
theorem rf_l (h : PV G t0 H0 K1 K2 n f S A C B Q j el P ND) (r : RM M C B n f Q j b u w) (hK : 40 * n + 70 ≤ K1 ∧ 200 * n + 400 ≤ K2) {k : Int32} (hk : 1 ≤ k.toInt ∧ k.toInt ≤ 7) (hn : n ≤ 32768) (hs : stk (k + 8 * M.1 8) M') : dc_wp (hm_LX_refuse G S (A 1) k) (fun z => ∃ X : hg_X, z = .inr X ∧ thr t0 H0 K1 K2 n (A 0) (A 1) X M') := by
  have us := RM.use h r
  obtain ⟨z, ez, X, e1, e2, e3, e4, e5, e6⟩ := rf_w (k := k) h.lx (by omega) (by omega)
  refine ⟨z, ez, X, e1, ?_⟩
  have r5 := r.2.2.2.2.1
  have r3 := r.2.2.1
  rw [r3.2.2.1] at e4
  exact thr_of h r hK e2 e4 e5 e6 (ph_ne hk (by omega)) hs
/-- what stands behind an advance -/
def okA (G : hg_E) (t0 : Nat) (H0 : Nat → Option va_E) (K1 K2 n : Nat) (f : Nat → Int32) (S : hg_S) (A C : Nat → Nat) (B : Nat → Nat → Int32) (Q : Nat → Int32) (el : Nat → Option Nat) (P : Nat → Nat) (ND : Nat → ndT) (M : md_S) (u w : Int) (S' : hg_S) (M' : md_S) : Prop :=
  ∃ j', PV G t0 H0 K1 K2 n f S' A C B (q4 Q (M'.1 7) (M'.1 4) (M'.1 8) 0) j' el P ND ∧ RM M' C B n f (q4 Q (M'.1 7) (M'.1 4) (M'.1 8) 0) j' (M'.1 7).toInt u w ∧ radv M M' ∧ of1 S S' (A 1)
theorem tok_ln {p q : Nat} {k : Nat} (h : tokR f n p q (some k)) (hk : k < 33) : tln k + p ≤ q := by
  rcases h with ⟨-, e2, e3⟩ | ⟨e1, e2, ⟨i, i1, i2, i3, -⟩ | ⟨-, ⟨i1, i2⟩ | ⟨-, i2⟩⟩⟩
  · cases e3
    subst e2
    have : tln 32 = 0 := by decide +kernel
    omega
  · cases i2
    have : tln k = (hk_tx.getD k []).length := if_neg (by omega)
    have := i3.1
    omega
  · cases i2
    have : tln 31 = 1 := rfl
    rcases e2 with e2 | e2
    · omega
    · have := i1.1
      omega
  · cases i2
theorem adv_l (hok : lw_ok G sz) (h : PV G t0 H0 K1 K2 n f S A C B Q j el P ND) (r : RM M C B n f Q j b u w) (hK : 40 * n + 70 ≤ K1 ∧ 200 * n + 400 ≤ K2) (hq : mm_advance M = some M') : dc_wp (hm_LX_advance G S (A 1)) (fun z => (∃ S', z = .inl S' ∧ okA G t0 H0 K1 K2 n f S A C B Q el P ND M u w S' M') ∨ ∃ X : hg_X, z = .inr X ∧ thr t0 H0 K1 K2 n (A 0) (A 1) X M') := by
  have us := RM.use h r
  have r0 := r
  obtain ⟨r1, ⟨r2, r3, r4⟩, ⟨q3, q4', q5, q6⟩, ⟨l1, l2⟩, ⟨⟨p1, p2, p3⟩, p4, p5⟩, nm, tr, op, pi, ⟨⟨b1, b2, b3⟩, ⟨b4, b5, b6⟩, b7, b8⟩, cc⟩ := r
  have hn : n ≤ 32768 := by have := r1.1; omega
  obtain ⟨z, ez, a⟩ := adv_w hok h.lx (by rw [q4']; omega) (by rw [q4']; exact p3) (by omega) (by omega) (by omega)
  obtain ⟨Mx, ex, ra⟩ := radv_w (M := M) (by omega) (by have := r1.1; omega) (by have := r1.1; omega)
  have eM : Mx = M' := Option.some.inj (ex.symm.trans hq)
  subst eM
  refine ⟨z, ez, ?_⟩
  have ra0 := ra
  obtain ⟨m1, m2, m3, m4, ⟨m5, m6, m7⟩, m8, m9⟩ := ra
  obtain ⟨⟨t1, t2, t3⟩, t4, t5⟩ := r1
  have ab := adv_pure (S := S) ⟨⟨t1, t2, t3⟩, t4, t5⟩ (q4'.symm) (l1.trans q5.symm) (by rw [q4']; omega) a ra0
  obtain ⟨p, q, l, k, ⟨a1, a2, a3⟩, a4, a5, a6⟩ := a
  have m8' := m8
  rw [← t3] at m8
  rw [← gp_congr t4, l1] at m8
  have ln := gp_ln _ _ _ _ _ _ m8 (by omega) (by omega)
  rcases ab.2 with ⟨S', j', g1, g2, g3, g4, g5⟩ | ⟨X, q', g1, g2, g3, g4, g5, g6, g7⟩
  · left
    refine ⟨S', g1, j', ?_, ?_, ra0, g4⟩
    · have := PV_lx h g4 g3
      rw [q6] at this
      exact this
    · have ek : tln j' + (Mx.1 7).toInt.toNat ≤ (Mx.1 4).toInt.toNat := by
        cases k with
        | none =>
          obtain ⟨X, x1, -⟩ := a6
          rw [g1] at x1
          cases x1
        | some jj =>
          obtain ⟨x1, S2, x2, x3, x4⟩ := a6
          rw [g1] at x2
          have eS : S' = S2 := Sum.inl.inj x2
          subst eS
          have ee := g3.1.symm.trans x3.1
          have hl : ([.ref (A 2), va_rf (some (G.2.1 j')), .int (Mx.1 7), .int (Mx.1 4), .int (Mx.1 8), .int (Q 6)] : List Value) = [.ref (A 2), va_rf (some (G.2.1 jj)), .int p, .int q, .int l, .int (Q 6)] := by
            have := Option.some.inj ee
            have := Sum.inr.inj this
            exact (Prod.mk.inj this).2
          have hl1 := (List.cons.inj hl).2
          have hl2 := List.cons.inj hl1
          have hl3 := List.cons.inj hl2.2
          have hl4 := List.cons.inj hl3.2
          have e1 : G.2.1 j' = G.2.1 jj := Value.ref.inj hl2.1
          have e2 : Mx.1 7 = p := Value.int.inj hl3.1
          have e3 : Mx.1 4 = q := Value.int.inj hl4.1
          have e4 : j' = jj := hok.1 _ _ g2 x1 e1
          subst e4 e2 e3
          have := tok_ln a5 x1
          omega
      have s6 : Mx.1 10 = 0 := (m1 10 (by omega) (by omega) (by omega) (by omega) (by omega)).trans l2
      have s15 := m1 15 (by omega) (by omega) (by omega) (by omega) (by omega)
      have s18 := m1 18 (by omega) (by omega) (by omega) (by omega) (by omega)
      have s19 := m1 19 (by omega) (by omega) (by omega) (by omega) (by omega)
      have s11 := m1 11 (by omega) (by omega) (by omega) (by omega) (by omega)
      have s12 := m1 12 (by omega) (by omega) (by omega) (by omega) (by omega)
      have s28 := m1 28 (by omega) (by omega) (by omega) (by omega) (by omega)
      have s2 := m1 2 (by omega) (by omega) (by omega) (by omega) (by omega)
      refine ⟨⟨⟨by rw [s2]; exact t1, by rw [s2]; exact t2, by rw [s2]; exact t3⟩, by rw [m2]; exact t4, t5⟩, ⟨g2, g5, by omega⟩, ⟨rfl, rfl, rfl, rfl⟩, ⟨m4.symm, s6⟩, ⟨⟨by omega, by omega, by omega⟩, by omega, by omega⟩, ?_, ?_, ?_, ?_, ?_, ?_, cc.2.1, cc.2.2⟩
      · rw [s15, s18, m2]; exact nm
      · rw [s19, s11, m2]; exact tr
      · rw [s11]; exact op
      · rw [s12, s28, s15, m2]; exact pi
      · rw [s15]
        exact ⟨⟨m6, by omega, by show (Q 9).toInt ≤ _; omega⟩, ⟨b4, b5, by omega⟩, b7, by omega⟩
      · rw [s15]; exact cc.1
  · right
    refine ⟨X, g1, ?_⟩
    refine thr_of h r0 hK g2 g4 g5 g6 (ph_ne (k := 1) (by decide) (by omega)) ?_
    refine Or.inr ⟨(m1 10 (by omega) (by omega) (by omega) (by omega) (by omega)).trans l2, g7, rfl⟩
end ADVL
