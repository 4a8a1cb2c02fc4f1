/-! the first look and the first token; the lists of a program; the program whole -/
section PRG2
variable {G : hg_E} {sz t0' : Nat} {H0 : Nat → Option va_E} {K1 K2 n : Nat} {f : Nat → Int32} {S : hg_S} {A C : Nat → Nat} {B : Nat → Nat → Int32} {Q : Nat → Int32} {j : Nat} {el : Nat → Option Nat} {P : Nat → Nat} {ND : Nat → ndT} {M M' : md_S} {b u w : Int}
/-- an advance, by what it comes to on both sides -/
theorem adv_z (hok : lw_ok G sz) (h : PV G t0' H0 K1 K2 n f S A C B Q j el P ND) (r : RM M C B n f Q j b u w) (hK : 40 * n + 70 ≤ K1 ∧ 200 * n + 400 ≤ K2) {z : hg_S ⊕ hg_X} (a : advP G S (A 1) (A 2) n f (Q 4) (Q 5) (Q 6) z) (ra : radv M M') : (∃ S', z = .inl S' ∧ okA G t0' H0 K1 K2 n f S A C B Q el P ND M u w S' M') ∨ ∃ X : hg_X, z = .inr X ∧ thr t0' H0 K1 K2 n (A 0) (A 1) X M' := by
  have us := RM.use h r
  have r0 := r
  obtain ⟨r1, ⟨r2, r3, r4⟩, ⟨q3, q4', q5, q6⟩, ⟨l1, l2⟩, ⟨⟨p1, p2, p3⟩, p4, p5⟩, nm, tr, op, pi, ⟨⟨b1, b2, b3⟩, ⟨b4, b5, b6⟩, b7, b8⟩, cc⟩ := r
  have hn : n ≤ 32768 := by have := r1.1; omega
  have ra0 := ra
  obtain ⟨m1, m2, m3, m4, ⟨m5, m6, m7⟩, m8, m9⟩ := ra
  obtain ⟨⟨t1, t2, t3⟩, t4, t5⟩ := r1
  have ab := adv_pure (S := S) ⟨⟨t1, t2, t3⟩, t4, t5⟩ (q4'.symm) (l1.trans q5.symm) (by rw [q4']; omega) a ra0
  obtain ⟨p, q, l, k, ⟨a1, a2, a3⟩, a4, a5, a6⟩ := a
  have m8' := m8
  rw [← t3] at m8
  rw [← gp_congr t4, l1] at m8
  have ln := gp_ln _ _ _ _ _ _ m8 (by omega) (by omega)
  rcases ab.2 with ⟨S', j', g1, g2, g3, g4, g5⟩ | ⟨X, q', g1, g2, g3, g4, g5, g6, g7⟩
  · left
    refine ⟨S', g1, j', ?_, ?_, ra0, g4⟩
    · have := PV_lx h g4 g3
      rw [q6] at this
      exact this
    · have ek : tln j' + (M'.1 7).toInt.toNat ≤ (M'.1 4).toInt.toNat := by
        cases k with
        | none =>
          obtain ⟨X, x1, -⟩ := a6
          rw [g1] at x1
          cases x1
        | some jj =>
          obtain ⟨x1, S2, x2, x3, x4⟩ := a6
          rw [g1] at x2
          have eS : S' = S2 := Sum.inl.inj x2
          subst eS
          have ee := g3.1.symm.trans x3.1
          have hl : ([.ref (A 2), va_rf (some (G.2.1 j')), .int (M'.1 7), .int (M'.1 4), .int (M'.1 8), .int (Q 6)] : List Value) = [.ref (A 2), va_rf (some (G.2.1 jj)), .int p, .int q, .int l, .int (Q 6)] := by
            have := Option.some.inj ee
            have := Sum.inr.inj this
            exact (Prod.mk.inj this).2
          have hl1 := (List.cons.inj hl).2
          have hl2 := List.cons.inj hl1
          have hl3 := List.cons.inj hl2.2
          have hl4 := List.cons.inj hl3.2
          have e1 : G.2.1 j' = G.2.1 jj := Value.ref.inj hl2.1
          have e2 : M'.1 7 = p := Value.int.inj hl3.1
          have e3 : M'.1 4 = q := Value.int.inj hl4.1
          have e4 : j' = jj := hok.1 _ _ g2 x1 e1
          subst e4 e2 e3
          have := tok_ln a5 x1
          omega
      have s6 : M'.1 10 = 0 := (m1 10 (by omega) (by omega) (by omega) (by omega) (by omega)).trans l2
      have s15 := m1 15 (by omega) (by omega) (by omega) (by omega) (by omega)
      have s18 := m1 18 (by omega) (by omega) (by omega) (by omega) (by omega)
      have s19 := m1 19 (by omega) (by omega) (by omega) (by omega) (by omega)
      have s11 := m1 11 (by omega) (by omega) (by omega) (by omega) (by omega)
      have s12 := m1 12 (by omega) (by omega) (by omega) (by omega) (by omega)
      have s28 := m1 28 (by omega) (by omega) (by omega) (by omega) (by omega)
      have s2 := m1 2 (by omega) (by omega) (by omega) (by omega) (by omega)
      refine ⟨⟨⟨by rw [s2]; exact t1, by rw [s2]; exact t2, by rw [s2]; exact t3⟩, by rw [m2]; exact t4, t5⟩, ⟨g2, g5, by omega⟩, ⟨rfl, rfl, rfl, rfl⟩, ⟨m4.symm, s6⟩, ⟨⟨by omega, by omega, by omega⟩, by omega, by omega⟩, ?_, ?_, ?_, ?_, ?_, ?_, cc.2.1, cc.2.2⟩
      · rw [s15, s18, m2]; exact nm
      · rw [s19, s11, m2]; exact tr
      · rw [s11]; exact op
      · rw [s12, s28, s15, m2]; exact pi
      · rw [s15]
        exact ⟨⟨m6, by omega, by show (Q 9).toInt ≤ _; omega⟩, ⟨b4, b5, by omega⟩, b7, by omega⟩
      · rw [s15]; exact cc.1
  · right
    refine ⟨X, g1, ?_⟩
    refine thr_of h r0 hK g2 g4 g5 g6 (ph_ne (k := 1) (by decide) (by omega)) ?_
    refine Or.inr ⟨(m1 10 (by omega) (by omega) (by omega) (by omega) (by omega)).trans l2, g7, rfl⟩
/-- what a program's reading comes to -/
def prO (G : hg_E) (t0 : Nat) (H0 : Nat → Option va_E) (K1 K2 n : Nat) (f : Nat → Int32) (A : Nat → Nat) (S' : hg_S) (q : md_S × Int32) : Prop :=
  ∃ A' C' B' Q' j' el' P' ND' T i I u w p0 l0, PV G t0 H0 K1 K2 n f S' A' C' B' Q' j' el' P' ND' ∧ RM q.1 C' B' n f Q' j' (q.1.1 7).toInt u w ∧ (∀ k, k < 8 → A' k = A k) ∧ (i + 1 = (Q' 12).toInt.toNat ∧ repC ND' T i I ∧ cov I 0 (Q' 12).toInt.toNat) ∧ ((q.1.1 12 = 0 → repR q.1 T q.2) ∧ FG (pOk (B' 6) (B' 7) (B' 9) 0 (Q' 11).toInt) (B' 9) (fun y => 0 ≤ y.toInt ∧ y.toInt < (q.1.1 16).toInt + (q.1.1 17).toInt) T 80026 (Q' 11).toInt ((q.1.1 16).toInt + (q.1.1 17).toInt) (q.1.1 15).toInt ∧ ((tsz T : Int) ≤ 1200 → (Q' 11).toInt ≤ 1000 → q.1.1 12 = 0) ∧ 0 ≤ (q.1.1 16).toInt ∧ 0 ≤ (q.1.1 17).toInt) ∧ BU [] 0 0 32768 l0 p0 T (q.1.1 29) (q.1.1 20) (Q' 9) (q.1.1 13) (q.1.1 14) (q.1.1 7).toInt ∧ Q' 0 = q.1.1 16 ∧ Q' 1 = q.1.1 17
/-- where the lists of a program stand -/
def iP (G : hg_E) (t0 : Nat) (H0 : Nat → Option va_E) (K1 K2 n : Nat) (f : Nat → Int32) (A0 : Nat → Nat) (S : hg_S) (A C : Nat → Nat) (B : Nat → Nat → Int32) (Q : Nat → Int32) (j : Nat) (el : Nat → Option Nat) (P : Nat → Nat) (ND : Nat → ndT) (M : md_S) : Prop :=
  PV G t0 H0 K1 K2 n f S A C B Q j el P ND ∧ RM M C B n f Q j (M.1 7).toInt 0 0 ∧ (∀ k, k < 8 → A k = A0 k) ∧ LR 0 0 (M.1 15) (M.1 18) (B 2) ∧ (M.1 19 = 0 ∧ M.1 20 = 0 ∧ M.1 13 = 32768 ∧ M.1 11 = 0 ∧ M.1 12 = 0 ∧ M.1 27 = 0) ∧ Q 9 = 0
theorem L224_sk {y : Int32} {q : md_S × Int32} {φ : Int32} (hφ : ¬ φ = 0) (hs : stk φ M) (hq : mm_program_L224 M y = some q) : stk φ q.1 := by
  delta mm_program_L224 at hq
  rcases iv_if hq with ⟨-, y⟩ | ⟨-, y⟩
  · have y := (Option.some.inj y).symm
    subst y
    exact hs
  · obtain ⟨Mf, ef, y⟩ := iv_bind y
    have y := (Option.some.inj y).symm
    subst y
    exact mm_fail_sk hφ _ _ _ rfl rfl hs _ ef
theorem L196_sk {q : md_S × Int32} {φ : Int32} (hφ : ¬ φ = 0) (hs : stk φ M) (hq : mm_program_L196 M = some q) : stk φ q.1 := by
  have s1 : stk φ (md_i M 17 (M.1 15 - M.1 16)) := stk_i (by omega) (by omega) (by omega) hs
  have hq : (if (0 : Int32) < (md_i M 17 (M.1 15 - M.1 16)).1 10 then (mm_program_L224 (md_i M 17 (M.1 15 - M.1 16)) 0) else ((mm_body_r (md_i M 17 (M.1 15 - M.1 16))).bind fun q3 => mm_program_L224 q3.1 q3.2)) = some q := hq
  rcases iv_if hq with ⟨-, y⟩ | ⟨-, y⟩
  · exact L224_sk hφ s1 y
  · obtain ⟨q3, e3, y⟩ := iv_bind y
    exact L224_sk hφ (mm_body_r_sk hφ _ s1 _ e3) y
/-- a list, if there is one, and what stands behind it -/
theorem lst_l (hok : lw_ok G sz) (hK : 40 * n + 70 ≤ K1 ∧ 200 * n + 400 ≤ K2) {A0 : Nat → Nat} {i : Nat} (hi : i < 2) {wd : Int64} (hw : wd = kw.getD i 0) {KC : hg_S → Option (hg_S ⊕ hg_X)} {KR : md_S → Option (md_S × Int32)} {Φ : hg_S → md_S × Int32 → Prop} {q : md_S × Int32}
    (hip : iP G t0' H0 K1 K2 n f A0 S A C B Q j el P ND M)
    (hsk : ∀ φ, ¬ φ = 0 → ∀ M', stk φ M' → KR M' = some q → stk φ q.1)
    (hk : ∀ S' A' C' B' Q' j' M', iP G t0' H0 K1 K2 n f A0 S' A' C' B' Q' j' el P ND M' → ((M.1 15).toInt ≤ (M'.1 15).toInt ∧ M'.1 16 = M.1 16 ∧ Q' 0 = Q 0) → KR M' = some q → dc_wp (KC S') (fun z => (∃ S2, z = .inl S2 ∧ Φ S2 q) ∨ ∃ X : hg_X, z = .inr X ∧ thr t0' H0 K1 K2 n (A0 0) (A0 1) X q.1))
    (hq : (mm_meetsWord M wd).bind (fun q5 => if q5.2 = 0 then KR q5.1 else ((mm_list q5.1 0).bind fun q6 => (mm_meetsSign q6 59).bind fun q7 => if q7.2 = 0 then ((mm_fail q7.1 1 (q7.1.1 8)).bind fun q8 => KR q8) else (KR q7.1))) = some q) :
    dc_wp ((hg_gr S (some (A0 0)) 4 0).bind fun e39 => (hg_gr S e39 2 1).bind fun e40 => if e40 = (some (G.2.1 i)) then ((hg_gr S (some (A0 0)) 4 0).bind fun e41 => (hg_chk S e41 2).bind fun b42 => (hm_LX_advance G S b42).bind (Sum.elim (fun q45 => (hg_chk q45 (some (A0 0)) 4).bind fun b46 => (hm_PA_takeNames G q45 b46 (0 : Int32)).bind (Sum.elim (fun q49 => (hg_chk q49 (some (A0 0)) 4).bind fun b50 => (hm_PA_take G q49 b50 (some (G.2.1 26))).bind (Sum.elim (fun q53 => KC q53) (fun z => some (Sum.inr z)))) (fun z => some (Sum.inr z)))) (fun z => some (Sum.inr z)))) else (KC S))
      (fun z => (∃ S2, z = .inl S2 ∧ Φ S2 q) ∨ ∃ X : hg_X, z = .inr X ∧ thr t0' H0 K1 K2 n (A0 0) (A0 1) X q.1) := by
  have hip0 := hip
  obtain ⟨h, r, hA, lr, ⟨e19, e20, e13, e11, e12, e27⟩, e9⟩ := hip
  have a0 : A0 0 = A 0 := (hA 0 (by omega)).symm
  have a1 : A0 1 = A 1 := (hA 1 (by omega)).symm
  have r2 := r.2.1
  have f0 := r.2.2.2.1.2
  have pp := r.2.2.2.2.1.1
  have bb := r.2.2.2.2.2.2.2.2.2.1.1
  obtain ⟨q5, e5, hq⟩ := iv_bind hq
  rcases meetsW_i r2.2.1 f0 (by omega) hw e5 with ⟨ej, eq5, ea⟩ | ⟨ej, rfl⟩
  · rw [eq5, if_neg (by decide)] at hq
    obtain ⟨q6, e6, hq⟩ := iv_bind hq
    obtain ⟨q7, e7, hq⟩ := iv_bind hq
    have s7 : ∀ φ, ¬ φ = 0 → stk φ q7.1 → stk φ q.1 := by
      intro φ hφ hs
      rcases iv_if hq with ⟨-, y⟩ | ⟨-, y⟩
      · obtain ⟨q8, e8, y⟩ := iv_bind y
        exact hsk φ hφ _ (mm_fail_sk hφ _ _ _ rfl rfl hs _ e8) y
      · exact hsk φ hφ _ hs y
    have s6 : ∀ φ, ¬ φ = 0 → stk φ q6 → stk φ q.1 := fun φ hφ hs => s7 φ hφ (mm_meetsSign_sk hφ _ _ 0 (by decide) (by decide) hs _ e7)
    rw [a0, a1]
    refine wq_gr (x := some (A 1)) h.pa rfl ?_
    refine wq_gr (x := some (G.2.1 j)) h.lx.1 rfl ?_
    rw [if_pos ((tok_eq hok r2.1 (by omega)).mpr ej)]
    refine wq_gr (x := some (A 1)) h.pa rfl ?_
    refine wq_chk h.lx.1 ?_
    refine wq_call (adv_l hok h r hK ea) ?_
    rintro zz (⟨S1, rfl, j1, v1, w1, ra1, of1'⟩ | ⟨X, rfl, g⟩)
    · have m1 := fun k (d : ¬ (4 ≤ k ∧ k ≤ 8)) => ra1.1 k (by omega) (by omega) (by omega) (by omega) (by omega)
      have k15 : q5.1.1 15 = M.1 15 := m1 15 (by omega)
      have k18 : q5.1.1 18 = M.1 18 := m1 18 (by omega)
      have c1 : (M.1 4).toInt ≤ (q5.1.1 7).toInt := ra1.2.2.2.2.1.1
      have tl : (1 : Int) ≤ (tln j : Int) := by
        rw [ej]
        have : i = 0 ∨ i = 1 := by omega
        rcases this with rfl | rfl
        · decide
        · decide
      show dc_wp ((hg_chk S1 (some (A 0)) 4).bind _) _
      refine wq_chk v1.pa ?_
      refine wq_call (names_l hok v1 w1 (Int.le_refl _) hK (st := 0) (low := 0) (by rw [k15, k18]; exact lr) (by rw [k15]; omega) e6) ?_
      rintro zz (⟨S2, rfl, A2, C2, B2, Q2, j2, v2, w2, lr2, ev2, ep2, en2, ec2⟩ | ⟨X, rfl, g⟩)
      · have b0 : A2 0 = A 0 := ev2.1 0 (by omega)
        have b1 : A2 1 = A 1 := ev2.1 1 (by omega)
        have ms := meetsS_i (i := 0) (p := 59) w2.2.1.2.1 w2.2.2.2.1.2 (by decide) (by decide) e7
        have n2 := fun k (d : ¬ (4 ≤ k ∧ k ≤ 8)) (d1 : ¬ k = 15) (d2 : ¬ k = 18) => (ev2.2.2.2.2.1 k d d1 d2).trans (m1 k d)
        have mt : (j2 = 26 ∧ mm_advance q6 = some q7.1) ∨ (¬ j2 = 26 ∧ (md_i q6 10 (1 + 8 * q6.1 8)).1 10 = 1 + 8 * q6.1 8) := by
          rcases ms with ⟨x1, -, x3⟩ | ⟨x1, -⟩
          · exact Or.inl ⟨x1, x3⟩
          · exact Or.inr ⟨x1, md_ii⟩
        show dc_wp ((hg_chk S2 (some (A 0)) 4).bind _) _
        rw [← b0, ← b1]
        refine wq_chk v2.pa ?_
        rcases ms with ⟨x1, x2, x3⟩ | ⟨x1, x2⟩
        · rw [x2, if_neg (by decide)] at hq
          refine wq_call (take_l hok v2 w2 hK (i := 26) (by decide) (Or.inl ⟨x1, x3⟩)) ?_
          rintro zz (⟨-, S3, rfl, j3, v3, w3, ra3, of3⟩ | ⟨X, rfl, g⟩)
          · have m3 := fun k (d : ¬ (4 ≤ k ∧ k ≤ 8)) => ra3.1 k (by omega) (by omega) (by omega) (by omega) (by omega)
            have z19 : q7.1.1 19 = 0 := (m3 19 (by omega)).trans ((n2 19 (by omega) (by omega) (by omega)).trans e19)
            have z20 : q7.1.1 20 = 0 := (m3 20 (by omega)).trans ((n2 20 (by omega) (by omega) (by omega)).trans e20)
            have z13 : q7.1.1 13 = 32768 := (m3 13 (by omega)).trans ((n2 13 (by omega) (by omega) (by omega)).trans e13)
            have z11 : q7.1.1 11 = 0 := (m3 11 (by omega)).trans ((n2 11 (by omega) (by omega) (by omega)).trans e11)
            have z12 : q7.1.1 12 = 0 := (m3 12 (by omega)).trans ((n2 12 (by omega) (by omega) (by omega)).trans e12)
            have z27 : q7.1.1 27 = 0 := (m3 27 (by omega)).trans ((n2 27 (by omega) (by omega) (by omega)).trans e27)
            have z16 : q7.1.1 16 = M.1 16 := (m3 16 (by omega)).trans (n2 16 (by omega) (by omega) (by omega))
            have z15 : q7.1.1 15 = q6.1 15 := m3 15 (by omega)
            have z18 : q7.1.1 18 = q6.1 18 := m3 18 (by omega)
            have y9 : Q2 9 = Q 9 := ev2.2.2.2.1 9 (by omega)
            have y0 : Q2 0 = Q 0 := ev2.2.2.2.1 0 (by omega)
            rw [b0, b1, ← a0, ← a1]
            refine hk S3 A2 C2 B2 (q4 Q2 (q7.1.1 7) (q7.1.1 4) (q7.1.1 8) 0) j3 q7.1 ⟨v3, w3, fun k hk => (ev2.1 k (by omega)).trans (hA k hk), ?_, ⟨z19, z20, z13, z11, z12, z27⟩, y9.trans e9⟩ ⟨by rw [z15]; rw [k15] at en2; omega, z16, y0⟩ hq
            rw [z15, z18]
            exact lr2
          · exact ⟨_, rfl, Or.inr ⟨X, rfl, g.mono (fun φ hφ hs => hsk φ hφ _ hs hq)⟩⟩
        · refine wq_call (take_l hok v2 w2 hK (i := 26) (by decide) (Or.inr ⟨x1, md_ii (S := q6) (k := 10) (v := 1 + 8 * q6.1 8)⟩)) ?_
          have e7' := x2
          rintro zz (⟨x3, -⟩ | ⟨X, rfl, g⟩)
          · exact absurd x3 x1
          · refine ⟨_, rfl, Or.inr ⟨X, rfl, g.mono (fun φ hφ hs => ?_)⟩⟩
            rw [e7', if_pos rfl] at hq
            obtain ⟨q8, e8, hq⟩ := iv_bind hq
            have ef := fail_i w2.2.2.2.1.2 e8
            rw [ef] at hq
            exact hsk φ hφ _ hs hq
      · exact ⟨_, rfl, Or.inr ⟨X, rfl, g.mono s6⟩⟩
    · exact ⟨_, rfl, Or.inr ⟨X, rfl, g.mono (fun φ hφ hs => s6 φ hφ (mm_list_sk hφ _ _ hs _ e6))⟩⟩
  · have hq : KR M = some q := hq
    rw [a0, a1]
    refine wq_gr (x := some (A 1)) h.pa rfl ?_
    refine wq_gr (x := some (G.2.1 j)) h.lx.1 rfl ?_
    rw [if_neg (fun z => ej ((tok_eq hok r2.1 (by omega)).mp z))]
    rw [← a0, ← a1]
    exact hk S A C B Q j M hip0 ⟨Int.le_refl _, rfl, rfl⟩ hq
/-- the list of outputs, the body, the end -/
theorem prog_out (hok : lw_ok G sz) (hK : 40 * n + 70 ≤ K1 ∧ 200 * n + 400 ≤ K2) {A0 : Nat → Nat} {q : md_S × Int32} (hip : iP G t0' H0 K1 K2 n f A0 S A C B Q j el P ND M) (hq : mm_program_L155 M = some q) : dc_wp (hm_PA_takeProgram_L39 G S (A0 0)) (fun z => (∃ S2, z = .inl S2 ∧ prO G t0' H0 K1 K2 n f A0 S2 q) ∨ ∃ X : hg_X, z = .inr X ∧ thr t0' H0 K1 K2 n (A0 0) (A0 1) X q.1) := by
  obtain ⟨h, r, hA, lr, ⟨e19, e20, e13, e11, e12, e27⟩, e9⟩ := hip
  have a0 : A 0 = A0 0 := hA 0 (by omega)
  have q7 : Q 7 = M.1 15 := r.2.2.2.2.2.1.1.1
  have nb := r.2.2.2.2.2.1.2.1
  have v1 := PV_pa (i := 0) (v := M.1 15) h (by omega)
  have r1 := RM_16 (v := M.1 15) (v' := M.1 15) r
  have hpa := h.pa
  rw [a0] at hpa
  delta hm_PA_takeProgram_L39
  refine wq_gr (x := some (A 3)) hpa rfl ?_
  refine wq_gi (x := Q 7) h.sn.1 rfl ?_
  refine wq_pf hpa (show 4 < 7 by decide) ?_
  rw [q7]
  have v1' : PV G t0' H0 K1 K2 n f (hu S (A0 0) (.inr (4, [.ref (A 1), .ref (A 3), .ref (A 4), .ref (A 5), .int (M.1 15), .int (Q 1), .int (Q 2)]))) A C B (q1 Q 0 (M.1 15)) j el P ND := by
    rw [← a0]
    exact v1
  have ip1 : iP G t0' H0 K1 K2 n f A0 (hu S (A0 0) (.inr (4, [.ref (A 1), .ref (A 3), .ref (A 4), .ref (A 5), .int (M.1 15), .int (Q 1), .int (Q 2)]))) A C B (q1 Q 0 (M.1 15)) j el P ND (md_i M 16 (M.1 15)) := ⟨v1', r1, hA, lr, ⟨e19, e20, e13, e11, e12, e27⟩, e9⟩
  have hq : (mm_meetsWord (md_i M 16 (M.1 15)) 7304564).bind (fun q5 => if q5.2 = 0 then mm_program_L196 q5.1 else ((mm_list q5.1 0).bind fun q6 => (mm_meetsSign q6 59).bind fun q7 => if q7.2 = 0 then ((mm_fail q7.1 1 (q7.1.1 8)).bind fun q8 => mm_program_L196 q8) else (mm_program_L196 q7.1))) = some q := hq
  refine lst_l hok hK (i := 1) (by omega) (by decide) (KC := fun S => hm_PA_takeProgram_L82 G S (A0 0)) (KR := mm_program_L196) (Φ := fun S2 q => prO G t0' H0 K1 K2 n f A0 S2 q) ip1 (fun φ hφ M' hs hq => L196_sk hφ hs hq) ?_ hq
  intro S' A' C' B' Q' j' M' ip ⟨g1, g2, g3⟩ hq
  obtain ⟨h, r, hA, lr, ⟨e19, e20, e13, e11, e12, e27⟩, e9⟩ := ip
  have a0 : A0 0 = A' 0 := (hA 0 (by omega)).symm
  have a1 : A0 1 = A' 1 := (hA 1 (by omega)).symm
  have pp := r.2.2.2.2.1.1
  have g2 : M'.1 16 = M.1 15 := g2
  have g3 : Q' 0 = M.1 15 := g3
  have eE : eM B' M' = [] := by
    show envP (B' 5) (M'.2.1 26) (M'.1 19).toInt.toNat = []
    rw [e19]
    rfl
  have b12 := r.2.2.2.2.2.2.2.2.2.1.2.1
  have q12 : (Q' 12).toInt.toNat = 0 := by omega
  have rs : RS M' B' Q' := by
    unfold RS
    rw [eE, e20, e9, e13, g2, g3]
    exact ⟨⟨⟨by decide, by decide⟩, by decide, fun p hp => absurd hp (by simp), List.nodup_nil, List.nodup_nil⟩, Or.inr rfl, by rw [il_0]; omega, rfl, by omega⟩
  rw [a0, a1]
  refine dc_mono (prog_tl hok hK h r (Int.le_refl _) rs hq) ?_
  rintro z (⟨S2, r2, rfl, A2, C2, B2, Q2, j2, el2, P2, ND2, T, i, I, v2, w2, ev2, ⟨er, ei, hT, cv⟩, ⟨hR, fb, gk⟩, bu, -, -⟩ | g)
  · have x16 : q.1.1 16 = M'.1 16 := ev2.2.2.1.2.2.1
    have x17 : q.1.1 17 = M'.1 15 - M'.1 16 := ev2.2.2.1.2.2.2.1
    have g1 : (M.1 15).toInt ≤ (M'.1 15).toInt := g1
    have nb' := r.2.2.2.2.2.1.2.1
    have g2i : (M'.1 16).toInt = (M.1 15).toInt := by rw [g2]
    have b15 := r.2.2.2.2.2.2.2.2.2.1.1
    have hn : (n : Int) ≤ 32768 := by have := r.1.1; omega
    have v17 : (M'.1 15 - M'.1 16).toInt = (M'.1 15).toInt - (M'.1 16).toInt := i_subS (by omega)
    have q11a := r.2.2.2.2.2.2.2.2.2.1.2.2.1
    have q11b := r.2.2.2.2.2.2.2.2.1.1.1
    have lrb := lr.1
    rw [il_0] at lrb
    left
    refine ⟨S2, rfl, A2, C2, B2, Q2, j2, el2, P2, ND2, T, i, I, _, _, (M'.1 7).toInt, M'.1 14, v2, w2, fun k hk => (ev2.1 k hk).trans (hA k hk), ⟨ei, hT, ?_⟩, ⟨hR, ?_, ?_, by rw [x16]; omega, by rw [x17, v17]; omega⟩, ?_, ?_, ?_⟩
    · have cv : cov I (Q' 12).toInt.toNat (Q2 12).toInt.toNat := cv
      rw [q12] at cv
      exact cv
    · obtain ⟨t, L, f1, f2, f3, f4⟩ := fb
      have f1 : FU (pOk (B2 6) (B2 7) (B2 9) (Q' 11).toInt (Q2 11).toInt) (B2 9) (sV B' M') T (100 * (2 * hm_d2) + (26 - (M'.1 11).toInt).toNat) t L := f1
      rw [e11] at f1
      have f2 : (Q2 11).toInt - (Q' 11).toInt ≤ t ∧ t ≤ 3 * ((Q2 11).toInt - (Q' 11).toInt) := f2
      have f3 : ∀ y, y ∈ L → (M'.1 15).toInt ≤ y.toInt ∧ y.toInt < (q.1.1 15).toInt := f3
      rw [x16, x17, v17]
      refine ⟨t, L, (FU_ext (fun _ _ => ⟨rfl, rfl, rfl⟩) q11b (Int.le_refl _) (fun y hy => ?_) f1).up (by decide), by omega, fun y hy => ?_, f4⟩
      · obtain ⟨k, k1, k2⟩ := hy
        have z := lr.2 k (by rw [il_0]; omega) k1
        rw [k2, il_0] at z
        omega
      · have := f3 y hy
        omega
    · intro t1 t2
      have e12' : (md_i M' 17 (M'.1 15 - M'.1 16)).1 12 = 0 := e12
      have e27' : (md_i M' 17 (M'.1 15 - M'.1 16)).1 27 = 0 := e27
      exact (gk e12' (by rw [e27', il_0]; omega) t2).1
    · have bu : BU (eM B' M') (M'.1 20) (Q' 9) (M'.1 13) (M'.1 14) (M'.1 7).toInt T (q.1.1 29) (q.1.1 20) (Q2 9) (q.1.1 13) (q.1.1 14) (q.1.1 7).toInt := bu
      rw [eE, e20, e9, e13] at bu
      exact bu
    · have x1 : Q2 0 = Q' 0 := ev2.2.1.1
      have x2 : q.1.1 16 = M'.1 16 := ev2.2.2.1.2.2.1
      rw [x1, x2, g2, g3]
    · have x1 : Q2 1 = M'.1 15 - M'.1 16 := ev2.2.1.2.1
      have x2 : q.1.1 17 = M'.1 15 - M'.1 16 := ev2.2.2.1.2.2.2.1
      rw [x1, x2]
  · exact Or.inr g
end PRG2
section PRG3
variable {G : hg_E} {sz t0' : Nat} {H0 : Nat → Option va_E} {K1 K2 n : Nat} {f : Nat → Int32} {S : hg_S} {A C : Nat → Nat} {B : Nat → Nat → Int32} {Q : Nat → Int32} {el : Nat → Option Nat} {P : Nat → Nat} {ND : Nat → ndT} {M : md_S}
theorem L155_sk {q : md_S × Int32} {φ : Int32} (hφ : ¬ φ = 0) (hs : stk φ M) (hq : mm_program_L155 M = some q) : stk φ q.1 := by
  have s1 : stk φ (md_i M 16 (M.1 15)) := stk_i (by omega) (by omega) (by omega) hs
  have hq : (mm_meetsWord (md_i M 16 (M.1 15)) 7304564).bind (fun q5 => if q5.2 = 0 then mm_program_L196 q5.1 else ((mm_list q5.1 0).bind fun q6 => (mm_meetsSign q6 59).bind fun q7 => if q7.2 = 0 then ((mm_fail q7.1 1 (q7.1.1 8)).bind fun q8 => mm_program_L196 q8) else (mm_program_L196 q7.1))) = some q := hq
  obtain ⟨q5, e5, hq⟩ := iv_bind hq
  have s5 := mm_meetsWord_sk hφ _ _ s1 _ e5
  rcases iv_if hq with ⟨-, y⟩ | ⟨-, y⟩
  · exact L196_sk hφ s5 y
  · obtain ⟨q6, e6, y⟩ := iv_bind y
    obtain ⟨q7, e7, y⟩ := iv_bind y
    have s7 := mm_meetsSign_sk hφ _ _ 0 (by decide) (by decide) (mm_list_sk hφ _ _ s5 _ e6) _ e7
    rcases iv_if y with ⟨-, y⟩ | ⟨-, y⟩
    · obtain ⟨q8, e8, y⟩ := iv_bind y
      exact L196_sk hφ (mm_fail_sk hφ _ _ _ rfl rfl s7 _ e8) y
    · exact L196_sk hφ s7 y
/-- the parser as it begins, and the reader as it begins -/
def inP (C : Nat → Nat) (Q : Nat → Int32) (M : md_S) : Prop :=
  ((∀ k, ¬ k = 5 → k < 14 → Q k = 0) ∧ Q 5 = 1 ∧ C 0 = 4 ∧ C 1 = 4 ∧ C 2 = 4 ∧ C 3 = 0) ∧ (M.1 4 = 0 ∧ M.1 5 = 1 ∧ M.1 10 = 0 ∧ M.1 11 = 0 ∧ M.1 12 = 0 ∧ M.1 13 = 32768 ∧ M.1 15 = 0 ∧ M.1 18 = 0 ∧ M.1 19 = 0 ∧ M.1 20 = 0 ∧ M.1 27 = 0 ∧ M.1 28 = 0)
/-- the reader as if it stood at an end -/
def mE (M : md_S) : md_S := (fun k => if k = 5 then 1 else if k = 6 then 0 else if k = 7 then 0 else if k = 8 then 1 else if k = 10 then 0 else M.1 k, M.2)
theorem RM_in (ht : txR M n f) (hi : inP C Q M) : RM (mE M) C B n f Q 32 0 0 0 := by
  obtain ⟨⟨q, q5, c0, c1, c2, c3⟩, m4, m5, m10, m11, m12, m13, m15, m18, m19, m20, m27, m28⟩ := hi
  have e : ∀ k, ¬ k = 5 → ¬ k = 6 → ¬ k = 7 → ¬ k = 8 → ¬ k = 10 → (mE M).1 k = M.1 k := by
    intro k d5 d6 d7 d8 d10
    show (if k = 5 then (1 : Int32) else if k = 6 then 0 else if k = 7 then 0 else if k = 8 then 1 else if k = 10 then 0 else M.1 k) = M.1 k
    rw [if_neg d5, if_neg d6, if_neg d7, if_neg d8, if_neg d10]
  have f4 : (mE M).1 4 = 0 := (e 4 (by omega) (by omega) (by omega) (by omega) (by omega)).trans m4
  have f11 : (mE M).1 11 = 0 := (e 11 (by omega) (by omega) (by omega) (by omega) (by omega)).trans m11
  have f12 : (mE M).1 12 = 0 := (e 12 (by omega) (by omega) (by omega) (by omega) (by omega)).trans m12
  have f15 : (mE M).1 15 = 0 := (e 15 (by omega) (by omega) (by omega) (by omega) (by omega)).trans m15
  have f18 : (mE M).1 18 = 0 := (e 18 (by omega) (by omega) (by omega) (by omega) (by omega)).trans m18
  have f19 : (mE M).1 19 = 0 := (e 19 (by omega) (by omega) (by omega) (by omega) (by omega)).trans m19
  have f28 : (mE M).1 28 = 0 := (e 28 (by omega) (by omega) (by omega) (by omega) (by omega)).trans m28
  have f2 : (mE M).1 2 = M.1 2 := e 2 (by omega) (by omega) (by omega) (by omega) (by omega)
  have f5 : (mE M).1 5 = 1 := rfl
  have f6 : (mE M).1 6 = 0 := rfl
  have f7 : (mE M).1 7 = 0 := rfl
  have f8 : (mE M).1 8 = 1 := rfl
  have f10 : (mE M).1 10 = 0 := rfl
  have z0 : (0 : Int32).toInt = 0 := il_0
  have z1 : (1 : Int32).toInt = 1 := il_1
  have tl : tln 32 = 0 := by decide +kernel
  unfold RM txR
  rw [f2, f4, f5, f6, f7, f8, f10, f11, f12, f15, f18, f19, f28, q5, q 2 (by omega) (by omega), q 3 (by omega) (by omega), q 4 (by omega) (by omega), q 6 (by omega) (by omega), q 7 (by omega) (by omega), q 8 (by omega) (by omega), q 9 (by omega) (by omega), q 10 (by omega) (by omega), q 11 (by omega) (by omega), q 12 (by omega) (by omega), c0, c1, c2, c3, tl]
  refine ⟨ht, ⟨by omega, Or.inl ⟨rfl, rfl⟩, by rw [z0]; omega⟩, ⟨rfl, rfl, rfl, rfl⟩, ⟨rfl, rfl⟩, ⟨⟨by omega, by omega, by omega⟩, by omega, by omega⟩, ⟨⟨rfl, rfl⟩, ⟨by omega, by omega, by omega⟩, fun k hk => ?_, fun k hk => ?_⟩, ⟨rfl, ⟨by omega, by omega, by omega, by omega⟩, fun k hk => ?_, fun k hk => ?_⟩, ⟨rfl, by omega, by omega⟩, ⟨⟨by omega, by omega⟩, fun k hk => ?_, fun _ => ⟨rfl, fun k hk => ?_⟩⟩, ⟨⟨by omega, by omega, by omega⟩, ⟨by omega, by omega, by omega⟩, by omega, by omega⟩, ⟨by omega, by omega⟩, ⟨by omega, by omega⟩, ⟨by omega, by omega⟩, by omega, by omega⟩
  all_goals
    rw [z0] at hk
    exact absurd hk (by omega)
theorem radv_E {Mz M1 : md_S} (e1 : ∀ k, ¬ k = 5 → ¬ k = 10 → Mz.1 k = M.1 k) (e2 : Mz.2 = M.2) (e10 : Mz.1 10 = 0) (r : radv (md_i Mz 5 1) M1) : radv (mE M) M1 := by
  have a : ∀ k, ¬ k = 5 → ¬ k = 10 → (md_i Mz 5 1).1 k = M.1 k := fun k d5 d10 => (md_ij d5).trans (e1 k d5 d10)
  have a5 : (md_i Mz 5 1).1 5 = 1 := md_ii
  have e : ∀ k, ¬ k = 5 → ¬ k = 6 → ¬ k = 7 → ¬ k = 8 → ¬ k = 10 → (mE M).1 k = M.1 k := by
    intro k d5 d6 d7 d8 d10
    show (if k = 5 then (1 : Int32) else if k = 6 then 0 else if k = 7 then 0 else if k = 8 then 1 else if k = 10 then 0 else M.1 k) = M.1 k
    rw [if_neg d5, if_neg d6, if_neg d7, if_neg d8, if_neg d10]
  obtain ⟨r1, r2, r3, r4, r5, r6, r7⟩ := r
  have b : (md_i Mz 5 1).2 = M.2 := e2
  rw [b] at r2 r3 r6 r7
  rw [a 4 (by omega) (by omega), a 2 (by omega) (by omega)] at r5
  rw [a 4 (by omega) (by omega), a 2 (by omega) (by omega), a5] at r6
  rw [a 2 (by omega) (by omega)] at r7
  have f4 := e 4 (by omega) (by omega) (by omega) (by omega) (by omega)
  have f2 := e 2 (by omega) (by omega) (by omega) (by omega) (by omega)
  refine ⟨fun k d4 d5 d6 d7 d8 => ?_, r2, r3, r4, by rw [f4, f2]; exact r5, by rw [f4, f2]; exact r6, by rw [f2]; exact r7⟩
  rw [r1 k d4 d5 d6 d7 d8]
  by_cases h : k = 10
  · subst h
    exact (md_ij (by omega)).trans e10
  · rw [a k d5 h, e k d5 d6 d7 d8 h]
set_option maxHeartbeats 1000000 in
/-- a program read on both sides -/
theorem prog_l (hok : lw_ok G sz) (hK : 40 * n + 70 ≤ K1 ∧ 200 * n + 400 ≤ K2) (h : PV G t0' H0 K1 K2 n f S A C B Q 32 el P ND) (ht : txR M n f) (hi : inP C Q M) {q : md_S × Int32} (hq : mm_program M = some q) : dc_wp (hm_PA_takeProgram G S (A 0)) (fun z => (∃ S2, z = .inl S2 ∧ prO G t0' H0 K1 K2 n f A S2 q) ∨ ∃ X : hg_X, z = .inr X ∧ thr t0' H0 K1 K2 n (A 0) (A 1) X q.1) := by
  have r := RM_in (B := B) ht hi
  have us := RM.use h r
  obtain ⟨⟨qq, q5, c0, c1, c2, c3⟩, m4, m5, m10, m11, m12, m13, m15, m18, m19, m20, m27, m28⟩ := hi
  have hn : n ≤ 32768 := by have := ht.1; omega
  have z4 : Q 4 = 0 := qq 4 (by omega) (by omega)
  delta mm_program mm_program_L2 at hq
  obtain ⟨Mz, ez, hq⟩ := iv_bind hq
  obtain ⟨My, ey, s1, s2, s3⟩ := sc_w ht.1.1 ht.1.2.1 m5 m10
  have eM : My = Mz := Option.some.inj (ey.symm.trans ez)
  subst eM
  have eob : ob (M.2.1 1) (M.1 2).toInt.toNat (M.1 2).toInt.toNat 0 (M.1 5) = ob f n n 0 1 := by
    rw [m5, ← ht.1.2.2]
    exact (ob_congr ht.2.1 _ _ _).symm
  rw [eob] at s3
  delta mm_program_L104 at hq
  delta hm_PA_takeProgram
  refine wq_gr (x := some (A 1)) h.pa rfl ?_
  refine wq_chk h.lx.1 ?_
  refine wq_call (op_w hok h.lx (by rw [z4, il_0]; omega) (by rw [z4, il_0]; omega) (by omega) (by omega) (by omega)) ?_
  intro z hz
  unfold opP at hz
  rw [q5] at hz
  cases hob : ob f n n 0 1 with
  | some l =>
    rw [hob] at hz s3
    obtain ⟨s4, s5, s6⟩ := s3
    obtain ⟨X, rfl, x1, x2, x3, x4, x5⟩ := hz
    have e1 : (8 * l).toInt = 8 * l.toInt := by rw [i_mulS (by rw [il_8]; omega), il_8]
    have e2 : (1 + 8 * l).toInt = 1 + 8 * l.toInt := by rw [i_addS (by rw [e1, il_1]; omega), e1, il_1]
    have hp : (0 : Int32) < My.1 10 := i_lt.mpr (by rw [s4, e2, il_0]; omega)
    rw [if_pos hp] at hq
    have hq := (Option.some.inj hq).symm
    subst hq
    exact ⟨_, rfl, Or.inr ⟨X, rfl, thr_of h r hK x1 x3 x4 x5 (ph_ne (k := 1) (by decide) (by omega)) (Or.inl s4)⟩⟩
  | none =>
    rw [hob] at hz s3
    have s3 : My.1 10 = 0 := s3
    have hz : advP G S (A 1) (A 2) n f (Q 4) 1 (Q 6) z := hz
    rw [s3, if_neg lt00] at hq
    have hq : (mm_advance (md_i My 5 1)).bind (fun q10 => (mm_meetsWord q10 26990).bind fun q11 => if q11.2 = 0 then (mm_program_L155 q11.1) else ((mm_list q11.1 0).bind fun q12 => (mm_meetsSign q12 59).bind fun q13 => if q13.2 = 0 then ((mm_fail q13.1 1 (q13.1.1 8)).bind fun q14 => mm_program_L155 q14) else (mm_program_L155 q13.1))) = some q := hq
    obtain ⟨M1, e1, hq⟩ := iv_bind hq
    have y4 : (md_i My 5 1).1 4 = 0 := (md_ij (by omega)).trans ((s1 4 (by omega) (by omega)).trans m4)
    have y2 : (md_i My 5 1).1 2 = M.1 2 := (md_ij (by omega)).trans (s1 2 (by omega) (by omega))
    have t1 := ht.1
    obtain ⟨Mx, ex, ra⟩ := radv_w (M := md_i My 5 1) (by rw [y4, il_0]; omega) (by rw [y4, y2, il_0]; omega) (by rw [y2]; omega)
    have eM : Mx = M1 := Option.some.inj (ex.symm.trans e1)
    subst eM
    have ra := radv_E s1 s2 s3 ra
    rw [← q5] at hz
    rcases adv_z hok h r hK hz ra with ⟨S1, rfl, j1, v1, w1, ra1, of1'⟩ | ⟨X, rfl, g⟩
    · have me := fun k (d : ¬ (4 ≤ k ∧ k ≤ 8)) (d10 : ¬ k = 10) => (ra1.1 k (by omega) (by omega) (by omega) (by omega) (by omega)).trans (show (mE M).1 k = M.1 k by
        show (if k = 5 then (1 : Int32) else if k = 6 then 0 else if k = 7 then 0 else if k = 8 then 1 else if k = 10 then 0 else M.1 k) = M.1 k
        rw [if_neg (by omega), if_neg (by omega), if_neg (by omega), if_neg (by omega), if_neg d10])
      have ip1 : iP G t0' H0 K1 K2 n f A S1 A C B (q4 Q (Mx.1 7) (Mx.1 4) (Mx.1 8) 0) j1 el P ND Mx := by
        refine ⟨v1, w1, fun _ _ => rfl, ?_, ⟨(me 19 (by omega) (by omega)).trans m19, (me 20 (by omega) (by omega)).trans m20, (me 13 (by omega) (by omega)).trans m13, (me 11 (by omega) (by omega)).trans m11, (me 12 (by omega) (by omega)).trans m12, (me 27 (by omega) (by omega)).trans m27⟩, qq 9 (by omega) (by omega)⟩
        rw [(me 15 (by omega) (by omega)).trans m15, (me 18 (by omega) (by omega)).trans m18]
        exact ⟨⟨by decide, by decide, by decide, by decide⟩, fun k _ hk => absurd hk (by rw [il_0]; omega)⟩
      exact lst_l hok hK (i := 0) (by omega) (by decide) (KC := fun S => hm_PA_takeProgram_L39 G S (A 0)) (KR := mm_program_L155) (Φ := fun S2 q => prO G t0' H0 K1 K2 n f A S2 q) ip1 (fun φ hφ M' hs hq => L155_sk hφ hs hq) (fun S' A' C' B' Q' j' M' ip _ hq => prog_out hok hK ip hq) hq
    · refine ⟨_, rfl, Or.inr ⟨X, rfl, g.mono (fun φ hφ hs => ?_)⟩⟩
      obtain ⟨q5, e5, hq⟩ := iv_bind hq
      have s5 := mm_meetsWord_sk hφ _ _ hs _ e5
      rcases iv_if hq with ⟨-, y⟩ | ⟨-, y⟩
      · exact L155_sk hφ s5 y
      · obtain ⟨q6, e6, y⟩ := iv_bind y
        obtain ⟨q7, e7, y⟩ := iv_bind y
        have s7 := mm_meetsSign_sk hφ _ _ 0 (by decide) (by decide) (mm_list_sk hφ _ _ s5 _ e6) _ e7
        rcases iv_if y with ⟨-, y⟩ | ⟨-, y⟩
        · obtain ⟨q8, e8, y⟩ := iv_bind y
          exact L155_sk hφ (mm_fail_sk hφ _ _ _ rfl rfl s7 _ e8) y
        · exact L155_sk hφ s7 y
end PRG3
