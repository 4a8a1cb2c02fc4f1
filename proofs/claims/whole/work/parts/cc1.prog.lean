/-! the program's tail: its body and its end -/
section PRG
variable {G : hg_E} {sz t0' : Nat} {H0 : Nat → Option va_E} {K1 K2 n : Nat} {f : Nat → Int32} {S : hg_S} {A C : Nat → Nat} {B : Nat → Nat → Int32} {Q : Nat → Int32} {j : Nat} {el : Nat → Option Nat} {P : Nat → Nat} {ND : Nat → ndT} {M : md_S} {b u w : Int}
theorem RM_16 (r : RM M C B n f Q j b u w) {v v' : Int32} : RM (md_i M 16 v) C B n f (q1 Q 0 v') j b u w := r
theorem RM_17 (r : RM M C B n f Q j b u w) {v v' : Int32} : RM (md_i M 17 v) C B n f (q1 Q 1 v') j b u w := r
theorem prog_tl (hok : lw_ok G sz) (hK : 40 * n + 70 ≤ K1 ∧ 200 * n + 400 ≤ K2) (h : PV G t0' H0 K1 K2 n f S A C B Q j el P ND) (r : RM M C B n f Q j b u w) (hb : b ≤ (M.1 7).toInt) (rs : RS M B Q) {q : md_S × Int32} (hq : mm_program_L196 M = some q) : dc_wp (hm_PA_takeProgram_L82 G S (A 0)) (fun z => (∃ S' r', z = .inl S' ∧ stO G t0' H0 K1 K2 n f (100 * (2 * hm_d2) + (26 - (M.1 11).toInt).toNat) A C B (q1 Q 1 (M.1 15 - M.1 16)) P ND (md_i M 17 (M.1 15 - M.1 16)) u w (M.1 7).toInt S' r' q) ∨ ∃ X : hg_X, z = .inr X ∧ thr t0' H0 K1 K2 n (A 0) (A 1) X q.1) := by
  have hn : (n : Int) ≤ 32768 := by have := r.1.1; omega
  have l2 : M.1 10 = 0 := r.2.2.2.1.2
  have q7 : Q 7 = M.1 15 := r.2.2.2.2.2.1.1.1
  have q0 : Q 0 = M.1 16 := rs.2.2.2.1
  have op := r.2.2.2.2.2.2.2.1
  have v1 := PV_pa (i := 1) (v := M.1 15 - M.1 16) h (by omega)
  have r1 := RM_17 (v := M.1 15 - M.1 16) (v' := M.1 15 - M.1 16) r
  have rs1 : RS (md_i M 17 (M.1 15 - M.1 16)) B (q1 Q 1 (M.1 15 - M.1 16)) := ⟨rs.1, rs.2.1, rs.2.2.1, rs.2.2.2.1, rs.2.2.2.2⟩
  have hq : (if (0 : Int32) < M.1 10 then (mm_program_L224 (md_i M 17 (M.1 15 - M.1 16)) 0) else ((mm_body_r (md_i M 17 (M.1 15 - M.1 16))).bind fun q3 => mm_program_L224 q3.1 q3.2)) = some q := hq
  rw [l2, if_neg lt00] at hq
  obtain ⟨q3, e3, hq⟩ := iv_bind hq
  have e3 : (mm_P2 mm_d2).1 (md_i M 17 (M.1 15 - M.1 16)) = some q3 := e3
  delta hm_PA_takeProgram_L82
  refine wq_gr (x := some (A 3)) h.pa rfl ?_
  refine wq_gi (x := Q 7) h.sn.1 rfl ?_
  refine wq_gi (x := Q 0) h.pa rfl ?_
  refine wq_pf h.pa (show 5 < 7 by decide) ?_
  rw [show Q 7 - Q 0 = M.1 15 - M.1 16 by rw [q7, q0]]
  show dc_wp ((hg_chk (hu S (A 0) (.inr (4, [.ref (A 1), .ref (A 3), .ref (A 4), .ref (A 5), .int (Q 0), .int (M.1 15 - M.1 16), .int (Q 2)]))) (some (A 0)) 4).bind _) _
  refine wq_chk v1.pa ?_
  refine wq_call (stms_all bu_alg hok hK hm_d2 mm_d2 _ A C B _ j el P ND _ b u w q3 v1 r1 hb rs1 (by show 5 * (24 - (M.1 11).toInt) + 3 ≤ ((400 : Nat) : Int); omega) e3) ?_
  rintro zz (⟨S3, r3, rfl, A3, C3, B3, Q3, j3, el3, P3, ND3, T, i, I, g1, g2, g3, g4, g5, g6, g7, g8⟩ | ⟨X, rfl, g⟩)
  · have a0 : A3 0 = A 0 := g3.1 0 (by omega)
    have a1 : A3 1 = A 1 := g3.1 1 (by omega)
    have x2 := g2.2.1.1
    have x3 := g2.2.1.2.1
    have f0 := g2.2.2.2.1.2
    have p3 := g2.2.2.2.2.1
    have te := tk_end x3
    delta mm_program_L224 at hq
    show dc_wp ((hg_gr S3 (some (A 0)) 4 0).bind _) _
    rw [← a0]
    refine wq_gr (x := some (A3 1)) g1.pa rfl ?_
    refine wq_gr (x := some (A3 1)) g1.pa rfl ?_
    refine wq_gr (x := some (G.2.1 j3)) g1.lx.1 rfl ?_
    by_cases hj : j3 = 32
    · rw [if_pos ((tok_eq hok x2 (by omega)).mpr hj)]
      rw [if_pos (te.mpr hj)] at hq
      have hq := (Option.some.inj hq).symm
      subst hq
      delta hm_PA_takeProgram_L125
      refine wq_chk g1.lx.1 ?_
      rw [req_ok (by decide)]
      exact ⟨_, rfl, Or.inl ⟨S3, r3, rfl, A3, C3, B3, Q3, j3, el3, P3, ND3, T, i, I, g1, g2, g3, g4, g5, g6, g7, g8⟩⟩
    · rw [if_neg (fun z => hj ((tok_eq hok x2 (by omega)).mp z))]
      rw [if_neg (fun z => hj (te.mp z))] at hq
      obtain ⟨Mf, ef, hq⟩ := iv_bind hq
      have ff : Mf.1 10 = 1 + 8 * q3.1.1 8 := fail_f f0 ef
      have hq := (Option.some.inj hq).symm
      subst hq
      delta hm_PA_takeProgram_L125
      refine wq_chk g1.lx.1 ?_
      refine wq_call (req_no g1 g2 hK (M' := Mf) (Or.inl ff)) ?_
      rintro z ⟨X, rfl, g⟩
      rw [a1] at g
      exact ⟨_, rfl, Or.inr ⟨X, rfl, g⟩⟩
  · refine ⟨_, rfl, Or.inr ⟨X, rfl, g.mono (fun φ hφ hs => ?_)⟩⟩
    delta mm_program_L224 at hq
    rcases iv_if hq with ⟨-, y⟩ | ⟨-, y⟩
    · have y := (Option.some.inj y).symm
      subst y
      exact hs
    · obtain ⟨Mf, ef, y⟩ := iv_bind y
      have y := (Option.some.inj y).symm
      subst y
      exact mm_fail_sk hφ _ _ _ rfl rfl hs _ ef
end PRG
