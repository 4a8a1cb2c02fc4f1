/-! tests: takePart beside part; the group -/
section PRT
variable {G : hg_E} {sz t0 : Nat} {H0 : Nat → Option va_E} {K1 K2 n : Nat} {f : Nat → Int32} {S S' : hg_S} {A C A' C' : Nat → Nat} {B B' : Nat → Nat → Int32} {Q Q' : Nat → Int32} {j : Nat} {el : Nat → Option Nat} {P : Nat → Nat} {ND : Nat → ndT} {M M' : md_S} {b u w w' : Int}
theorem evT_op {v : Int32} (h : evT A C B (q1 Q 2 v) (md_i M 11 v) A' C' B' Q' M') : evT A C B Q M A' C' B' (q1 Q' 2 (Q 2)) (md_i M' 11 (M.1 11)) := by
  obtain ⟨h1, h2, h3, h4, h5, h6, h7, h8, h9, h10, h11, h12, h13⟩ := h
  refine ⟨h1, h2, h3, fun k d e => ?_, fun k d e i => ?_, h6, h7, h8, h9, h10, h11, h12, h13⟩
  · by_cases z : k = 2
    · rw [z]; rfl
    · show (if k = 2 then _ else Q' k) = Q k
      rw [if_neg z, h4 k d e]
      exact if_neg z
  · by_cases z : k = 11
    · rw [z]; exact md_ii
    · rw [md_ij z, h5 k d e i, md_ij z]
/-- one less open, behind all -/
theorem leave_l (v : PV G t0 H0 K1 K2 n f S' A' C' B' Q' j el P ND) (r : RM M' C' B' n f Q' j b u w) (e : M'.1 11 = M.1 11 + 1) (h0 : 0 ≤ (M.1 11).toInt) (h1 : (M.1 11).toInt < 24) (ht : M'.1 19 = M.1 19) (ht2 : (M.1 19).toInt ≤ (M.1 11).toInt) (hQ : Q 2 = M.1 11) {x : Int32} {T : hm_T1} {F : (hg_S × Int32) ⊕ hg_X → Prop} (kk : ∀ S2, PV G t0 H0 K1 K2 n f S2 A' C' B' (q1 Q' 2 (Q 2)) j el P ND → RM (md_i M' 11 (M.1 11)) C' B' n f (q1 Q' 2 (Q 2)) j b u w → F (.inl (S2, x))) : dc_wp (hm_PA_takePart_L101 T G S' (A' 0) x) F := by
  have q2 := r.2.2.2.2.2.2.2.1.1
  have e1 : (M.1 11 + 1).toInt = (M.1 11).toInt + 1 := by rw [i_addS (by rw [il_1]; omega), il_1]
  have es : Q' 2 - 1 = Q 2 := by
    rw [q2, e, hQ]
    refine i_eq.mpr ?_
    rw [i_subS (by rw [e1, il_1]; omega), e1, il_1]
    omega
  delta hm_PA_takePart_L101
  refine wq_gi (x := Q' 2) v.pa rfl ?_
  rw [es]
  refine wq_pf v.pa (Nat.le_of_ble_eq_true rfl) ?_
  refine ⟨_, rfl, kk _ (PV_pa (i := 2) v (by omega)) ?_⟩
  rw [hQ]
  exact RM_op r h0 (by omega) (by rw [ht]; exact ht2)
theorem ph_pos {k l : Int32} (hk : 1 ≤ k.toInt ∧ k.toInt ≤ 7) (hl : 1 ≤ l.toInt ∧ l.toInt ≤ 40000) : 0 < k + 8 * l := by
  have e1 : (8 * l).toInt = 8 * l.toInt := by rw [i_mulS (by rw [il_8]; omega), il_8]
  have e2 : (k + 8 * l).toInt = k.toInt + 8 * l.toInt := by rw [i_addS (by rw [e1]; omega), e1]
  refine i_lt.mpr ?_
  rw [e2, il_0]
  omega
theorem mm_part_L71_sk {c : Int32} (hc : ¬ c = 0) (T : mm_T1) (S : md_S) (x1 y0 : Int32) (hf : stk c S) : dc_pw (mm_part_L71 T S x1 y0) (fun q => stk c q.1) := by
  delta mm_part_L71 mm_part_L94
  refine pw_if ?_ ?_
  · refine pwT_call (mm_meetsSign_sk hc S 41 3 (by decide) (by decide) hf) (fun q hf => ?_)
    refine pw_if ?_ ?_
    · exact pwT_callv (mm_fail_sk hc _ _ _ rfl rfl hf) (fun q hf => pwT_i (by decide) (by decide) (by decide) hf (fun _ hf => pw_some hf))
    · exact pwT_i (by decide) (by decide) (by decide) hf (fun _ hf => pw_some hf)
  · exact pwT_i (by decide) (by decide) (by decide) hf (fun _ hf => pw_some hf)
theorem sub1 {x : Int32} (h : x.toInt < 1000) (h0 : -1000 < x.toInt) : x + 1 - 1 = x := by
  have e1 : (x + 1).toInt = x.toInt + 1 := by rw [i_addS (by rw [il_1]; omega), il_1]
  refine i_eq.mpr ?_
  rw [i_subS (by rw [e1, il_1]; omega), e1, il_1]
  omega
set_option maxHeartbeats 1000000 in
theorem takePart_t (hok : lw_ok G sz) (hK : 40 * n + 70 ≤ K1 ∧ 200 * n + 400 ≤ K2) {d e : Nat} (ihE : TsP G t0 H0 K1 K2 n f d 3 ((hm_P1 d).1) ((mm_P1 e).1)) (ihP : TsP G t0 H0 K1 K2 n f d 1 ((hm_P1 d).2.2) ((mm_P1 e).2.2)) : TsP G t0 H0 K1 K2 n f (d + 1) 1 (hm_PA_takePart (hm_P1 d)) (mm_part (mm_P1 e)) := by
  intro S A C B Q j el P ND M b u w q h r hb hd hq
  have r0 := r
  obtain ⟨r1, ⟨x2, x3, x4⟩, -, ⟨-, x5⟩, ⟨⟨p1, p2, p3⟩, pl1, pl2⟩, -, ⟨-, ⟨t1, t2, -⟩, -⟩, ⟨op0, op1, op2⟩, ⟨⟨pi1, pi2⟩, pi3, -⟩, ⟨-, -, b7, b8⟩, -⟩ := r
  have hn : (n : Int) ≤ 32768 := by have := r1.1; omega
  have w18 : (7237492 : Int64) = kw.getD 18 0 := by decide
  have s40 : Int32.toInt64 40 = sg.getD 2 0 := by decide
  delta mm_part at hq
  rw [isWord_e, w18] at hq
  delta hm_PA_takePart
  refine wq_gr (x := some (A 1)) h.pa rfl ?_
  refine wq_gr (x := some (G.2.1 j)) h.lx.1 rfl ?_
  -- behind 'not' or '('
  have deep : ∀ y : Int32, (j = 18 ∧ y = 1) ∨ (j = 28 ∧ y = 0) → mm_part_L33 (mm_P1 e) M y = some q → dc_wp (hm_PA_takePart_L48 (hm_P1 d) G S (A 0)) (fun z => (∃ S' x, z = .inl (S', x) ∧ tsO G t0 H0 K1 K2 n f A C B Q el P ND M u w S' x q) ∨ ∃ X : hg_X, z = .inr X ∧ thr t0 H0 K1 K2 n (A 0) (A 1) X q.1) := by
    intro y hy hq
    delta mm_part_L33 at hq
    obtain ⟨M1, e1, hq⟩ := iv_bind hq
    delta hm_PA_takePart_L48
    refine wq_chk h.pa ?_
    refine wq_call (enter_l h r0 hK (deeper_i x5 e1)) ?_
    rintro z (⟨rfl, o24, S1, rfl, v1, w1⟩ | ⟨ef, X, rfl, g⟩)
    · have f0 : (md_i M 11 (M.1 11 + 1)).1 10 = 0 := x5
      rw [f0, if_neg lt00] at hq
      obtain ⟨M2, e2, hq⟩ := iv_bind hq
      have e11 : (M.1 11 + 1).toInt = (M.1 11).toInt + 1 := by rw [i_addS (by rw [il_1]; omega), il_1]
      refine wq_chk v1.pa ?_
      rcases hy with ⟨hj, rfl⟩ | ⟨hj, rfl⟩
      · -- not
        rw [if_neg (by decide)] at hq
        obtain ⟨q7, e7, hq⟩ := iv_bind hq
        obtain ⟨q8, e8, hq⟩ := iv_bind hq
        delta mm_part_L71 at hq
        rw [if_neg (by decide)] at hq
        have hq : some (md_i q8.1 11 (q8.1.1 11 - 1), q8.2) = some q := hq
        have hq := (Option.some.inj hq).symm
        subst hq
        have t18 : tln 18 = 3 := by decide +kernel
        rw [hj, t18] at x4
        refine wq_call (skip_l hok v1 w1 hK (i := 18) (by decide) (M' := M2) (Or.inl ⟨hj, e2⟩)) ?_
        rintro zz (⟨ej, S2, rfl, j2, v2, w2, ra2, of2⟩ | ⟨ej, -⟩ | ⟨-, X, rfl, g⟩)
        · have c8 : (M.1 4).toInt ≤ (M2.1 7).toInt := ra2.2.2.2.2.1.1
          have s11 : M2.1 11 = M.1 11 + 1 := ra2.1 11 (by omega) (by omega) (by omega) (by omega) (by omega)
          have s19 : M2.1 19 = M.1 19 := ra2.1 19 (by omega) (by omega) (by omega) (by omega) (by omega)
          have s12 : M2.1 12 = M.1 12 := ra2.1 12 (by omega) (by omega) (by omega) (by omega) (by omega)
          refine wq_gr (x := some (A 5)) v2.pa rfl ?_
          refine wq_gr (x := some (A 6)) v2.dr rfl ?_
          refine wq_chk v2.pa ?_
          refine wq_call (ihP S2 A C B _ j2 el P ND M2 _ u w q7 v2 w2 (Int.le_refl _) (by rw [s11]; omega) e7) ?_
          rintro zz (⟨S3, x3', rfl, A3, C3, B3, Q3, j3, v3, w3, ev3, ea3, ex3, ext3, eq3, ep3⟩ | ⟨X, rfl, g⟩)
          · have a0 : A3 0 = A 0 := ev3.1 0 (by omega)
            have a1 : A3 1 = A 1 := ev3.1 1 (by omega)
            have a6 : A3 6 = A 6 := ev3.1 6 (by omega)
            have Q11 : q4 (q1 Q 2 (M.1 11 + 1)) (M2.1 7) (M2.1 4) (M2.1 8) 0 11 = Q 11 := rfl
            rw [Q11] at ext3 eq3
            have pw := w3.2.2.2.2.2.2.2.2.1.2.1
            have pm := w3.2.2.2.2.2.2.2.2.1.1
            have bw := w3.2.2.2.2.2.2.2.2.2.1.2.2
            have xm : x3'.toInt.toNat = (Q3 11).toInt.toNat - 1 := by omega
            rw [xm] at ext3
            have f4 : q8.1.1 7 = q7.1.1 7 := piece_7 e8
            show dc_wp ((hg_chk S3 (some (A 6)) 5).bind _) _
            rw [← a6, ← a0, ← a1]
            refine wq_chk v3.pi.1 ?_
            refine wq_call (pc_l v3 w3 hK (w' := w + ((q7.1.1 7).toInt - (M.1 7).toInt)) (p := x3') (s := -1) (p' := q7.2) (s' := -1) (fun z => ⟨ea3 z, rfl⟩) (Or.inr (Or.inl ⟨rfl, rfl, by omega, by omega⟩)) (fun z => absurd z (by decide)) (by omega) (by omega) e8) ?_
            rintro ⟨S4, x4'⟩ ⟨z2, z3, A4, C4, B4, v4, w4, ev4, ad, -, k3, -⟩
            have z2 : x4' = Q3 11 := z2
            subst z2
            have k3 := k3 rfl
            have evx := evT_tr (evT_tr (evT_adv (A := A) (C := C) (B := B) (Q := q1 Q 2 (M.1 11 + 1)) ra2 p2) ev3) ev4
            have o8 : q8.1.1 11 = M.1 11 + 1 := (evx.2.2.2.2.1 11 (by omega) (by omega) (by omega)).trans rfl
            have t8 : q8.1.1 19 = M.1 19 := (evx.2.2.2.2.1 19 (by omega) (by omega) (by omega)).trans rfl
            have a04 : A4 0 = A3 0 := ev4.1 0 (by omega)
            have os : q8.1.1 11 - 1 = M.1 11 := by rw [o8]; exact sub1 (by omega) (by omega)
            show dc_wp (hm_PA_takePart_L101 (hm_P1 d) G S4 (A3 0) (Q3 11)) _
            rw [← a04, os]
            refine leave_l (Q := Q) v4 w4 o8 op1 o24 t8 t2 op0 ?_
            intro S5 v5 w5
            refine Or.inl ⟨S5, _, rfl, A4, C4, B4, _, j3, v5, ?_, evT_op evx, z3, ?_, ?_, ?_, ?_⟩
            · show RM (md_i q8.1 11 (M.1 11)) C4 B4 n f (q1 (q1 Q3 11 (Q3 11 + 1)) 2 (Q 2)) j3 (q8.1.1 7).toInt u (w + ((q8.1.1 7).toInt - (M.1 7).toInt))
              rw [f4]; exact w5
            · show (Q3 11).toInt = (Q3 11 + 1).toInt - 1
              omega
            · show (B4 9 (Q3 11).toInt.toNat).toInt = (Q3 11 + 1).toInt - (Q 11).toInt
              rw [k3]
              omega
            · show (Q 11).toInt < (Q3 11 + 1).toInt
              omega
            · show (M.1 7).toInt < (q8.1.1 7).toInt
              rw [f4]; omega
          · exact ⟨_, rfl, Or.inr ⟨X, rfl, g.mono (fun φ hφ hs => stk_i (by decide) (by decide) (by decide) (mm_piece_III_sk hφ _ _ _ _ hs _ e8))⟩⟩
        · exact absurd hj ej
        · exact ⟨_, rfl, Or.inr ⟨X, rfl, g.mono (fun φ hφ hs => stk_i (by decide) (by decide) (by decide) (mm_piece_III_sk hφ _ _ _ _ ((mm_P1_sk hφ e).2.2.2 M2 hs _ e7) _ e8))⟩⟩
      · -- (
        rw [if_pos rfl] at hq
        obtain ⟨q6, e6, hq⟩ := iv_bind hq
        have rest : ∀ φ, ¬ φ = 0 → stk φ q6.1 → stk φ q.1 := fun φ hφ hs => mm_part_L71_sk hφ (mm_P1 e) q6.1 0 q6.2 hs q hq
        have t28 : tln 28 = 1 := by decide +kernel
        rw [hj, t28] at x4
        refine wq_call (skip_l hok v1 w1 hK (i := 18) (by decide) (M' := md_i M 11 (M.1 11 + 1)) (Or.inr ⟨by omega, rfl⟩)) ?_
        rintro zz (⟨ej, -⟩ | ⟨ej, rfl, -⟩ | ⟨ej, -⟩)
        · omega
        · refine wq_gr (x := some (A 1)) v1.pa rfl ?_
          refine wq_chk v1.lx.1 ?_
          refine wq_call (adv_l hok v1 w1 hK e2) ?_
          rintro zz (⟨S2, rfl, j2, v2, w2, ra2, of2⟩ | ⟨X, rfl, g⟩)
          · have c8 : (M.1 4).toInt ≤ (M2.1 7).toInt := ra2.2.2.2.2.1.1
            have s11 : M2.1 11 = M.1 11 + 1 := ra2.1 11 (by omega) (by omega) (by omega) (by omega) (by omega)
            refine wq_chk v2.pa ?_
            refine wq_call (ihE S2 A C B _ j2 el P ND M2 _ u w q6 v2 w2 (Int.le_refl _) (by rw [s11]; omega) e6) ?_
            rintro zz (⟨S3, x3', rfl, A3, C3, B3, Q3, j3, v3, w3, ev3, ea3, ex3, ext3, eq3, ep3⟩ | ⟨X, rfl, g⟩)
            · have a0 : A3 0 = A 0 := ev3.1 0 (by omega)
              have a1 : A3 1 = A 1 := ev3.1 1 (by omega)
              have Q11 : q4 (q1 Q 2 (M.1 11 + 1)) (M2.1 7) (M2.1 4) (M2.1 8) 0 11 = Q 11 := rfl
              rw [Q11] at ext3 eq3
              delta mm_part_L71 at hq
              rw [if_pos rfl] at hq
              obtain ⟨q9, e9, hq⟩ := iv_bind hq
              have mt := meetsS_i (i := 3) (p := 41) w3.2.1.2.1 w3.2.2.2.1.2 (by decide) (by decide) e9
              have hm : ∃ M4, ((j3 = 29 ∧ mm_advance q6.1 = some M4) ∨ (¬ j3 = 29 ∧ M4.1 10 = 1 + 8 * q6.1.1 8)) ∧ q = (md_i M4 11 (M4.1 11 - 1), q6.2) := by
                rcases mt with ⟨m1, m2, m3⟩ | ⟨m1, m2⟩
                · rw [if_neg (by rw [m2]; decide)] at hq
                  exact ⟨q9.1, Or.inl ⟨m1, m3⟩, (Option.some.inj hq).symm⟩
                · subst m2
                  rw [if_pos rfl] at hq
                  obtain ⟨M4, e4, hq⟩ := iv_bind hq
                  exact ⟨M4, Or.inr ⟨m1, fail_f w3.2.2.2.1.2 e4⟩, (Option.some.inj hq).symm⟩
              obtain ⟨M4, hm, rfl⟩ := hm
              show dc_wp ((hg_chk S3 (some (A 0)) 4).bind _) _
              rw [← a0, ← a1]
              refine wq_chk v3.pa ?_
              refine wq_call (take_l hok v3 w3 hK (i := 29) (by decide) hm) ?_
              rintro zz (⟨ej3, S4, rfl, j4, v4, w4, ra4, of4⟩ | ⟨X, rfl, g⟩)
              · have p23 := w3.2.2.2.2.1.1.2.1
                have c84 : (q6.1.1 4).toInt ≤ (M4.1 7).toInt := ra4.2.2.2.2.1.1
                have evx := evT_tr (evT_tr (evT_adv (A := A) (C := C) (B := B) (Q := q1 Q 2 (M.1 11 + 1)) ra2 p2) ev3) (evT_adv (a := M4.1 7) (b := M4.1 4) (c := M4.1 8) (d := 0) ra4 p23)
                have o8 : M4.1 11 = M.1 11 + 1 := (evx.2.2.2.2.1 11 (by omega) (by omega) (by omega)).trans rfl
                have t8 : M4.1 19 = M.1 19 := (evx.2.2.2.2.1 19 (by omega) (by omega) (by omega)).trans rfl
                have os : M4.1 11 - 1 = M.1 11 := by rw [o8]; exact sub1 (by omega) (by omega)
                have s12 : M4.1 12 = q6.1.1 12 := ra4.1 12 (by omega) (by omega) (by omega) (by omega) (by omega)
                show dc_wp (hm_PA_takePart_L101 (hm_P1 d) G S4 (A3 0) x3') _
                rw [os]
                refine leave_l (Q := Q) v4 w4 o8 op1 o24 t8 t2 op0 ?_
                intro S5 v5 w5
                refine Or.inl ⟨S5, _, rfl, A3, C3, B3, _, j4, v5, ?_, evT_op evx, fun z => ea3 (s12.symm.trans z), ?_, ?_, ?_, ?_⟩
                · refine RM_w w5 ?_ ?_
                  · show w + ((q6.1.1 7).toInt - (M2.1 7).toInt) ≤ w + ((M4.1 7).toInt - (M.1 7).toInt)
                    omega
                  · show w + ((M4.1 7).toInt - (M.1 7).toInt) ≤ (M4.1 7).toInt
                    omega
                · exact ex3
                · exact ext3
                · exact eq3
                · show (M.1 7).toInt < (M4.1 7).toInt
                  omega
              · exact ⟨_, rfl, Or.inr ⟨X, rfl, g.mono (fun φ hφ hs => stk_i (by decide) (by decide) (by decide) hs)⟩⟩
            · exact ⟨_, rfl, Or.inr ⟨X, rfl, g.mono rest⟩⟩
          · exact ⟨_, rfl, Or.inr ⟨X, rfl, g.mono (fun φ hφ hs => rest φ hφ ((mm_P1_sk hφ e).2.1 M2 hs _ e6))⟩⟩
        · omega
    · rw [ef, if_pos (ph_pos (by decide) (by omega))] at hq
      have hq := (Option.some.inj hq).symm
      subst hq
      exact ⟨_, rfl, Or.inr ⟨X, rfl, g⟩⟩
  by_cases j18 : j = 18
  · rw [if_pos ((tok_eq hok x2 (by omega)).mpr j18)]
    rw [if_pos ((tk_word (i := 18) x3 (by decide)).mpr j18), Option.bind_some, if_neg (by decide)] at hq
    exact deep 1 (Or.inl ⟨j18, rfl⟩) hq
  · rw [if_neg (fun z => j18 ((tok_eq hok x2 (by omega)).mp z))]
    rw [if_neg (fun z => j18 ((tk_word (i := 18) x3 (by decide)).mp z)), Option.bind_some, if_pos rfl, isSign_e, s40] at hq
    refine wq_gr (x := some (A 1)) h.pa rfl ?_
    refine wq_gr (x := some (G.2.1 j)) h.lx.1 rfl ?_
    by_cases j28 : j = 28
    · rw [if_pos ((tok_eq hok x2 (by omega)).mpr j28)]
      rw [if_pos ((tk_sign (i := 2) x3 (by decide)).mpr j28), Option.bind_some, if_neg (by decide)] at hq
      exact deep 0 (Or.inr ⟨j28, rfl⟩) hq
    · rw [if_neg (fun z => j28 ((tok_eq hok x2 (by omega)).mp z))]
      rw [if_neg (fun z => j28 ((tk_sign (i := 2) x3 (by decide)).mp z)), Option.bind_some, if_pos rfl] at hq
      obtain ⟨q1', e1, hq⟩ := iv_bind hq
      obtain ⟨q2', e2, hq⟩ := iv_bind hq
      have hq : q = (q2'.1, q2'.2) := (Option.some.inj hq).symm
      subst hq
      refine wq_gr (x := some (A 5)) h.pa rfl ?_
      refine wq_gr (x := some (A 6)) h.dr rfl ?_
      refine wq_gr (x := some (A 3)) h.pa rfl ?_
      refine wq_chk h.pa ?_
      refine wq_call (use_l hok h r0 hK (p := 0) (least := 0) (Or.inl ⟨rfl, rfl⟩) e1) ?_
      rintro z (⟨hj, S1, rfl, ⟨j1, v1, w1, ra1, of1'⟩, s0, s1, -, sv⟩ | ⟨X, rfl, g⟩)
      · have t31 : tln 31 = 1 := rfl
        rw [hj, t31] at x4
        have c8 : (M.1 4).toInt ≤ (q1'.1.1 7).toInt := ra1.2.2.2.2.1.1
        have s15 : q1'.1.1 15 = M.1 15 := ra1.1 15 (by omega) (by omega) (by omega) (by omega) (by omega)
        have f4 : q2'.1.1 7 = q1'.1.1 7 := piece_7 e2
        show dc_wp ((hg_chk S1 (some (A 6)) 5).bind _) _
        refine wq_chk v1.pi.1 ?_
        refine wq_call (pc_l v1 w1 hK (w' := w + ((q1'.1.1 7).toInt - (M.1 7).toInt)) (p := q1'.2) (s := -1) (p' := q1'.2) (s' := -1) (fun z => ⟨rfl, rfl⟩) (Or.inl ⟨rfl, rfl, s0, by rw [s15]; exact s1⟩) (fun _ => by
          obtain ⟨i, i1, i2⟩ := sv
          exact ⟨i, by rw [ra1.1 18 (by omega) (by omega) (by omega) (by omega) (by omega)]; exact i1, i2⟩) ?_ ?_ e2) ?_
        · show (Q 11).toInt + 1 ≤ _
          omega
        · omega
        · rintro ⟨S4, x4'⟩ ⟨z2, z3, A4, C4, B4, v4, w4, ev4, ad, k3, -, -⟩
          have z2 : x4' = Q 11 := z2
          subst z2
          have k3 := k3 rfl
          have ad : (Q 11 + 1).toInt = (Q 11).toInt + 1 := ad
          refine ⟨_, rfl, Or.inl ⟨S4, _, rfl, A4, C4, B4, _, j1, v4, ?_, evT_tr (evT_adv ra1 p2) ev4, z3, ?_, ?_, ?_, ?_⟩⟩
          · show RM q2'.1 C4 B4 n f _ j1 (q2'.1.1 7).toInt u (w + ((q2'.1.1 7).toInt - (M.1 7).toInt))
            rw [f4]; exact w4
          · show (Q 11).toInt = (Q 11 + 1).toInt - 1
            omega
          · show (B4 9 (Q 11).toInt.toNat).toInt = (Q 11 + 1).toInt - (Q 11).toInt
            have k3 : (B4 9 (Q 11).toInt.toNat).toInt = 1 := k3
            omega
          · show (Q 11).toInt < (Q 11 + 1).toInt
            omega
          · show (M.1 7).toInt < (q2'.1.1 7).toInt
            rw [f4]; omega
      · exact ⟨_, rfl, Or.inr ⟨X, rfl, g.mono (fun φ hφ hs => mm_piece_III_sk hφ _ _ _ _ hs _ e2)⟩⟩
theorem tests_all (hok : lw_ok G sz) (hK : 40 * n + 70 ≤ K1 ∧ 200 * n + 400 ≤ K2) : ∀ (d e : Nat), TsP G t0 H0 K1 K2 n f d 3 ((hm_P1 d).1) ((mm_P1 e).1) ∧ TsP G t0 H0 K1 K2 n f d 2 ((hm_P1 d).2.1) ((mm_P1 e).2.1) ∧ TsP G t0 H0 K1 K2 n f d 1 ((hm_P1 d).2.2) ((mm_P1 e).2.2)
  | 0, e => by
    refine ⟨?_, ?_, ?_⟩ <;>
    · intro S A C B Q j el P ND M b u w q h r hb hd hq
      have := r.2.2.2.2.2.2.2.1
      omega
  | d + 1, 0 => by
    refine ⟨?_, ?_, ?_⟩ <;>
    · intro S A C B Q j el P ND M b u w q h r hb hd hq
      cases hq
  | d + 1, e + 1 => by
    obtain ⟨h1, h2, h3⟩ := tests_all hok hK d e
    exact ⟨takeEither_t hok hK h2, takeClause_t hok hK h3, takePart_t hok hK h1 h3⟩
theorem either_l (hok : lw_ok G sz) (hK : 40 * n + 70 ≤ K1 ∧ 200 * n + 400 ≤ K2) (h : PV G t0 H0 K1 K2 n f S A C B Q j el P ND) (r : RM M C B n f Q j b u w) (hb : b ≤ (M.1 7).toInt) {q : md_S × Int32} (hq : mm_asked_r M = some q) : dc_wp (hm_PA_takeEither_r G S (A 0)) (fun z => (∃ S' x, z = .inl (S', x) ∧ tsO G t0 H0 K1 K2 n f A C B Q el P ND M u w S' x q) ∨ ∃ X : hg_X, z = .inr X ∧ thr t0 H0 K1 K2 n (A 0) (A 1) X q.1) := by
  refine (tests_all hok hK hm_d1 mm_d1).1 S A C B Q j el P ND M b u w q h r hb ?_ hq
  have := r.2.2.2.2.2.2.2.1
  show 3 * (24 - (M.1 11).toInt) + 3 ≤ ((400 : Nat) : Int)
  omega
end PRT
