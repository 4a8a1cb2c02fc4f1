/-! read: class and reference, whole -/
section RDW
variable {G : hg_E} {sz t0 : Nat} {H0 : Nat → Option va_E} {K1 K2 nn : Nat} {fT : Nat → Int32} {S : hg_S} {A C : Nat → Nat} {B : Nat → Nat → Int32} {Q : Nat → Int32} {el : Nat → Option Nat} {P : Nat → Nat} {ND : Nat → ndT} {M : md_S} {o t : Nat} {ta tn : Value}
/-- what the safety says of the program that was read -/
def prF (q : md_S × Int32) : Prop := 0 ≤ q.1.1 10 ∧ (q.1.1 10 = 0 → (q.1.1 27 ≤ 1200 ∧ q.1.1 28 ≤ 1000) ∧ sb_nm (q.1.1 15) (q.1.1 2) (q.1.2.1 21) (q.1.2.1 22) ∧ (q.1.1 13 < 32768 → 1 ≤ q.1.1 14 ∧ q.1.1 14 ≤ 32769) ∧ (0 ≤ q.1.1 16 ∧ 0 ≤ q.1.1 17 ∧ q.1.1 16 + q.1.1 17 ≤ q.1.1 15))
theorem rdk_w (hok : lw_ok G sz) (hK : 40 * nn + 200 ≤ K1 ∧ 300 * nn + 3400 ≤ K2) (v : PV G t0 H0 K1 K2 nn fT S A C B Q 32 el P ND) (hft : ∀ i, fits .byte (.int (fT i)) = true) (ht : txR M nn fT) (hi : inP C Q M) (he : H0 o = some (.inr (0, enL t 0 0 .null .null .null .null 0 0 0 ta tn 0 0))) (lo : o < t0) {q25 r : md_S × Int32} (h25 : mm_program M = some q25) (hF : prF q25) (h42 : q25.1.1 42 = 0 ∧ q25.1.1 43 = 0 ∧ q25.1.1 47 = 0 ∧ q25.1.1 48 = 0 ∧ q25.1.1 49 = 0) (hq : (if q25.1.1 10 = 0 then (if q25.1.1 13 < 32768 then mm_read_L104 (md_i q25.1 10 (4 + (8 * (q25.1.1 14)))) q25.2 else mm_read_L104 q25.1 q25.2) else mm_read_L104 q25.1 q25.2) = some r) : dc_wp (rdK G o (A 0) S) (fun z => z.2 = r.2 ∧ (hw z.1 ∧ t0 ≤ z.1.2.1) ∧ (∀ b, b < t0 → b ≠ o → hg_at z.1.1 b = H0 b) ∧ (K1 ≤ z.1.2.2.1 + 40 * nn + 200 ∧ K2 ≤ z.1.2.2.2 + 300 * nn + 3400) ∧ rdR G t0 H0 o t ta tn q25.1 r z.1) := by
  delta rdK
  refine wq_chk v.pa ?_
  refine wq_call (parse_l hok (by omega) v ht hi h25) ?_
  rintro ⟨z, fz⟩ ⟨ez, hz⟩
  have ez : fz = q25.1.1 10 := ez
  subst ez
  rcases hz with ⟨f0, pr⟩ | ⟨f1, fl⟩
  · -- read
    rw [f0]
    show dc_wp (if (0 : Int32) = 0 then _ else _) _
    rw [if_pos rfl]
    rw [if_pos f0] at hq
    obtain ⟨A', C', B', Q', j', el', P', ND', T, i, I, u, w, p0, l0, pv, rm, eA, ⟨ei, rep, cv⟩, ⟨rr, fg, gk, i16, i17⟩, bu, q0, q1⟩ := pr
    have pv : PV G t0 H0 K1 K2 nn fT z A' C' B' Q' j' el' P' ND' := pv
    have eA0 := eA 0 (by omega)
    rw [← eA0]
    refine wq_chk pv.pa ?_
    obtain ⟨-, hF⟩ := hF
    obtain ⟨⟨h27, h28⟩, hnm, h14, hio⟩ := hF f0
    have t32 : (32768 : Int32).toInt = 32768 := by decide
    have h27 := i_le.mp h27
    have h28 := i_le.mp h28
    rw [show (1200 : Int32).toInt = 1200 by decide] at h27
    rw [show (1000 : Int32).toInt = 1000 by decide] at h28
    have h14' : (q25.1.1 13).toInt < 32768 → 1 ≤ (q25.1.1 14).toInt ∧ (q25.1.1 14).toInt ≤ 32769 := by
      intro c
      obtain ⟨a1, a2⟩ := h14 (i_lt.mpr (by rw [t32]; exact c))
      have a1 := i_le.mp a1
      have a2 := i_le.mp a2
      rw [il_1] at a1
      rw [show (32769 : Int32).toInt = 32769 by decide] at a2
      exact ⟨a1, a2⟩
    refine wq_call (judge_l pv rm (by omega) ei rep cv fg bu (fun c => (h14' c).1) q0 q1) ?_
    rintro ⟨S2, j2⟩ ⟨ej, F, D, dv, fr, st⟩
    have ej : j2 = jV q25.1 T (B' 9) := ej
    have dv : DV G S2 (A' 5) (A' 6) (A' 7) P' (Q' 12).toInt.toNat (fun i => (ND' i).2.2.1) (fun i => (ND' i).2.2.2.1) (A' 17) (C' 2) (B' 9) F D := dv
    have fr : frS P' (Q' 12).toInt.toNat (A' 5) z S2 (Q' 9).toInt.toNat := fr
    subst ej
    have us := RM.use pv rm
    have bb := rm.2.2.2.2.2.2.2.2.2.1
    have pp := rm.2.2.2.2.1.1
    have rmt := rm.1
    have pir := rm.2.2.2.2.2.2.2.2.1
    -- refused: forgotten
    have ng : ¬ jV q25.1 T (B' 9) = 0 → r.2 = jV q25.1 T (B' 9) → fgO q25.1 r → dc_wp (hm_SE_read_L49 G S2 o (some (A' 0)) (jV q25.1 T (B' 9))) (fun z => z.2 = r.2 ∧ (hw z.1 ∧ t0 ≤ z.1.2.1) ∧ (∀ b, b < t0 → b ≠ o → hg_at z.1.1 b = H0 b) ∧ (K1 ≤ z.1.2.2.1 + 40 * nn + 200 ∧ K2 ≤ z.1.2.2.2 + 300 * nn + 3400) ∧ rdR G t0 H0 o t ta tn q25.1 r z.1) := by
      intro n0 er fo
      have frt : ∀ b, b < t0 → hg_at S2.1 b = H0 b := fun b hb => (fr.2 b (fun k hk => by have := (pv.nd k hk).2.1; omega) (by have := pv.st.2.2.1 5 (by omega); omega) (show b ≠ z.2.1 by have := pv.st.2.2.2.2.2; omega)).trans (pv.st.2.2.2.1 b hb)
      delta hm_SE_read_L49
      rw [if_neg n0]
      have s2 := fr.1
      have e1 : S2.2.1 = z.2.1 + 1 := by rw [s2]
      have e2 : S2.2.2.1 = z.2.2.1 - 1 := by rw [s2]
      have e3 : S2.2.2.2 = z.2.2.2 - (Q' 9).toInt.toNat := by rw [s2]
      refine ⟨_, rfl, er.symm, ⟨dv.1.1, ?_⟩, fun b b1 _ => frt b b1, ⟨?_, ?_⟩, Or.inl ⟨by rw [er]; exact n0, (frt o lo).trans he, fo⟩⟩
      · show t0 ≤ S2.2.1
        have := pv.st.2.2.2.2.2
        omega
      · show K1 ≤ S2.2.2.1 + 40 * nn + 200
        omega
      · show K2 ≤ S2.2.2.2 + 300 * nn + 3400
        omega
    by_cases c13 : q25.1.1 13 < 32768
    · rw [if_pos c13] at hq
      have d13 := i_lt.mp c13
      rw [t32] at d13
      have a14 := h14' d13
      have p48 := v48 a14.1 a14.2
      have jn : jV q25.1 T (B' 9) = 4 + 8 * q25.1.1 14 := if_pos d13
      have n0 : ¬ 4 + 8 * q25.1.1 14 = 0 := by
        intro z
        rw [z, il_0] at p48
        omega
      delta mm_read_L104 at hq
      rw [md_ii, if_neg n0] at hq
      obtain ⟨g1, g2⟩ := rd_235 (M := q25.1) (X := md_i q25.1 10 (4 + (8 * (q25.1.1 14)))) (fun i hi => md_ij (by omega)) rfl (by rw [md_ii]; exact p48) hq
      rw [md_ii] at g1
      exact ng (by rw [jn]; exact n0) (by rw [jn]; exact g1) g2
    · rw [if_neg c13] at hq
      have d13 : ¬ (q25.1.1 13).toInt < 32768 := fun t => c13 (i_lt.mpr (by rw [t32]; exact t))
      obtain ⟨hi1, hi2, hi3⟩ := hio
      have hi1 := i_le.mp hi1
      have hi2 := i_le.mp hi2
      rw [il_0] at hi1 hi2
      by_cases c12 : q25.1.1 12 = 0
      · have fg0 := fg
        obtain ⟨tt, LL, ⟨o1, ⟨o2, o2'⟩, o3, o4⟩, f2, f3, f4⟩ := fg
        have bu0 := bu
        obtain ⟨b1, b2, b3, b4, b5, b6, b7⟩ := bu
        have pm := pir.2.2 c12
        have pir1 := pir.1
        have W := pir.2.1
        have m1000 : (Q' 11).toInt ≤ 1000 := by rw [pm.1]; exact h28
        have hθ : ∀ V e, pOk (B' 6) (B' 7) (B' 9) 0 (Q' 11).toInt V e → 0 ≤ e.toInt ∧ e.toInt < (((Q' 11).toInt.toNat : Nat) : Int) ∧ 1 ≤ (B' 9 e.toInt.toNat).toInt ∧ (B' 9 e.toInt.toNat).toInt ≤ 2000 := by
          rintro V e ⟨⟨e1, e2, e3, e4⟩, -⟩
          refine ⟨e1, by omega, e3, by omega⟩
        have W' : pcW (q25.1.1 15) (q25.1.2.1 36) (q25.1.2.1 37) (q25.1.2.1 38) (B' 9) (Q' 11).toInt.toNat := pcW_c W pm.2
        have nb : ∀ s : Nat, (s : Int) < (q25.1.1 15).toInt → (0 ≤ (q25.1.2.1 21 s).toInt ∧ (q25.1.2.1 21 s).toInt ≤ 32768) ∧ 0 ≤ (q25.1.2.1 22 s).toInt ∧ (q25.1.2.1 22 s).toInt ≤ 31 := by
          intro s hs
          have a := hnm s hs
          have b := rmt.1
          omega
        obtain ⟨r1, r2, r3⟩ := rd_lay W' (by omega) hθ o1 b7 rr h42 h27 ⟨rfl, rfl, rfl⟩ (by omega) (by omega) (by omega) f0 d13 (fun z => absurd c12 z) (fun _ => nb) hq
        by_cases j0 : jV q25.1 T (B' 9) = 0
        · have r20 : r.2 = 0 := r1.trans j0
          obtain ⟨Sx, qx, x1, x2, ly, t43, sO⟩ := r3 r20
          have nl : ¬ lgT q25.1 T (B' 9) := by
            intro lg
            have jn : jV q25.1 T (B' 9) = if lgT q25.1 T (B' 9) then 6 else 0 := if_neg d13
            rw [jn, if_pos lg] at j0
            exact absurd j0 (by decide)
          have i3 : (q25.1.1 16).toInt + (q25.1.1 17).toInt ≤ (q25.1.1 15).toInt := by
            have hi3 := i_le.mp hi3
            have b16 : (q25.1.1 16).toInt ≤ 31 := by
              by_cases c : 31 < (q25.1.1 16).toInt
              · exact absurd (Or.inl c) nl
              · omega
            have b17 : (q25.1.1 17).toInt ≤ 31 := by
              by_cases c : 31 < (q25.1.1 17).toInt
              · exact absurd (Or.inr (Or.inl c)) nl
              · omega
            rw [i_addS (by omega)] at hi3
            exact hi3
          rw [j0]
          exact rdk_ok hK pv rm ei rep cv fg0 bu0 q0 q1 c12 h28 hnm ⟨hi1, hi2, i3⟩ hft he lo dv fr st nl x1 x2 ly sO r20
        · exact ng j0 r1 (r2 (by rw [r1]; exact j0))
      · have lg : lgT q25.1 T (B' 9) := by
          obtain ⟨tt, LL, ⟨o1, ⟨o2, o2'⟩, o3, o4⟩, f2, f3, f4⟩ := fg
          by_cases c1 : (tsz T : Int) ≤ 1200
          · by_cases c2 : (Q' 11).toInt ≤ 1000
            · exact absurd (gk c1 c2) c12
            · exact Or.inr (Or.inr (Or.inr (Or.inr (Or.inl (by omega)))))
          · have := wsm_z T 1 (by omega)
            exact Or.inr (Or.inr (Or.inr (Or.inr (Or.inr (Or.inr (by omega))))))
        obtain ⟨g1, g2, g3⟩ := rd_gr f0 d13 c12 lg hq
        exact ng (by rw [← g1]; exact g2) g1 g3
  · -- a fault
    show dc_wp (if q25.1.1 10 = 0 then _ else _) _
    rw [if_neg f1]
    rw [if_neg f1] at hq
    delta mm_read_L104 at hq
    rw [if_neg f1] at hq
    have pos : 0 < (q25.1.1 10).toInt := by
      have h := i_le.mp hF.1
      rw [il_0] at h
      have : ¬ (q25.1.1 10).toInt = 0 := fun z => f1 (i_eq.mpr (z.trans il_0.symm))
      omega
    obtain ⟨g1, g2⟩ := rd_235 (M := q25.1) (X := q25.1) (fun _ _ => rfl) rfl pos hq
    obtain ⟨⟨y1, y2, y3⟩, y4, y5⟩ := fl
    delta hm_SE_read_L49
    rw [if_neg f1]
    have y2 : t0 ≤ z.2.1 := y2
    have y4 : K1 ≤ z.2.2.1 + 40 * nn + 70 := y4
    have y5 : K2 ≤ z.2.2.2 + 170 * nn + 200 := y5
    refine ⟨_, rfl, g1.symm, ⟨y1, y2⟩, fun b b1 _ => y3 b b1, ⟨?_, ?_⟩, Or.inl ⟨by rw [g1]; exact f1, (y3 o lo).trans he, g2⟩⟩
    · show K1 ≤ z.2.2.1 + 40 * nn + 200
      omega
    · show K2 ≤ z.2.2.2 + 300 * nn + 3400
      omega
/-- the reference's reader as read sets it up -/
def rd0 (M : md_S) : md_S := md_i (md_i (md_i (md_i (md_i (md_i (md_i (md_i (md_i (md_i (md_i (md_i (md_i M 0 0) 10 0) 28 0) 27 0) 11 0) 20 0) 19 0) 18 0) 15 0) 4 0) 5 1) 12 0) 13 32768
theorem rd0_f : ((rd0 M).1 0 = 0 ∧ (rd0 M).1 10 = 0 ∧ (rd0 M).1 28 = 0 ∧ (rd0 M).1 27 = 0 ∧ (rd0 M).1 11 = 0 ∧ (rd0 M).1 20 = 0 ∧ (rd0 M).1 19 = 0 ∧ (rd0 M).1 18 = 0 ∧ (rd0 M).1 15 = 0 ∧ (rd0 M).1 4 = 0 ∧ (rd0 M).1 5 = 1 ∧ (rd0 M).1 12 = 0 ∧ (rd0 M).1 13 = 32768) ∧ (rd0 M).2 = M.2 ∧ (rd0 M).1 2 = M.1 2 := ⟨⟨rfl, rfl, rfl, rfl, rfl, rfl, rfl, rfl, rfl, rfl, rfl, rfl, rfl⟩, rfl, rfl⟩
/-- read of both, from a tape that is the same -/
theorem read_l (hok : lw_ok G sz) (PS : prS) (hsz : sz ≤ S.2.1) {N : Nat} {g : Nat → Int32} {n f st en rn ex la : Int32} {pg rc hd sh : Value} (hp : tpR G S M o t N g n f [pg, rc, .int st, .int en, hd, sh, .int rn, ta, tn, .int ex, .int la]) {r : md_S × Int32} (hq : mm_read M = some r) (r1 : 40 * n.toInt.toNat + 300 ≤ S.2.2.1) (r2 : 301 * n.toInt.toNat + 3600 ≤ S.2.2.2) : dc_wp (hm_SE_read G S o) (fun z => z.2 = r.2 ∧ (hw z.1 ∧ S.2.1 ≤ z.1.2.1) ∧ (∀ b, b < S.2.1 → b ≠ o → hg_at z.1.1 b = hg_at S.1 b) ∧ (S.2.2.1 ≤ z.1.2.2.1 + 40 * n.toInt.toNat + 300 ∧ S.2.2.2 ≤ z.1.2.2.2 + 301 * n.toInt.toNat + 3600) ∧ ∃ M1 q25, zI M1 ∧ mm_program M1 = some q25 ∧ (∀ i, ¬ (i = 0 ∨ i = 4 ∨ i = 5 ∨ i = 10 ∨ i = 11 ∨ i = 12 ∨ i = 13 ∨ i = 15 ∨ i = 18 ∨ i = 19 ∨ i = 20 ∨ i = 27 ∨ i = 28 ∨ (41 ≤ i ∧ i ≤ 49) ∨ i = 77 ∨ i = 82 ∨ i = 83 ∨ i = 85 ∨ i = 86 ∨ i = 87 ∨ i = 106) → M1.1 i = M.1 i) ∧ M1.1 0 = 0 ∧ rdR G S.2.1 (fun b => hg_at z.1.1 b) o t ta tn q25.1 r z.1) := by
  obtain ⟨⟨⟨h1, h1'⟩, h2, h3⟩, ⟨h4, h5, h6⟩, h7, h8, h9, h10, h11, h12, h13⟩ := hp
  have hq : (mm_forget (rd0 M)).bind (fun q24 => (mm_program q24).bind (fun q25 => if q25.1.1 10 = 0 then (if q25.1.1 13 < 32768 then mm_read_L104 (md_i q25.1 10 (4 + (8 * (q25.1.1 14)))) q25.2 else mm_read_L104 q25.1 q25.2) else mm_read_L104 q25.1 q25.2)) = some r := hq
  obtain ⟨q24, e24, hq⟩ := iv_bind hq
  obtain ⟨q25, e25, hq⟩ := iv_bind hq
  have zi := fgt_w e24
  have fr24 := mm_forget_fr _ q24 e24
  obtain ⟨⟨y0, y10, y28, y27, y11, y20, y19, y18, y15, y4, y5, y12, y13⟩, y2, yl⟩ := rd0_f (M := M)
  have k24 : ∀ i, ¬ ((41 ≤ i ∧ i ≤ 49) ∨ i = 77 ∨ i = 82 ∨ i = 83 ∨ i = 85 ∨ i = 86 ∨ i = 87 ∨ i = 106) → q24.1 i = (rd0 M).1 i := by
    intro i hi
    refine fr24.1 i (fun hm => ?_)
    simp only [List.mem_cons, List.not_mem_nil, or_false] at hm
    omega
  have a24 : q24.2.1 1 = M.2.1 1 := by
    rw [fr24.2.1 1 (by decide), y2]
  have hF : prF q25 := by
    have h := PS q24 (i_le.mpr (by rw [k24 2 (by omega), yl, ← h4, il_0]; exact h8)) (i_le.mpr (by rw [k24 2 (by omega), yl, ← h4, show (32768 : Int32).toInt = 32768 by decide]; exact h9)) (by rw [k24 5 (by omega)]; exact y5) (by rw [k24 10 (by omega)]; exact y10) (by rw [k24 4 (by omega)]; exact y4) (by rw [k24 11 (by omega)]; exact y11) (by rw [k24 15 (by omega)]; exact y15) (by rw [k24 18 (by omega)]; exact y18) (by rw [k24 19 (by omega)]; exact y19) (by rw [k24 27 (by omega)]; exact y27) (by rw [k24 28 (by omega)]; exact y28) (by rw [k24 13 (by omega)]; exact y13)
    obtain ⟨q', e', h'⟩ := h
    rw [e25] at e'
    have e' := Option.some.inj e'
    subst e'
    exact h'
  have fr25 := mm_program_fr _ q25 e25
  have h42 : q25.1.1 42 = 0 ∧ q25.1.1 43 = 0 ∧ q25.1.1 47 = 0 ∧ q25.1.1 48 = 0 ∧ q25.1.1 49 = 0 := by
    rw [fr25.1 42 (by decide), fr25.1 43 (by decide), fr25.1 47 (by decide), fr25.1 48 (by decide), fr25.1 49 (by decide)]
    obtain ⟨⟨-, b42, b43, -, -, -, b47, b48, b49, -⟩, -⟩ := zi
    exact ⟨b42, b43, b47, b48, b49⟩
  have hE : G.2.2.1 < S.2.1 := by have := hok.2.2.1; omega
  have lo : o < S.2.1 := h2.lt h1
  have tn' : n.toInt = ((n.toInt.toNat : Nat) : Int) := by omega
  -- the class
  delta hm_SE_read
  refine wq_gr (x := some t) h1 rfl ?_
  refine wq_gi (x := n) h1 rfl ?_
  refine wq_call (cb_w h2 h1' h7 tn' (by omega) (by omega) (by omega) (by omega)) ?_
  rintro ⟨S1, v1⟩ ⟨ev, k1, s1, f1, fT, t1, t2, t3⟩
  have ev : v1 = some S.2.1 := ev
  subst ev
  have k1 : hw S1 := k1
  have s1 : S1.2 = (S.2.1 + 1, S.2.2.1 - 1, S.2.2.2 - n.toInt.toNat) := s1
  have f1 : ∀ b, b ≠ S.2.1 → hg_at S1.1 b = hg_at S.1 b := f1
  have t1 : hg_at S1.1 S.2.1 = some (.inl (G.1 1, n.toInt.toNat, .inl fT)) := t1
  have e1 : hg_at S1.1 o = some (.inr (0, enL t n f pg rc hd sh st en rn ta tn ex la)) := (f1 o (by omega)).trans h1
  refine wo_pf k1 e1 (Nat.le_of_ble_eq_true rfl) (fs' := enL t 0 f pg rc hd sh st en rn ta tn ex la) rfl (fun S2 k2 s2 e2 f2 => ?_)
  refine wo_pf k2 e2 (Nat.le_of_ble_eq_true rfl) (fs' := enL t 0 0 pg rc hd sh st en rn ta tn ex la) rfl (fun S3 k3 s3 e3 f3 => ?_)
  refine wq_chk e3 ?_
  refine wq_call (sf_w k3 e3) ?_
  rintro S4 ⟨k4, s4, e4, f4⟩
  have s4 : S4.2 = (S.2.1 + 1, S.2.2.1 - 1, S.2.2.2 - n.toInt.toNat) := by rw [s4, s3, s2, s1]
  have t4 : S4.2.1 = S.2.1 + 1 := by rw [s4]
  have c4 : S4.2.2.1 = S.2.2.1 - 1 ∧ S4.2.2.2 = S.2.2.2 - n.toInt.toNat := by rw [s4]; exact ⟨rfl, rfl⟩
  rw [t4]
  refine wo_new k4 (by omega) (by omega) (fun S5 k5 s5 e5 f5 => ?_)
  have t5 : S5.2.1 = S.2.1 + 2 := by rw [s5, t4]
  have c5 : S5.2.2.1 = S.2.2.1 - 2 ∧ S5.2.2.2 = S.2.2.2 - n.toInt.toNat - 7 := by
    rw [s5, c4.1, c4.2]
    refine ⟨?_, rfl⟩
    show S.2.2.1 - 1 - 1 = S.2.2.1 - 2
    omega
  rw [t4] at e5 f5
  refine wq_call (pai_w (tx := S.2.1) k5 e5 (by omega) (by omega)) (fun S6 v6 => ?_)
  have tx5 : hg_at S5.1 S.2.1 = some (.inl (G.1 1, n.toInt.toNat, .inl fT)) := (f5 _ (by omega)).trans ((f4 _ (by omega)).trans ((f3 _ (by omega)).trans ((f2 _ (by omega)).trans t1)))
  have c6 : S6.2.2.1 = S.2.2.1 - 19 ∧ S6.2.2.2 = S.2.2.2 - n.toInt.toNat - 84 ∧ S6.2.1 = S.2.1 + 19 := by
    rw [v6.2.2.1, c5.1, c5.2, t5]
    refine ⟨?_, ?_, rfl⟩
    · show S.2.2.1 - 2 - 17 = S.2.2.1 - 19
      omega
    · show S.2.2.2 - n.toInt.toNat - 7 - 77 = S.2.2.2 - n.toInt.toNat - 84
      omega
  have pv := pv_w (K1 := S6.2.2.1 + 44) (K2 := S6.2.2.2 + 88) v6 k5 t5 tx5 hE ⟨Nat.le_refl _, Nat.le_refl _⟩
  have fr6 : ∀ b, b < S.2.1 → b ≠ o → hg_at S6.1 b = hg_at S.1 b := fun b b1 b2 => by
    rw [v6.2.2.2.1 b (by omega) (by omega), f5 b (by omega), f4 b b2, f3 b b2, f2 b b2, f1 b (by omega)]
  have e6 : hg_at S6.1 o = some (.inr (0, enL t 0 0 .null .null .null .null 0 0 0 ta tn 0 0)) := by
    rw [v6.2.2.2.1 o (by omega) (by omega), f5 o (by omega)]
    exact e4
  have tx : txR q24 n.toInt.toNat fT := by
    refine ⟨?_, fun i hi => ?_, fun i => (fit_b (t3 i)).2⟩
    · rw [k24 2 (by omega), yl, ← h4]
      exact ⟨h8, h9, rfl⟩
    · rw [t2 i hi, a24]
      exact h6 i hi
  have ip : inP pvC pvQ q24 := by
    refine ⟨⟨fun k k1 k2 => if_neg k1, rfl, rfl, rfl, rfl, rfl⟩, ?_⟩
    rw [k24 4 (by omega), k24 5 (by omega), k24 10 (by omega), k24 11 (by omega), k24 12 (by omega), k24 13 (by omega), k24 15 (by omega), k24 18 (by omega), k24 19 (by omega), k24 20 (by omega), k24 27 (by omega), k24 28 (by omega)]
    exact ⟨y4, y5, y10, y11, y12, y13, y15, y18, y19, y20, y27, y28⟩
  show dc_wp (rdK G o (S.2.1 + 1) S6) _
  have a0 : pvA G S.2.1 0 = S.2.1 + 1 := rfl
  rw [← a0]
  refine dc_mono (rdk_w hok ⟨by omega, by omega⟩ pv t3 tx ip (o := o) e6 lo e25 hF h42 hq) ?_
  rintro ⟨z, z0⟩ ⟨g1, ⟨g2, g3⟩, g4, ⟨g5, g6⟩, g7⟩
  have g5 : S6.2.2.1 + 44 ≤ z.2.2.1 + 40 * n.toInt.toNat + 200 := g5
  have g6 : S6.2.2.2 + 88 ≤ z.2.2.2 + 300 * n.toInt.toNat + 3400 := g6
  refine ⟨g1, ⟨g2, g3⟩, fun b b1 b2 => (g4 b b1 b2).trans (fr6 b b1 b2), ⟨?_, ?_⟩, q24, q25, zi, e25, fun i hi => ?_, by rw [k24 0 (by omega)]; exact y0, g7⟩
  · show S.2.2.1 ≤ z.2.2.1 + _ + _
    omega
  · show S.2.2.2 ≤ z.2.2.2 + _ + _
    omega
  · rw [k24 i (by omega)]
    unfold rd0
    rw [md_ij (by omega), md_ij (by omega), md_ij (by omega), md_ij (by omega), md_ij (by omega), md_ij (by omega), md_ij (by omega), md_ij (by omega), md_ij (by omega), md_ij (by omega), md_ij (by omega), md_ij (by omega), md_ij (by omega)]
end RDW
