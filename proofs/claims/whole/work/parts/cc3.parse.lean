/-! parse: what the class says of a text is what the reference says -/
section PRS3
variable {M : md_S} {q : md_S × Int32} {φ : Int32}
theorem L224_nb {y : Int32} (hq : mm_program_L224 M y = some q) (hφ : ¬ φ = 0) (hs : stk φ q.1) : q.1.1 10 = φ := by
  delta mm_program_L224 at hq
  rcases hs with hs | ⟨b1, b2, b3⟩
  · exact hs
  · exfalso
    rcases iv_if hq with ⟨c, y⟩ | ⟨c, y⟩
    · have y := (Option.some.inj y).symm
      subst y
      have b2 : tokS none (M.1 6) M.2.2.1 := b2
      rw [c] at b2
      rcases b2 with z | ⟨z, -⟩
      · exact absurd z (by decide)
      · exact absurd z (by decide)
    · obtain ⟨Mf, ef, y⟩ := iv_bind y
      have y := (Option.some.inj y).symm
      subst y
      have b1 : Mf.1 10 = 0 := b1
      have b3 : φ = 1 + 8 * Mf.1 8 := b3
      by_cases c10 : M.1 10 = 0
      · have e := fail_i c10 ef
        subst e
        have e8 : (md_i M 10 (1 + 8 * M.1 8)).1 8 = M.1 8 := md_ij (by omega)
        have e10 : (md_i M 10 (1 + 8 * M.1 8)).1 10 = 1 + 8 * M.1 8 := md_ii
        rw [e8] at b3
        rw [e10] at b1
        exact hφ (b3.trans b1)
      · have e : Mf = M := Option.some.inj (ef.symm.trans (fl_old c10))
        rw [e] at b1
        exact c10 b1
theorem L196_nb (hq : mm_program_L196 M = some q) (hφ : ¬ φ = 0) (hs : stk φ q.1) : q.1.1 10 = φ := by
  have hq : (if (0 : Int32) < (md_i M 17 (M.1 15 - M.1 16)).1 10 then (mm_program_L224 (md_i M 17 (M.1 15 - M.1 16)) 0) else ((mm_body_r (md_i M 17 (M.1 15 - M.1 16))).bind fun q3 => mm_program_L224 q3.1 q3.2)) = some q := hq
  rcases iv_if hq with ⟨-, y⟩ | ⟨-, y⟩
  · exact L224_nb y hφ hs
  · obtain ⟨q3, e3, y⟩ := iv_bind y
    exact L224_nb y hφ hs
theorem L155_nb (hq : mm_program_L155 M = some q) (hφ : ¬ φ = 0) (hs : stk φ q.1) : q.1.1 10 = φ := by
  have hq : (mm_meetsWord (md_i M 16 (M.1 15)) 7304564).bind (fun q5 => if q5.2 = 0 then mm_program_L196 q5.1 else ((mm_list q5.1 0).bind fun q6 => (mm_meetsSign q6 59).bind fun q7 => if q7.2 = 0 then ((mm_fail q7.1 1 (q7.1.1 8)).bind fun q8 => mm_program_L196 q8) else (mm_program_L196 q7.1))) = some q := hq
  obtain ⟨q5, e5, hq⟩ := iv_bind hq
  rcases iv_if hq with ⟨-, y⟩ | ⟨-, y⟩
  · exact L196_nb y hφ hs
  · obtain ⟨q6, e6, y⟩ := iv_bind y
    obtain ⟨q7, e7, y⟩ := iv_bind y
    rcases iv_if y with ⟨-, y⟩ | ⟨-, y⟩
    · obtain ⟨q8, e8, y⟩ := iv_bind y
      exact L196_nb y hφ hs
    · exact L196_nb y hφ hs
theorem prog_nb (hq : mm_program M = some q) (hφ : ¬ φ = 0) (hs : stk φ q.1) : q.1.1 10 = φ := by
  delta mm_program mm_program_L2 at hq
  obtain ⟨Mz, ez, hq⟩ := iv_bind hq
  delta mm_program_L104 at hq
  rcases iv_if hq with ⟨c, y⟩ | ⟨c, y⟩
  · have y := (Option.some.inj y).symm
    subst y
    rcases hs with hs | ⟨b1, -, -⟩
    · exact hs
    · have b1 : Mz.1 10 = 0 := b1
      rw [b1] at c
      exact absurd c lt00
  · have y : (mm_advance (md_i Mz 5 1)).bind (fun q10 => (mm_meetsWord q10 26990).bind fun q11 => if q11.2 = 0 then (mm_program_L155 q11.1) else ((mm_list q11.1 0).bind fun q12 => (mm_meetsSign q12 59).bind fun q13 => if q13.2 = 0 then ((mm_fail q13.1 1 (q13.1.1 8)).bind fun q14 => mm_program_L155 q14) else (mm_program_L155 q13.1))) = some q := y
    obtain ⟨q10, e10, y⟩ := iv_bind y
    obtain ⟨q11, e11, y⟩ := iv_bind y
    rcases iv_if y with ⟨-, y⟩ | ⟨-, y⟩
    · exact L155_nb y hφ hs
    · obtain ⟨q12, e12, y⟩ := iv_bind y
      obtain ⟨q13, e13, y⟩ := iv_bind y
      rcases iv_if y with ⟨-, y⟩ | ⟨-, y⟩
      · obtain ⟨q14, e14, y⟩ := iv_bind y
        exact L155_nb y hφ hs
      · exact L155_nb y hφ hs
end PRS3
section PRS4
variable {G : hg_E} {sz t0' : Nat} {H0 : Nat → Option va_E} {K1 K2 n : Nat} {f : Nat → Int32} {S : hg_S} {A C : Nat → Nat} {B : Nat → Nat → Int32} {Q : Nat → Int32} {el : Nat → Option Nat} {P : Nat → Nat} {ND : Nat → ndT} {M : md_S}
/-- a text with a fault: what is left of the class's heap -/
def flO (t0 : Nat) (H0 : Nat → Option va_E) (K1 K2 n : Nat) (S' : hg_S) : Prop := (hw S' ∧ t0 ≤ S'.2.1 ∧ ∀ b, b < t0 → hg_at S'.1 b = H0 b) ∧ K1 ≤ S'.2.2.1 + 40 * n + 70 ∧ K2 ≤ S'.2.2.2 + 170 * n + 200
theorem parse_l (hok : lw_ok G sz) (hK : 40 * n + 70 ≤ K1 ∧ 200 * n + 400 ≤ K2) (h : PV G t0' H0 K1 K2 n f S A C B Q 32 el P ND) (ht : txR M n f) (hi : inP C Q M) {q : md_S × Int32} (hq : mm_program M = some q) : dc_wp (hm_PA_parse G S (A 0)) (fun z => z.2 = q.1.1 10 ∧ ((q.1.1 10 = 0 ∧ prO G t0' H0 K1 K2 n f A z.1 q) ∨ (¬ q.1.1 10 = 0 ∧ flO t0' H0 K1 K2 n z.1))) := by
  delta hm_PA_parse
  refine wq_chk h.pa ?_
  refine wq_call (prog_l hok hK h ht hi hq) ?_
  rintro z (⟨S2, rfl, g⟩ | ⟨X, rfl, g⟩)
  · have g0 := g
    obtain ⟨A', C', B', Q', j', el', P', ND', T, i, I, u, w, p0, l0, g1, g2, -⟩ := g
    have f0 : q.1.1 10 = 0 := g2.2.2.2.1.2
    exact ⟨_, rfl, f0.symm, Or.inl ⟨f0, g0⟩⟩
  · obtain ⟨h1, h2, h3, ⟨x1, x2, x3, x4, x5, x6, h4⟩, φ, y0, y1, y2, y3, y4, h5, h6, h7⟩ := g
    have e := prog_nb hq h5 h6
    show dc_wp (if X.2.2 = true then _ else none) _
    rw [if_pos h1]
    refine wq_gr (x := some (A 1)) h4 rfl ?_
    refine wq_gi (x := φ) h7 rfl ?_
    exact ⟨_, rfl, e.symm, Or.inr ⟨by rw [e]; exact h5, h2, h3⟩⟩
end PRS4
