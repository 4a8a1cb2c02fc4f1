/-! abort -/
section ALB
variable {E : List (Int32 × Int32)} {s tm a l c s1 tm1 a1 l1 c1 c2 : Int32} {p p1 : Int} {R : tT} {k : Nat} {ln e : Int32}
theorem cod_ex {sv : Int32} {S : List Int32} : cod (Tex ln sv) (sv :: S) k ↔ k = 2 := by
  rw [cod_t0]
  show ((9 : Int32) = 9 ∧ k = 2 + (if sv = sv then 0 else ixE sv S + 1)) ∨ ((9 : Int32) = 1 ∧ k = 1) ∨ (¬ (9 : Int32) = 9 ∧ ¬ (9 : Int32) = 1 ∧ k = 0) ↔ _
  rw [if_pos rfl]
  exact ⟨fun z => z.elim (fun y => y.2) (fun z => z.elim (fun y => absurd y.1 (by decide)) (fun y => absurd rfl y.1)), fun z => Or.inl ⟨rfl, z⟩⟩
theorem BU_abo (hk : EOK E s tm) (h : BU E s tm a l p R c1 s1 tm1 a1 l1 p1) (hs1 : s1.toInt ≤ 100000) (hx : mm_pairs (cAb2 (cAb c1)) 2 = some c2) (hc : mm_caught c2 = some c) : BU E s tm a l p (Tabo ln (s1 + 1) R (Twat ln e (s1 + 1))) c (s1 + 1) tm1 a1 l1 p1 := by
  obtain ⟨⟨k0, k1⟩, k2, k3, -, -⟩ := hk
  obtain ⟨g1, ⟨g2, g3, g4⟩, ⟨g5, g6⟩, g7, g8, g9, g10⟩ := h
  have es : (s1 + 1).toInt = s1.toInt + 1 := by rw [i_addS (by rw [il_1]; omega), il_1]
  have fr : ¬ (s1 + 1) ∈ ([] ++ E).map Prod.snd := fun z => by
    obtain ⟨y, hy, e1⟩ := List.mem_map.mp z
    have := (k3 y hy).2
    rw [e1] at this
    omega
  have ft : ∀ y, y ∈ tpT R → ¬ y.2 = s1 + 1 := fun y hy e1 => by
    have := (g7 y hy).1
    rw [e1] at this
    omega
  have hR : cB (cAb c1) (cod R ((s1 + 1) :: E.map Prod.snd)) := by
    refine cB_congr (cAb_b g1 (fun k z => by have := cod_lt R E k g10 z; omega)) (fun k => ?_)
    have z := cod_sh (sv := s1 + 1) (E := E) R [] k fr g10 ft
    refine Iff.trans ?_ z.symm
    show xIn (cod R (E.map Prod.snd)) k ↔ (k < 2 + 0 ∧ cod R (E.map Prod.snd) k) ∨ (2 + 0 < k ∧ cod R (E.map Prod.snd) (k - 1))
    exact ⟨fun z => z.imp (fun y => ⟨by omega, y.2⟩) (fun y => ⟨by omega, y.2⟩), fun z => z.imp (fun y => ⟨by omega, y.2⟩) (fun y => ⟨by omega, y.2⟩)⟩
  have hS : cB (cAb2 (cAb c1)) (cod (Tseq ln R (Tex ln (s1 + 1))) ((s1 + 1) :: E.map Prod.snd)) := by
    refine cB_congr (cAb2_b hR) (fun k => ?_)
    rw [cod_seq]
    constructor
    · rintro (⟨z1, z2⟩ | ⟨z1, z2 | z2⟩)
      · exact Or.inr ⟨z1, z2⟩
      · exact Or.inl ⟨z1, Or.inl z2⟩
      · exact Or.inl ⟨z1, Or.inr (cod_ex.mpr z2)⟩
    · rintro (⟨z1, z2 | z2⟩ | ⟨z1, z2⟩)
      · exact Or.inr ⟨z1, Or.inl z2⟩
      · exact Or.inr ⟨z1, Or.inr (cod_ex.mp z2)⟩
      · exact Or.inl ⟨z1, z2⟩
  have hU : cB c2 (cod (Tboth ln (Tseq ln R (Tex ln (s1 + 1))) (Twat ln e (s1 + 1))) ((s1 + 1) :: E.map Prod.snd)) := cB_congr (pairs_b hS (cB_congr cB_2 (fun k => (cod_wat (ln := ln) (e := e) (sv := s1 + 1) (S := (s1 + 1) :: E.map Prod.snd)).symm)) hx) (fun k => cod_both.symm)
  have et : tpT (Tboth ln (Tseq ln R (Tex ln (s1 + 1))) (Twat ln e (s1 + 1))) = tpT R := by
    show (tpT R ++ []) ++ tpT (Twat ln e (s1 + 1)) = tpT R
    rw [tp_wat, List.append_nil, List.append_nil]
  have ef : ∀ o, feP R (E.map Prod.snd) o → feP R ((s1 + 1) :: E.map Prod.snd) o := fun o z => (feP_sh (sv := s1 + 1) (E := E) R [] o fr g10 ft).mpr z
  have ww := wf_sh (sv := s1 + 1) (fun y hy => (k3 y hy).1.1) R [] g10
  refine BU_tr (x := (8, ln, -1, -1, s1 + 1, -1)) rfl hU hc ⟨by omega, g3, g4⟩ ⟨g5, fun z => ?_⟩ (fun y hy => ?_) ⟨by show s.toInt < (s1 + 1).toInt; omega, Int.le_refl _⟩ (Or.inl rfl) (by rw [et]; exact g8) (by rw [et]; exact g9) ?_
  · rcases g6 z with ⟨y1, y2⟩ | ⟨y, y1, y2⟩
    · exact Or.inl ⟨feP_bin (feP_bin (ef _ y1) feP_t0) feP_wat, y2⟩
    · exact Or.inr ⟨y, Or.inl ⟨y, Or.inl ⟨y, ef _ y1, rfl⟩, rfl⟩, y2⟩
  · rw [et] at hy
    obtain ⟨⟨z1, z2⟩, z3⟩ := g7 y hy
    refine ⟨⟨⟨z1, by omega⟩, ft y hy⟩, z3.imp id (fun z => ⟨z, fun e1 => ?_⟩)⟩
    have e1 : y.1 = -1 := e1
    rw [e1] at z
    have : (-1 : Int32).toInt = -1 := by decide
    omega
  · show wfT (Tboth ln (Tseq ln R (Tex ln (s1 + 1))) (t1 (6, ln, -1, -1, -1, -1) (Tseq ln (Tpau ln) (Tpre ln e (Tex ln (s1 + 1)) (Tnot ln))))) ((-1, s1 + 1) :: E)
    generalize hy : ((6, ln, -1, -1, -1, -1) : lbT) = y
    have z := wf_wat (E := E) (ln := ln) (e := e) (sv := s1 + 1) y (by rw [← hy])
    exact wf_bin (wf_bin ww wf_ex) z
end ALB
