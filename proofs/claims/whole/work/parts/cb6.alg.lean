/-! leaves, rows, pairs, branches -/
section ALS
variable {E : List (Int32 × Int32)} {s tm a l c s1 tm1 a1 l1 c1 s2 tm2 a2 l2 c2 : Int32} {p p0 p1 p2 : Int} {T T1 T2 : tT} {x : lbT} {S : List Int32} {k : Nat} {ln y e : Int32}
/-- a loop that can't end at once -/
theorem BU_lq (h : BU E s tm a l p T c s1 tm1 a1 l1 p1) (h6 : x.1 = 6) (h0 : ¬ cod T (E.map Prod.snd) 0) : BU E s tm a l p (t1 x T) c s1 tm1 a1 l1 p1 := by
  obtain ⟨g1, g2, ⟨g3, g4⟩, g5, g6, g7, g8⟩ := h
  have h8 : ¬ x.1 = 8 := by rw [h6]; decide
  have et : tpT (t1 x T) = tpT T := by rw [tpT_t1, if_neg h8]
  have ef : ∀ o, feP T (E.map Prod.snd) o → feP (t1 x T) (E.map Prod.snd) o := fun o z => feP_t1.mpr (Or.inr (Or.inr (Or.inl ⟨h6, h0, z⟩)))
  refine ⟨cB_congr g1 (fun k => ?_), g2, ⟨g3, fun z => ?_⟩, by rw [et]; exact g5, by rw [et]; exact g6, by rw [et]; exact g7, wfT_t1.mpr (by rw [if_neg h8]; exact g8)⟩
  · rw [cod_t1]
    exact ⟨fun z => Or.inr ⟨h8, z⟩, fun z => z.elim (fun y => absurd y.1 h8) (fun y => y.2)⟩
  · rcases g4 z with ⟨y1, y2⟩ | ⟨y, y1, y2⟩
    · exact Or.inl ⟨ef _ y1, y2⟩
    · exact Or.inr ⟨y, ef _ y1, y2⟩
theorem BU_0 (h9 : ¬ x.1 = 9) (h1 : ¬ x.1 = 1) (hp : p ≤ p1) : BU E s tm a l p (t0 x) 1 s tm a l p1 := BU_t0 h9 hp (cB_congr cB_1 (fun k => ⟨fun z => Or.inr ⟨h1, z⟩, fun z => z.elim (fun y => absurd y.1 h1) (fun y => y.2)⟩))
theorem BU_1 (h1 : x.1 = 1) (hp : p ≤ p1) : BU E s tm a l p (t0 x) 2 s tm a l p1 := BU_t0 (by rw [h1]; decide) hp (cB_congr cB_2 (fun k => ⟨fun z => Or.inl ⟨h1, z⟩, fun z => z.elim (fun y => y.2) (fun y => absurd h1 y.1)⟩))
theorem BU_seq (h1 : BU E s tm a l p T1 c1 s1 tm1 a1 l1 p1) (h2 : BU E s1 tm1 a1 l1 p1 T2 c2 s2 tm2 a2 l2 p2) (hc : mm_then c1 c2 = some c) : BU E s tm a l p (Tseq ln T1 T2) c s2 tm2 a2 l2 p2 := BU_bin h1 h2 (cB_congr (then_b h1.1 h2.1 hc) (fun k => cod_seq.symm))
theorem BU_both (h1 : BU E s tm a l p T1 c1 s1 tm1 a1 l1 p1) (h2 : BU E s1 tm1 a1 l1 p1 T2 c2 s2 tm2 a2 l2 p2) (hc : mm_pairs c1 c2 = some c) : BU E s tm a l p (Tboth ln T1 T2) c s2 tm2 a2 l2 p2 := BU_bin h1 h2 (cB_congr (pairs_b h1.1 h2.1 hc) (fun k => cod_both.symm))
theorem BU_pre (h1 : BU E s tm a l p T1 c1 s1 tm1 a1 l1 p1) (h2 : BU E s1 tm1 a1 l1 p1 T2 c2 s2 tm2 a2 l2 p2) : BU E s tm a l p (Tpre ln e T1 T2) (c1 ||| c2) s2 tm2 a2 l2 p2 := BU_bin h1 h2 (cB_congr (cB_or h1.1 h2.1) (fun k => cod_pre.symm))
theorem BU_not (hp : p ≤ p1) : BU E s tm a l p (Tnot ln) 1 s tm a l p1 := BU_0 (x := (0, ln, -1, -1, -1, -1)) (by show ¬ (0 : Int32) = 9; decide) (by show ¬ (0 : Int32) = 1; decide) hp
theorem BU_emi (hp : p ≤ p1) : BU E s tm a l p (Temi ln y) 1 s tm a l p1 := BU_0 (x := (2, ln, y, -1, -1, -1)) (by show ¬ (2 : Int32) = 9; decide) (by show ¬ (2 : Int32) = 1; decide) hp
theorem BU_pau (hp : p ≤ p1) : BU E s tm a l p (Tpau ln) 2 s tm a l p1 := BU_1 (x := (1, ln, -1, -1, -1, -1)) rfl hp
theorem BU_halt (hp : p ≤ p1) : BU E s tm a l p (Thalt ln) 2 s tm a l p1 := BU_lq (x := (6, ln, -1, -1, -1, -1)) (BU_pau hp) rfl (fun z => absurd (cod_pau.mp z) (by decide))
theorem BU_sus (hp : p ≤ p1) : BU E s tm a l p (Tsus ln y) 2 s tm a l p1 := by
  have h := BU_seq (ln := ln) (BU_emi (E := E) (s := s) (tm := tm) (a := a) (l := l) (p := p) (p1 := p) (ln := ln) (y := y) (Int.le_refl _)) (BU_pau (ln := ln) hp) (c := 2) (by decide +kernel)
  have h0 : ¬ cod (Tseq ln (Temi ln y) (Tpau ln)) (E.map Prod.snd) 0 := fun z => by
    have z2 : gb 2 0 = true := (h.1.1 0).mpr z
    rw [gb_2] at z2
    exact absurd z2 (by decide)
  exact BU_lq (x := (6, ln, -1, -1, -1, -1)) h rfl h0
theorem BU_sup (h : BU E s tm a l p T c s1 tm1 a1 l1 p1) (hp : p0 ≤ p) (h13 : a.toInt < p0 ∨ a = 32768) : BU E s tm a l p0 (Tsup ln e T) c s1 tm1 a1 l1 p1 := BU_un (x := (4, ln, -1, -1, -1, e)) (BU_from h hp h13) (by show ¬ (4 : Int32) = 8; decide) (by show ¬ (4 : Int32) = 6; decide)
theorem BU_10 (h : BU E s tm a l p T c s1 tm1 a1 l1 p1) (hp : p0 ≤ p) (h13 : a.toInt < p0 ∨ a = 32768) : BU E s tm a l p0 (t1 (10, ln, y, -1, -1, -1) T) c s1 tm1 a1 l1 p1 := BU_un (x := (10, ln, y, -1, -1, -1)) (BU_from h hp h13) (by show ¬ (10 : Int32) = 8; decide) (by show ¬ (10 : Int32) = 6; decide)
end ALS
