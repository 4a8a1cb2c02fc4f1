/-! what is waited for; one trap more around -/
section ALW
variable {E : List (Int32 × Int32)} {s tm a l c s1 tm1 a1 l1 c1 : Int32} {p p0 p1 : Int} {T T1 T2 : tT} {x : lbT} {S : List Int32} {k : Nat} {o : Option Int32}
theorem feP_un {ln : Int32} (h0 : ¬ cod T S 0) (h : feP T S o) : feP (Tloop ln T) S o := feP_t1.mpr (Or.inr (Or.inr (Or.inl ⟨rfl, h0, h⟩)))
theorem feP_bin (h1 : feP T1 S none) (h2 : feP T2 S o) : feP (t2 x T1 T2) S o := Or.inr ⟨h1, h2⟩
theorem feP_t0 : feP (t0 x) S none := rfl
theorem feP_wat {ln e sv : Int32} : feP (Twat ln e sv) S none := by
  show feP (Tloop ln (Tseq ln (Tpau ln) (Tpre ln e (Tex ln sv) (Tnot ln)))) S none
  refine feP_un (fun z => ?_) (feP_bin feP_t0 (feP_bin feP_t0 feP_t0))
  exact absurd (cod_wat (ln := ln) (e := e) (sv := sv).mp (cod_loop.mpr z)) (by decide)
theorem tp_loop {ln : Int32} : tpT (Tloop ln T) = tpT T := by
  rw [tpT_t1, if_neg (by show ¬ (6 : Int32) = 8; decide)]
theorem tp_wat {ln e sv : Int32} : tpT (Twat ln e sv) = [] := by
  show tpT (Tloop ln (Tseq ln (Tpau ln) (Tpre ln e (Tex ln sv) (Tnot ln)))) = []
  rw [tp_loop]
  rfl
theorem wf_un (h8 : ¬ x.1 = 8) (h : wfT T E) : wfT (t1 x T) E := by
  rw [wfT_t1, if_neg h8]
  exact h
theorem wf_bin (h1 : wfT T1 E) (h2 : wfT T2 E) : wfT (t2 x T1 T2) E := ⟨h1, h2⟩
theorem wf_t0 (h : ¬ x.1 = 9) : wfT (t0 x) E := wfT_t0.mpr (fun z => absurd z h)
theorem wf_ex {ln sv : Int32} : wfT (Tex ln sv) ((-1, sv) :: E) := by
  have z := (wfT_t0 (x := (9, ln, 2, -1, sv, -1)) (E := (-1, sv) :: E)).mpr (fun _ => Or.inl ⟨rfl, rfl, rfl⟩)
  exact z
/-- the label as a letter: else Lean reckons with it -/
theorem wf_wat {ln e sv : Int32} (y : lbT) (hy : y.1 = 6) : wfT (t1 y (Tseq ln (Tpau ln) (Tpre ln e (Tex ln sv) (Tnot ln)))) ((-1, sv) :: E) := by
  have z1 := wf_t0 (x := (1, ln, -1, -1, -1, -1)) (E := (-1, sv) :: E) (by show ¬ (1 : Int32) = 9; decide)
  have z2 := wf_t0 (x := (0, ln, -1, -1, -1, -1)) (E := (-1, sv) :: E) (by show ¬ (0 : Int32) = 9; decide)
  have z3 := @wf_ex E ln sv
  have z4 := wf_bin (x := (3, ln, -1, -1, -1, e)) z3 z2
  have z5 := wf_bin (x := (5, ln, -1, -1, -1, -1)) z1 z4
  exact wf_un (x := y) (by rw [hy]; decide) z5
theorem BU_await {ln e : Int32} (hk : EOK E s tm) (hs : s.toInt ≤ 100000) (hp : p ≤ p1) : BU E s tm a l p (Tawa ln e (s + 1)) 2 (s + 1) tm a l p1 := by
  have k0 := hk.1
  have es : (s + 1).toInt = s.toInt + 1 := by rw [i_addS (by rw [il_1]; omega), il_1]
  have tw := tp_wat (ln := ln) (e := e) (sv := s + 1)
  show BU E s tm a l p (t1 (8, ln, -1, -1, s + 1, -1) (Twat ln e (s + 1))) 2 (s + 1) tm a l p1
  refine BU_tr (x := (8, ln, -1, -1, s + 1, -1)) rfl (cB_congr cB_2 (fun k => cod_wat.symm)) (c := 2) (by decide +kernel) ⟨by omega, Int.le_refl _, hp⟩ ⟨fun _ => ⟨rfl, rfl⟩, fun z => Or.inl ⟨feP_wat, z⟩⟩ (fun y hy => by rw [tw] at hy; cases hy) ⟨by show s.toInt < (s + 1).toInt; omega, Int.le_refl _⟩ (Or.inl rfl) (by rw [tw]; exact List.nodup_nil) (by rw [tw]; exact List.Pairwise.nil) ?_
  show wfT (t1 (6, ln, -1, -1, -1, -1) (Tseq ln (Tpau ln) (Tpre ln e (Tex ln (s + 1)) (Tnot ln)))) ((-1, s + 1) :: E)
  generalize hy : ((6, ln, -1, -1, -1, -1) : lbT) = y
  exact wf_wat y (by rw [← hy])
theorem feP_sh {sv : Int32} {E : List (Int32 × Int32)} : ∀ (T : tT) (L : List (Int32 × Int32)) (o : Option Int32), ¬ sv ∈ (L ++ E).map Prod.snd → wfT T (L ++ E) → (∀ p, p ∈ tpT T → ¬ p.2 = sv) → (feP T (L.map Prod.snd ++ sv :: E.map Prod.snd) o ↔ feP T (L.map Prod.snd ++ E.map Prod.snd) o) := by
  intro T
  induction T with
  | const x =>
    intro L o _ _ _
    exact Iff.rfl
  | unary x a iha =>
    intro L o hn h ht
    have h : (if (lT x).1 = 8 then wfT a (((lT x).2.2.2.1, (lT x).2.2.2.2.1) :: (L ++ E)) else wfT a (L ++ E)) := h
    have ht : ∀ p, p ∈ (if (lT x).1 = 8 then ((lT x).2.2.2.1, (lT x).2.2.2.2.1) :: tpT a else tpT a) → ¬ p.2 = sv := ht
    by_cases h8 : (lT x).1 = 8
    · rw [if_pos h8] at h ht
      have ne : ¬ (lT x).2.2.2.2.1 = sv := ht _ (List.mem_cons.mpr (Or.inl rfl))
      have n6 : ¬ (lT x).1 = 6 := by rw [h8]; decide
      have e : feP a ((lT x).2.2.2.2.1 :: (L.map Prod.snd ++ sv :: E.map Prod.snd)) o ↔ feP a ((lT x).2.2.2.2.1 :: (L.map Prod.snd ++ E.map Prod.snd)) o := iha (((lT x).2.2.2.1, (lT x).2.2.2.2.1) :: L) o (fun z => by
        rcases List.mem_cons.mp z with z | z
        · exact ne z.symm
        · exact hn z) h (fun p hp => ht p (List.mem_cons.mpr (Or.inr hp)))
      constructor
      · rintro (⟨-, z⟩ | ⟨z, -⟩ | ⟨z, -⟩ | ⟨z, -⟩)
        · exact Or.inl ⟨h8, e.mp z⟩
        · exact absurd z n6
        · exact absurd z n6
        · exact absurd h8 z
      · rintro (⟨-, z⟩ | ⟨z, -⟩ | ⟨z, -⟩ | ⟨z, -⟩)
        · exact Or.inl ⟨h8, e.mpr z⟩
        · exact absurd z n6
        · exact absurd z n6
        · exact absurd h8 z
    · rw [if_neg h8] at h ht
      have e := iha L o hn h ht
      have e0 := (cod_sh (sv := sv) (E := E) a L 0 hn h ht).trans xSh_0
      constructor
      · rintro (⟨z, -⟩ | ⟨z, z1, z2⟩ | ⟨z, z1, z2⟩ | ⟨z, z1, z2⟩)
        · exact absurd z h8
        · exact Or.inr (Or.inl ⟨z, e0.mp z1, z2⟩)
        · exact Or.inr (Or.inr (Or.inl ⟨z, fun y => z1 (e0.mpr y), e.mp z2⟩))
        · exact Or.inr (Or.inr (Or.inr ⟨z, z1, e.mp z2⟩))
      · rintro (⟨z, -⟩ | ⟨z, z1, z2⟩ | ⟨z, z1, z2⟩ | ⟨z, z1, z2⟩)
        · exact absurd z h8
        · exact Or.inr (Or.inl ⟨z, e0.mpr z1, z2⟩)
        · exact Or.inr (Or.inr (Or.inl ⟨z, fun y => z1 (e0.mp y), e.mpr z2⟩))
        · exact Or.inr (Or.inr (Or.inr ⟨z, z1, e.mpr z2⟩))
  | binary x a b iha ihb =>
    intro L o hn h ht
    have ea := fun o => iha L o hn h.1 (fun p hp => ht p (List.mem_append.mpr (Or.inl hp)))
    have eb := fun o => ihb L o hn h.2 (fun p hp => ht p (List.mem_append.mpr (Or.inr hp)))
    constructor
    · rintro (⟨y, z1, z2⟩ | ⟨z1, z2⟩)
      · exact Or.inl ⟨y, (ea _).mp z1, z2⟩
      · exact Or.inr ⟨(ea _).mp z1, (eb _).mp z2⟩
    · rintro (⟨y, z1, z2⟩ | ⟨z1, z2⟩)
      · exact Or.inl ⟨y, (ea _).mpr z1, z2⟩
      · exact Or.inr ⟨(ea _).mpr z1, (eb _).mpr z2⟩
  | _ =>
    intro L o _ h _
    exact False.elim h
theorem wf_sh {sv : Int32} {E : List (Int32 × Int32)} (hE : ∀ p, p ∈ E → 0 ≤ p.1.toInt) : ∀ (T : tT) (L : List (Int32 × Int32)), wfT T (L ++ E) → wfT T (L ++ (-1, sv) :: E) := by
  intro T
  induction T with
  | const x =>
    intro L h h9
    rcases h h9 with ⟨h1, h2, h3⟩ | ⟨h1, h2⟩
    · left
      refine ⟨h1, h2, ?_⟩
      cases L with
      | nil =>
        exfalso
        cases E with
        | nil => cases h3
        | cons q r =>
          have e : q = (-1, (lT x).2.2.2.2.1) := Option.some.inj h3
          have := hE q (List.mem_cons.mpr (Or.inl rfl))
          rw [e] at this
          exact absurd this (show ¬ 0 ≤ (-1 : Int32).toInt by decide)
      | cons q r => exact h3
    · right
      refine ⟨h1, ?_⟩
      rcases List.mem_append.mp h2 with z | z
      · exact List.mem_append.mpr (Or.inl z)
      · exact List.mem_append.mpr (Or.inr (List.mem_cons.mpr (Or.inr z)))
  | unary x a iha =>
    intro L h
    have h : (if (lT x).1 = 8 then wfT a (((lT x).2.2.2.1, (lT x).2.2.2.2.1) :: (L ++ E)) else wfT a (L ++ E)) := h
    show (if (lT x).1 = 8 then wfT a (((lT x).2.2.2.1, (lT x).2.2.2.2.1) :: (L ++ (-1, sv) :: E)) else wfT a (L ++ (-1, sv) :: E))
    by_cases h8 : (lT x).1 = 8
    · rw [if_pos h8] at h ⊢
      exact iha (((lT x).2.2.2.1, (lT x).2.2.2.2.1) :: L) h
    · rw [if_neg h8] at h ⊢
      exact iha L h
  | binary x a b iha ihb =>
    intro L h
    exact ⟨iha L h.1, ihb L h.2⟩
  | _ =>
    intro L h
    exact False.elim h
end ALW
