/-! the reference's codes: a tree, whole -/
theorem ixE_l {s : Int32} : ∀ (E : List Int32), s ∈ E → ixE s E < E.length
  | [], h => by cases h
  | t :: r, h => by
    unfold ixE
    by_cases c : s = t
    · rw [if_pos c]; exact Nat.succ_pos _
    · rw [if_neg c]
      have := ixE_l r ((List.mem_cons.mp h).resolve_left c)
      show ixE s r + 1 < r.length + 1
      omega
theorem wf_exi {x : Lean.Name} {E : List (Int32 × Int32)} (h : wfT (.const x) E) (h9 : (lT x).1 = 9) : (lT x).2.2.2.2.1 ∈ E.map Prod.snd := by
  rcases h h9 with ⟨-, -, h⟩ | ⟨-, h⟩
  · cases E with
    | nil => cases h
    | cons p r =>
      have h : some p = some (-1, (lT x).2.2.2.2.1) := h
      have := Option.some.inj h
      rw [this]
      exact List.mem_cons_self
  · exact List.mem_map_of_mem (f := Prod.snd) h
section COD3
variable {names : Int32} {pk pf ps xx : Nat → Int32} {m : Nat} {θ : (Int32 → Prop) → Int32 → Prop} {G : Prop}
theorem cP_0 {V : Int32 → Prop} {x : Lean.Name} {Es : List Int32} {a b c : Int32} (h : lb0 V (lT x)) (n9 : ¬ (lT x).1 = 9) (hc : cdP (lT x).1 a b c) : cB c (cod (.const x) Es) := by
  have two : c = 1 ∧ ¬ (lT x).1 = 1 ∨ c = 2 ∧ (lT x).1 = 1 := by
    have nE : ¬ (lT x).1 = 3 ∧ ¬ (lT x).1 = 5 ∧ ¬ (lT x).1 = 7 ∧ ¬ (lT x).1 = 8 ∧ ¬ (lT x).1 = 4 ∧ ¬ (lT x).1 = 6 ∧ ((lT x).1 = 0 ∨ (lT x).1 = 1 ∨ (lT x).1 = 2) := by
      rcases h.1 with (y | y | y) | ⟨y, -⟩
      · rw [y]; decide
      · rw [y]; decide
      · exact absurd y n9
      · rw [y]; decide
    obtain ⟨n3, n5, n7, n8, n4, n6, n0⟩ := nE
    rcases hc with ⟨e, h⟩ | ⟨e, h⟩ | ⟨e, h⟩ | ⟨e, h⟩ | ⟨e, h⟩ | ⟨e, h⟩ | ⟨e, h⟩ | ⟨e, h⟩
    · exact Or.inl ⟨h, by rw [e]; decide⟩
    · exact Or.inr ⟨h, e⟩
    · exact Or.inl ⟨h, by rw [e]; decide⟩
    · exact absurd e n3
    · rcases e with e | e | ⟨e0, e1, e2, -⟩
      · exact absurd e n4
      · exact absurd e n6
      · rcases n0 with n | n | n
        · exact absurd n e0
        · exact absurd n e1
        · exact absurd n e2
    · exact absurd e n5
    · exact absurd e n7
    · exact absurd e n8
  rcases two with ⟨e, n⟩ | ⟨e, n⟩
  · subst e
    exact cB_congr cB_1 (fun k => ⟨fun z => Or.inr (Or.inr ⟨n9, n, z⟩), fun z => z.elim (fun y => absurd y.1 n9) (fun y => y.elim (fun y => absurd y.1 n) (fun y => y.2.2))⟩)
  · subst e
    exact cB_congr cB_2 (fun k => ⟨fun z => Or.inr (Or.inl ⟨n, z⟩), fun z => z.elim (fun y => absurd y.1 n9) (fun y => y.elim (fun y => y.2) (fun y => absurd n y.2.1))⟩)
theorem cP_1 {V : Int32 → Prop} {x : Lean.Name} {A : tT} {Es : List Int32} {a b c : Int32} (h : lb1 θ V (lT x)) (ha : cB a (cod A (if (lT x).1 = 8 then (lT x).2.2.2.2.1 :: Es else Es))) (hc : cdP (lT x).1 a b c) : cB c (cod (.unary x A) Es) := by
  have nE : ¬ (lT x).1 = 0 ∧ ¬ (lT x).1 = 1 ∧ ¬ (lT x).1 = 2 ∧ ¬ (lT x).1 = 3 ∧ ¬ (lT x).1 = 5 ∧ ¬ (lT x).1 = 7 := by
    rcases h.1 with ⟨y, -⟩ | ⟨y | y | y, -⟩ <;> (rw [y]; decide)
  obtain ⟨n0, n1, n2, n3, n5, n7⟩ := nE
  rcases hc with ⟨e, h⟩ | ⟨e, h⟩ | ⟨e, h⟩ | ⟨e, h⟩ | ⟨e, h⟩ | ⟨e, h⟩ | ⟨e, h⟩ | ⟨e, h⟩
  · exact absurd e n0
  · exact absurd e n1
  · exact absurd e n2
  · exact absurd e n3
  · have n8 : ¬ (lT x).1 = 8 := by
      rcases e with e | e | ⟨-, -, -, -, -, -, e, -⟩
      · rw [e]; decide
      · rw [e]; decide
      · exact e
    rw [if_neg n8] at ha
    rw [h]
    exact cB_congr ha (fun k => ⟨fun z => Or.inr ⟨n8, z⟩, fun z => z.elim (fun y => absurd y.1 n8) (fun y => y.2)⟩)
  · exact absurd e n5
  · exact absurd e n7
  · rw [if_pos e] at ha
    exact cB_congr (caught_b ha h) (fun k => ⟨fun z => Or.inl ⟨e, z⟩, fun z => z.elim (fun y => y.2) (fun y => absurd e y.1)⟩)
theorem cP_2 {V : Int32 → Prop} {x : Lean.Name} {A B : tT} {Es : List Int32} {a b c : Int32} (h : lb2 θ V (lT x)) (ha : cB a (cod A Es)) (hb : cB b (cod B Es)) (hc : cdP (lT x).1 a b c) : cB c (cod (.binary x A B) Es) := by
  have nE : ¬ (lT x).1 = 0 ∧ ¬ (lT x).1 = 1 ∧ ¬ (lT x).1 = 2 ∧ ¬ (lT x).1 = 4 ∧ ¬ (lT x).1 = 6 ∧ ¬ (lT x).1 = 8 ∧ ((lT x).1 = 3 ∨ (lT x).1 = 5 ∨ (lT x).1 = 7) := by
    rcases h.1 with ⟨y, -⟩ | ⟨y | y, -⟩ <;> (rw [y]; decide)
  obtain ⟨n0, n1, n2, n4, n6, n8, n3⟩ := nE
  rcases hc with ⟨e, h⟩ | ⟨e, h⟩ | ⟨e, h⟩ | ⟨e, h⟩ | ⟨e, h⟩ | ⟨e, h⟩ | ⟨e, h⟩ | ⟨e, h⟩
  · exact absurd e n0
  · exact absurd e n1
  · exact absurd e n2
  · have m5 : ¬ (lT x).1 = 5 := by rw [e]; decide
    have m7 : ¬ (lT x).1 = 7 := by rw [e]; decide
    rw [h]
    exact cB_congr (cB_or ha hb) (fun k => ⟨fun z => Or.inr (Or.inr ⟨m5, m7, z⟩), fun z => z.elim (fun y => absurd y.1 m5) (fun y => y.elim (fun y => absurd y.1 m7) (fun y => y.2.2))⟩)
  · rcases e with e | e | ⟨-, -, -, e1, e2, e3, -⟩
    · exact absurd e n4
    · exact absurd e n6
    · rcases n3 with n | n | n
      · exact absurd n e1
      · exact absurd n e2
      · exact absurd n e3
  · have m7 : ¬ (lT x).1 = 7 := by rw [e]; decide
    exact cB_congr (then_b ha hb h) (fun k => ⟨fun z => Or.inl ⟨e, z⟩, fun z => z.elim (fun y => y.2) (fun y => y.elim (fun y => absurd y.1 m7) (fun y => absurd e y.1))⟩)
  · have m5 : ¬ (lT x).1 = 5 := by rw [e]; decide
    exact cB_congr (pairs_b ha hb h) (fun k => ⟨fun z => Or.inr (Or.inl ⟨e, z⟩), fun z => z.elim (fun y => absurd y.1 m5) (fun y => y.elim (fun y => y.2) (fun y => absurd e y.2.1))⟩)
  · exact absurd e n8
theorem code_T (W : pcW names pk pf ps xx m) (hθ : ∀ V e, θ V e → 0 ≤ e.toInt ∧ e.toInt < (m : Int) ∧ 1 ≤ (xx e.toInt.toNat).toInt ∧ (xx e.toInt.toNat).toInt ≤ 2000) : ∀ (T : tT) (V : Int32 → Prop) (E : List (Int32 × Int32)) (S z : md_S) (v : Int32) (k : Nat) (up : Int32) (w : Int) (t : Int32) (a c : Int), okT θ V T → wfT T E → 0 ≤ c → LPr G True pk pf xx S.2.1 T k up w t a c → TE (S.2.1 60) (S.2.1 54) (E.map Prod.snd) k t → k + tsz T ≤ 1200 → E.length + tdp T ≤ 26 → v.toInt = (k : Int) + (tsz T : Int) - 1 → dc_it mm_lay_I_s480 (S, v) = some z → ∃ (S' : md_S) (v' : Int32), v'.toInt = (k : Int) - 1 ∧ dc_it mm_lay_I_s480 (S', v') = some z ∧ cdG S S' k (k + tsz T) ∧ CPr S'.2.1 T k (E.map Prod.snd)
  | .const x, V, E, S, z, v, k, up, w, t, a, c, hO, hw, h0, hL, hT, hk, hl, hv, hz => by
    have hk : k + 1 ≤ 1200 := hk
    have hv : v.toInt = (k : Int) + ((1 : Nat) : Int) - 1 := hv
    have hl : E.length + 0 ≤ 26 := hl
    obtain ⟨⟨l1, l2, l3, -⟩, l4, -, l5⟩ := hL
    have l5 := l5 trivial
    obtain ⟨q, eq, v', ev', hz'⟩ := cd_st (k := k) (by omega) (by omega) hz
    have te : (lT x).2.2.2.2.2 = -1 := hO.2.1
    obtain ⟨r1, r2, r3, r4⟩ := code_1 (by omega) l1 l5 (fun e => by
      have m := wf_exi hw e
      have hE : (E.map Prod.snd).length = E.length := List.length_map ..
      refine ⟨?_, m, by rw [hE]; omega, ?_⟩
      · rw [(l4 te).2 (by rw [e]; decide) (Or.inr trivial)]
        exact if_pos (Or.inr e)
      · have := ixE_l _ m
        rw [hE] at this
        omega) hT eq
    refine ⟨q, v', ev', hz', cdG_1 l1 r1 (fun e => (r3 e).1), ?_, ?_, fun e => (r4 e).1⟩
    · by_cases e : (lT x).1 = 9
      · refine cB_congr (r4 e).2 (fun j => ⟨fun y => Or.inl ⟨e, y⟩, fun y => y.elim (fun y => y.2) (fun y => y.elim (fun y => ?_) (fun y => absurd e y.1))⟩)
        rw [e] at y
        exact absurd y.1 (by decide)
      · exact cP_0 hO e (r3 e).2
    · rw [r2]
      unfold cdL
      rw [if_pos l3, if_pos l2]
      rfl
  | .unary x A, V, E, S, z, v, k, up, w, t, a, c, hO, hw, h0, hL, hT, hk, hl, hv, hz => by
    have hk : k + (1 + tsz A) ≤ 1200 := hk
    have hv : v.toInt = (k : Int) + ((1 + tsz A : Nat) : Int) - 1 := hv
    have hl : E.length + ((if (lT x).1 = 8 then 1 else 0) + tdp A) ≤ 26 := hl
    have hw : if (lT x).1 = 8 then wfT A (((lT x).2.2.2.1, (lT x).2.2.2.2.1) :: E) else wfT A E := hw
    obtain ⟨⟨⟨l1, l2, l3, -⟩, l4, -, l5⟩, hLA⟩ := hL
    have l5 := l5 trivial
    have tx := txx_0 (ok_t hθ (Or.inr (Or.inl hO.1)))
    have n9 : ¬ (lT x).1 = 9 := by rcases hO.1.1 with ⟨y, -⟩ | ⟨y | y | y, -⟩ <;> (rw [y]; decide)
    have tz := (tsm_0 hθ A _ hO.2).2.1
    have goA : ∃ (E' : List (Int32 × Int32)), E'.map Prod.snd = (if (lT x).1 = 8 then (lT x).2.2.2.2.1 :: E.map Prod.snd else E.map Prod.snd) ∧ wfT A E' ∧ E'.length + tdp A ≤ 26 ∧ TE (S.2.1 60) (S.2.1 54) (E'.map Prod.snd) (k + 1) (if (lT x).1 = 8 then Int32.ofNat k else t) := by
      by_cases e : (lT x).1 = 8
      · rw [if_pos e] at hw hl
        refine ⟨((lT x).2.2.2.1, (lT x).2.2.2.2.1) :: E, by rw [if_pos e]; rfl, hw, ?_, ?_⟩
        · show E.length + 1 + tdp A ≤ 26
          omega
        · rw [if_pos e]
          have te : (lT x).2.2.2.2.2 = -1 := by
            rcases hO.1.1 with ⟨y, -⟩ | ⟨-, y⟩
            · rw [e] at y; exact absurd y (by decide)
            · exact y
          refine ⟨k, by omega, rfl, ?_, ?_⟩
          · rw [(l4 te).2 (by rw [e]; decide) (Or.inr trivial)]
            exact if_pos (Or.inl e)
          · rw [l5]
            exact hT
      · rw [if_neg e] at hw hl
        refine ⟨E, by rw [if_neg e], hw, by omega, ?_⟩
        rw [if_neg e]
        exact TE_m (by omega) _ _ hT
    obtain ⟨E', eE, wE, lE, tE⟩ := goA
    obtain ⟨S1, v1, ev1, hz1, g1, c1⟩ := code_T W hθ A _ E' S z v (k + 1) _ _ _ _ _ hO.2 wE (by omega) hLA tE (by omega) lE (by rw [hv]; omega) hz
    rw [eE] at c1
    obtain ⟨q, eq, v', ev', hz'⟩ := cd_st (k := k) (by omega) (by rw [ev1]; omega) hz1
    have k1 : ∀ i, S1.2.1 i k = S.2.1 i k := fun i => g1.2.2.2.1 i k (by omega)
    obtain ⟨r1, r2, r3, -⟩ := code_1 (x := lT x) (t := t) (Es := E.map Prod.snd) (by omega) ((k1 51).trans l1) ((k1 60).trans l5) (fun e => absurd e n9) (TE_e _ _ _ (fun j hj => ⟨g1.2.2.2.1 60 j (by omega), g1.2.2.2.1 54 j (by omega)⟩) hT) eq
    have r3 := r3 n9
    obtain ⟨cr1, cr2⟩ := CPr_r A _ _ c1
    have t1 : (Int32.ofNat (k + 1)).toInt.toNat = k + 1 := by rw [Int32.toInt_ofNat_of_lt (by omega)]; omega
    have nm : ¬ Int32.ofNat (k + 1) = -1 := ofn_m (by omega)
    have eA : cdA S1 k = S1.2.1 55 (k + 1) := by
      unfold cdA
      rw [k1 52, l2, if_neg nm, t1]
    have eL : cdL S1 k = S1.2.1 59 (k + 1) := by
      unfold cdL
      rw [k1 53, l3, if_pos rfl, k1 52, l2, if_neg nm, t1]
    rw [eA] at r3
    rw [eL, cr2] at r2
    refine ⟨q, v', ev', hz', ?_, ⟨cP_1 hO.1 cr1 r3.2, ?_, fun e => absurd e n9⟩, ?_⟩
    · exact cdG_t g1 (cdG_1 ((k1 51).trans l1) r1 (fun _ => r3.1)) (by show k ≤ k + 1 ∧ k + 1 + tsz A ≤ k + (1 + tsz A); omega) (by show k ≤ k ∧ k + 1 ≤ k + (1 + tsz A); omega)
    · show q.2.1 59 k = Int32.ofNat (k + (1 + tsz A))
      rw [r2]
      exact congrArg Int32.ofNat (by omega)
    · exact CPr_e A _ _ (fun i j h1 h2 hi => r1.2.2.2 i j (by omega)) c1
  | .binary x A B, V, E, S, z, v, k, up, w, t, a, c, hO, hw, h0, hL, hT, hk, hl, hv, hz => by
    have hk : k + (1 + tsz A + tsz B) ≤ 1200 := hk
    have hv : v.toInt = (k : Int) + ((1 + tsz A + tsz B : Nat) : Int) - 1 := hv
    have hl : E.length + max (tdp A) (tdp B) ≤ 26 := hl
    obtain ⟨⟨⟨l1, l2, l3, -⟩, l4, -, l5⟩, hLA, hLB⟩ := hL
    have l5 := l5 trivial
    have tx := txx_0 (ok_t hθ (Or.inr (Or.inr hO.1)))
    have n9 : ¬ (lT x).1 = 9 := by rcases hO.1.1 with ⟨y, -⟩ | ⟨y | y, -⟩ <;> (rw [y]; decide)
    have n8 : ¬ (lT x).1 = 8 := by rcases hO.1.1 with ⟨y, -⟩ | ⟨y | y, -⟩ <;> (rw [y]; decide)
    obtain ⟨ta, tz, -, -⟩ := tsm_0 hθ A _ hO.2.1
    obtain ⟨tb, tzb, -, -⟩ := tsm_0 hθ B _ hO.2.2
    rw [if_neg n8] at hLA hLB
    obtain ⟨S1, v1, ev1, hz1, g1, c1⟩ := code_T W hθ B _ E S z v (k + 1 + tsz A) _ _ _ _ _ hO.2.2 hw.2 (by omega) hLB (TE_m (by omega) _ _ hT) (by omega) (by omega) (by rw [hv]; omega) hz
    have hLA1 : LPr G True pk pf xx S1.2.1 A (k + 1) _ _ t _ _ := LPr_e W hθ A _ _ _ _ _ _ _ hO.2.1 (by omega) (fun i j hi j1 j2 => g1.2.2.2.1 i j (by omega)) (fun _ j _ _ => ⟨by rw [g1.2.2.1 63 (by omega)], by rw [g1.2.2.1 64 (by omega)], by rw [g1.2.2.1 65 (by omega)], by rw [g1.2.2.1 66 (by omega)]⟩) hLA
    obtain ⟨S2, v2, ev2, hz2, g2, c2⟩ := code_T W hθ A _ E S1 z v1 (k + 1) _ _ _ _ _ hO.2.1 hw.1 (by omega) hLA1 (TE_m (b := k) (by omega) _ _ (TE_e _ _ _ (fun j hj => ⟨g1.2.2.2.1 60 j (by omega), g1.2.2.2.1 54 j (by omega)⟩) hT)) (by omega) (by omega) (by rw [ev1]; omega) hz1
    obtain ⟨q, eq, v', ev', hz'⟩ := cd_st (k := k) (by omega) (by rw [ev2]; omega) hz2
    have k1 : ∀ i, S2.2.1 i k = S.2.1 i k := fun i => (g2.2.2.2.1 i k (by omega)).trans (g1.2.2.2.1 i k (by omega))
    have hT2 : TE (S2.2.1 60) (S2.2.1 54) (E.map Prod.snd) k t := TE_e _ _ _ (fun j hj => ⟨(g2.2.2.2.1 60 j (by omega)).trans (g1.2.2.2.1 60 j (by omega)), (g2.2.2.2.1 54 j (by omega)).trans (g1.2.2.2.1 54 j (by omega))⟩) hT
    obtain ⟨r1, r2, r3, -⟩ := code_1 (x := lT x) (t := t) (Es := E.map Prod.snd) (by omega) ((k1 51).trans l1) ((k1 60).trans l5) (fun e => absurd e n9) hT2 eq
    have r3 := r3 n9
    have cB2 : CPr S2.2.1 B (k + 1 + tsz A) (E.map Prod.snd) := CPr_e B _ _ (fun i j h1 h2 hi => g2.2.2.2.1 i j (by omega)) c1
    obtain ⟨cr1, cr2⟩ := CPr_r A _ _ c2
    obtain ⟨cs1, cs2⟩ := CPr_r B _ _ cB2
    have t1 : (Int32.ofNat (k + 1)).toInt.toNat = k + 1 := by rw [Int32.toInt_ofNat_of_lt (by omega)]; omega
    have t2 : (Int32.ofNat (k + 1 + tsz A)).toInt.toNat = k + 1 + tsz A := by rw [Int32.toInt_ofNat_of_lt (by omega)]; omega
    have nm : ¬ Int32.ofNat (k + 1) = -1 := ofn_m (by omega)
    have nm2 : ¬ Int32.ofNat (k + 1 + tsz A) = -1 := ofn_m (by omega)
    have eA : cdA S2 k = S2.2.1 55 (k + 1) := by
      unfold cdA
      rw [k1 52, l2, if_neg nm, t1]
    have eB : cdB S2 k = S2.2.1 55 (k + 1 + tsz A) := by
      unfold cdB
      rw [k1 53, l3, if_neg nm2, t2]
    have eL : cdL S2 k = S2.2.1 59 (k + 1 + tsz A) := by
      unfold cdL
      rw [k1 53, l3, if_neg nm2, t2]
    rw [eA, eB] at r3
    rw [eL, cs2] at r2
    refine ⟨q, v', ev', hz', ?_, ⟨cP_2 hO.1 cr1 cs1 r3.2, ?_, fun e => absurd e n9⟩, ?_, ?_⟩
    · refine cdG_t (cdG_t (lo := k) (hi := k + (1 + tsz A + tsz B)) g1 g2 (by omega) (by omega)) (cdG_1 ((k1 51).trans l1) r1 (fun _ => r3.1)) ?_ ?_
      · show k ≤ k ∧ k + (1 + tsz A + tsz B) ≤ k + (1 + tsz A + tsz B)
        omega
      · show k ≤ k ∧ k + 1 ≤ k + (1 + tsz A + tsz B)
        omega
    · show q.2.1 59 k = Int32.ofNat (k + (1 + tsz A + tsz B))
      rw [r2]
      exact congrArg Int32.ofNat (by omega)
    · exact CPr_e A _ _ (fun i j h1 h2 hi => r1.2.2.2 i j (by omega)) c2
    · exact CPr_e B _ _ (fun i j h1 h2 hi => r1.2.2.2 i j (by omega)) cB2
end COD3
