/-! the reference's run IS the meaning of the tree -/
section RUN
variable {M : md_S} {names : Int32} {kk ff ss xx : Nat → Int32} {m : Nat}
/-- held pauses are counted upwards -/
def h76 (M : md_S) (P : Nat) : Prop := ∀ p p', p ≤ p' → p' ≤ P → (M.2.1 76 p).toInt ≤ (M.2.1 76 p').toInt
theorem hs_m {P : Nat} (hh : h76 M P) {k j : Nat} (h1 : pfQ M.2.1 k ≤ pfQ M.2.1 j) (h2 : ptQ M.2.1 j ≤ ptQ M.2.1 k) (h3 : ptQ M.2.1 k ≤ P) (h4 : pfQ M.2.1 j ≤ ptQ M.2.1 j) (h : hsM M j) : hsM M k := by
  have a := hh _ _ h1 (by omega)
  have b := hh _ _ h2 h3
  have h : (M.2.1 76 (pfQ M.2.1 j)).toInt < (M.2.1 76 (ptQ M.2.1 j)).toInt := h
  show (M.2.1 76 (pfQ M.2.1 k)).toInt < (M.2.1 76 (ptQ M.2.1 k)).toInt
  omega
/-- both without a held pause have ended -/
theorem pa_end {p p' : Prop} {a b : zvT} {s : Prop} (hp : ¬ p) (hp' : ¬ p') : (∀ c, zC (zPa (zSl p (¬ p) a (zK 0 s)) (zSl p' (¬ p') b (zK 0 s))) c ↔ c = 0) ∧ (∀ c, zM (zPa (zSl p (¬ p) a (zK 0 s)) (zSl p' (¬ p') b (zK 0 s))) c ↔ s ∧ c = 0) ∧ (∀ i, ¬ zE (zPa (zSl p (¬ p) a (zK 0 s)) (zSl p' (¬ p') b (zK 0 s))) i) ∧ (∀ i, ¬ zS (zPa (zSl p (¬ p) a (zK 0 s)) (zSl p' (¬ p') b (zK 0 s))) i) ∧ ¬ zD (zPa (zSl p (¬ p) a (zK 0 s)) (zSl p' (¬ p') b (zK 0 s))) ∧ ∀ i, ¬ zN (zPa (zSl p (¬ p) a (zK 0 s)) (zSl p' (¬ p') b (zK 0 s))) i := by
  have C : ∀ {p : Prop} {a : zvT} {c : Nat}, ¬ p → (zC (zSl p (¬ p) a (zK 0 s)) c ↔ c = 0) := fun {p a c} hp => ⟨fun z => z.elim (fun z => absurd z.1 hp) (fun z => z.2), fun z => Or.inr ⟨hp, z⟩⟩
  have Mm : ∀ {p : Prop} {a : zvT} {c : Nat}, ¬ p → (zM (zSl p (¬ p) a (zK 0 s)) c ↔ s ∧ c = 0) := fun {p a c} hp => ⟨fun z => z.elim (fun z => absurd z.1 hp) (fun z => z.2), fun z => Or.inr ⟨hp, z⟩⟩
  refine ⟨fun c => ⟨fun z => ?_, fun z => ?_⟩, fun c => ⟨fun ⟨x, y, z1, z2, z3⟩ => ?_, fun z => ?_⟩, fun i z => ?_, fun i z => ?_, fun z => ?_, fun i z => ?_⟩
  · rcases z with ⟨z, -⟩ | ⟨z, -⟩
    · exact (C hp).mp z
    · exact (C hp').mp z
  · exact Or.inl ⟨(C hp).mpr z, 0, by omega, (C hp').mpr rfl⟩
  · have e1 := (Mm hp).mp z1
    have e2 := (Mm hp').mp z2
    exact ⟨e1.1, by omega⟩
  · exact ⟨0, 0, (Mm hp).mpr ⟨z.1, rfl⟩, (Mm hp').mpr ⟨z.1, rfl⟩, by omega⟩
  · rcases z with (z | z) | (z | z)
    · exact hp z.1
    · exact z.2
    · exact hp' z.1
    · exact z.2
  · rcases z with (z | z) | (z | z)
    · exact hp z.1
    · exact z.2
    · exact hp' z.1
    · exact z.2
  · rcases z with (z | z) | (z | z)
    · exact hp z.1
    · exact z.2
    · exact hp' z.1
    · exact z.2
  · rcases z with (z | z) | (z | z)
    · exact hp z.1
    · exact z.2
    · exact hp' z.1
    · exact z.2
theorem zv_7 {x : Lean.Name} {A B : tT} {k : Nat} {ρ : Nat → Nat} {md : Option Nat} {s : Prop} (k7 : (lT x).1 = 7) : zv M.2.1 (tvQ M.2.1 (siM M)) (siM M) (hsM M) (seM M) (.binary x A B) k ρ md s = zPa (sdM M A (k + 1) ρ md s) (sdM M B (k + 1 + tsz A) ρ md s) := by
  unfold zv
  rw [if_neg (by rw [k7]; decide), if_neg (by rw [k7]; decide)]
  cases md with
  | none => rfl
  | some d => rfl
theorem rg_bi {V : Int32 → Prop} {k : Nat} {up : Int32} {w : Int} {t : Int32} {a c : Int} {E : List (Int32 × Int32)} {x : Lean.Name} {A B : tT} (hm : m ≤ 1000) (h : sfT M kk ff xx m (.binary x A B) V k up w t a c E) : (pfQ M.2.1 k ≤ pfQ M.2.1 (k + 1) ∧ ptQ M.2.1 (k + 1) ≤ ptQ M.2.1 k ∧ pfQ M.2.1 (k + 1) ≤ ptQ M.2.1 (k + 1)) ∧ (pfQ M.2.1 k ≤ pfQ M.2.1 (k + 1 + tsz A) ∧ ptQ M.2.1 (k + 1 + tsz A) ≤ ptQ M.2.1 k ∧ pfQ M.2.1 (k + 1 + tsz A) ≤ ptQ M.2.1 (k + 1 + tsz A)) ∧ ptQ M.2.1 k = (a + pas (.binary x A B)).toNat := by
  obtain ⟨hA, hB⟩ := sfT_bi hm h
  have rT := sfT_p h
  have rA := sfT_p hA
  have rB := sfT_p hB
  have n1 : ¬ (lT x).1 = 1 := by rcases h.1.1.1 with ⟨z, -⟩ | ⟨z | z, -⟩ <;> (rw [z]; decide)
  have ep : pas (.binary x A B) = pas A + pas B := by
    show (if (lT x).1 = 1 then (1 : Int) else 0) + (pas A + pas B) = _
    rw [if_neg n1]; omega
  have a0 := tsm_0 (fun V e h => pO_b hm h) A _ h.1.2.1
  have a1 := tsm_0 (fun V e h => pO_b hm h) B _ h.1.2.2
  have hb := h.2.2.2.2.1
  refine ⟨?_, ?_, rT.2⟩
  · rw [ep] at rT hb
    omega
  · rw [ep] at rT hb
    omega
theorem run_T (hm : m ≤ 1000) (W : pcW names kk ff ss xx m) (h3 : ∀ i, v3 (M.2.1 70 i)) {P : Nat} (hh : h76 M P) : ∀ (T : tT) (V : Int32 → Prop) (k : Nat) (up : Int32) (w : Int) (t : Int32) (a c : Int) (E : List (Int32 × Int32)), sfT M kk ff xx m T V k up w t a c E → a + pas T ≤ (P : Int) → rnT M T V k w.toNat ∧ rnS M T V k w.toNat ∧ rnB M T V k w.toNat
  | .const x, V, k, up, w, t, a, c, E, h, hP => by
    have hsz : k + 1 ≤ 1200 := h.2.2.2.2.1.1
    have e51 : M.2.1 51 k = (lT x).1 := h.2.1.1.1
    have rn := rn_leaf h
    have n5 : ¬ M.2.1 51 k = 5 := by rw [e51]; rcases h.1.1 with (z | z | z) | ⟨z, -⟩ <;> (rw [z]; decide)
    have n7 : ¬ M.2.1 51 k = 7 := by rw [e51]; rcases h.1.1 with (z | z | z) | ⟨z, -⟩ <;> (rw [z]; decide)
    exact ⟨rn, sq_no (by omega) n5 rn, bo_no hm h (by omega) n7 rn⟩
  | .unary x A, V, k, up, w, t, a, c, E, h, hPP => by
    have hsz : k + (1 + tsz A) ≤ 1200 := h.2.2.2.2.1.1
    have e51 : M.2.1 51 k = (lT x).1 := h.2.1.1.1.1
    have hA := sfT_un hm h
    have ih := (run_T hm W h3 hh A _ _ _ _ _ _ _ _ hA (by rw [← pa_un h]; exact hPP)).1
    have n5 : ¬ M.2.1 51 k = 5 := by rw [e51]; rcases h.1.1.1 with ⟨z, -⟩ | ⟨z | z | z, -⟩ <;> (rw [z]; decide)
    have n7 : ¬ M.2.1 51 k = 7 := by rw [e51]; rcases h.1.1.1 with ⟨z, -⟩ | ⟨z | z | z, -⟩ <;> (rw [z]; decide)
    have rn : rnT M (.unary x A) V k w.toNat := by
      rcases h.1.1.1 with ⟨z, -⟩ | ⟨z | z | z, -⟩
      · have vLe : vL V (lT x) = V := if_neg (by rw [z]; decide)
        rw [vLe, if_neg (by rw [z]; decide), Int.add_zero] at ih
        exact rn_susp hm h3 W h z ih
      · have vLe : vL V (lT x) = V := if_neg (by rw [z]; decide)
        rw [vLe, if_pos z] at ih
        exact rn_loop hm h z ih
      · have vLe : vL V (lT x) = V := if_neg (by rw [z]; decide)
        rw [vLe, if_neg (by rw [z]; decide), Int.add_zero] at ih
        exact rn_trap hm h z ih
      · rw [if_neg (by rw [z]; decide), Int.add_zero] at ih
        exact rn_local hm h z ih
    exact ⟨rn, sq_no (by omega) n5 rn, bo_no hm h (by omega) n7 rn⟩
  | .binary x A B, V, k, up, w, t, a, c, E, h, hPP => by
    have hsz : k + (1 + tsz A + tsz B) ≤ 1200 := h.2.2.2.2.1.1
    have e51 : M.2.1 51 k = (lT x).1 := h.2.1.1.1.1
    obtain ⟨hA, hB⟩ := sfT_bi hm h
    have n1 : ¬ (lT x).1 = 1 := by rcases h.1.1.1 with ⟨z, -⟩ | ⟨z | z, -⟩ <;> (rw [z]; decide)
    have ep : pas (.binary x A B) = pas A + pas B := by
      show (if (lT x).1 = 1 then (1 : Int) else 0) + (pas A + pas B) = _
      rw [if_neg n1]; omega
    have a0 := tsm_0 (fun V e h => pO_b hm h) A _ h.1.2.1
    have a1 := tsm_0 (fun V e h => pO_b hm h) B _ h.1.2.2
    have hA0 := h.2.2.2.2.1.2.2.2.2.2.1
    obtain ⟨tA, sA, bA⟩ := run_T hm W h3 hh A _ _ _ _ _ _ _ _ hA (by omega)
    have tB := (run_T hm W h3 hh B _ _ _ _ _ _ _ _ hB (by omega)).1
    have tk : (Int32.ofNat k).toInt.toNat = k := by rw [Int32.toInt_ofNat_of_lt (by omega)]; omega
    rcases h.1.1.1 with ⟨z, -⟩ | ⟨z | z, -⟩
    · rw [if_neg (by rw [z]; decide), Int.add_zero] at tB
      have rn := rn_pres hm h3 W h z tA tB
      exact ⟨rn, sq_no (by omega) (by rw [e51, z]; decide) rn, bo_no hm h (by omega) (by rw [e51, z]; decide) rn⟩
    · rw [if_pos z] at tB
      have sq := sq_yes hm h z sA tB
      have rn : rnT M (.binary x A B) V k w.toNat := by
        intro d S q ρ md s p2 p3 hP hq
        have e51' : S.2.1 51 k = 5 := by rw [hP.1.2 51 (by omega), e51]; exact z
        obtain ⟨d', -, hq⟩ := rn_d (by omega) e51' (by decide) hq
        delta mm_run_L108 at hq
        obtain ⟨-, -, hq⟩ := iv_ix hq
        rw [tk] at hq
        delta dc_let at hq
        dsimp only at hq
        rw [e51', if_neg (by decide), if_neg (by decide), if_neg (by decide), if_neg (by decide), if_neg (by decide), if_pos rfl] at hq
        obtain ⟨q14, e14, hq⟩ := iv_bind hq
        have hq : some q14 = some q := hq
        rw [← Option.some.inj hq]
        cases d' with
        | zero =>
          have e14 : none = some q14 := e14
          cases e14
        | succ d' =>
          have e14 : mm_sequence (mm_P3 d') S (Int32.ofNat k) p2 p3 = some q14 := e14
          exact sq d' S q14 ρ md s p2 p3 hP e14
      exact ⟨rn, sq, bo_no hm h (by omega) (by rw [e51, z]; decide) rn⟩
    · rw [if_neg (by rw [z]; decide), Int.add_zero] at tB
      have rn : rnT M (.binary x A B) V k w.toNat := by
        intro d S q ρ md s p2 p3 hP hq
        have e51' : S.2.1 51 k = 7 := by rw [hP.1.2 51 (by omega), e51]; exact z
        obtain ⟨d', -, hq⟩ := rn_d (by omega) e51' (by decide) hq
        delta mm_run_L108 at hq
        obtain ⟨-, -, hq⟩ := iv_ix hq
        rw [tk] at hq
        delta dc_let at hq
        dsimp only at hq
        rw [e51', if_neg (by decide), if_neg (by decide), if_neg (by decide), if_neg (by decide), if_neg (by decide), if_neg (by decide), if_neg (by decide), if_pos rfl] at hq
        obtain ⟨q21, e21, hq⟩ := iv_bind hq
        have hq : some q21 = some q := hq
        rw [← Option.some.inj hq]
        cases d' with
        | zero =>
          have e21 : none = some q21 := e21
          cases e21
        | succ d' =>
          have e21 : mm_both (mm_P3 d') S (Int32.ofNat k) p2 p3 = some q21 := e21
          rw [zv_7 z]
          exact bo_yes hm h z bA tB hP e21
      refine ⟨rn, sq_no (by omega) (by rw [e51, z]; decide) rn, ?_⟩
      intro d S q ρ md s p2 p3 hP hq
      have ro := bo_yes hm h z bA tB hP hq
      cases md with
      | some d0 =>
        show rnO M S q (.binary x A B) k (zv M.2.1 (tvQ M.2.1 (siM M)) (siM M) (hsM M) (seM M) (.binary x A B) k ρ (some d0) s)
        rw [zv_7 z]
        exact ro
      | none =>
        show rnO M S q (.binary x A B) k (zSl (hsM M k) (¬ hsM M k) (zv M.2.1 (tvQ M.2.1 (siM M)) (siM M) (hsM M) (seM M) (.binary x A B) k ρ none s) (zK 0 s))
        rw [zv_7 z]
        have hN : ∀ p, zN (zPa (sdM M A (k + 1) ρ none s) (sdM M B (k + 1 + tsz A) ρ none s)) p → pfQ M.2.1 k ≤ p ∧ p < ptQ M.2.1 k := by
          intro p hp
          have := N_in (tv := tvQ M.2.1 (siM M)) (σ := siM M) (hs := hsM M) (sel := seM M) hm (.binary x A B) _ _ _ _ _ _ _ _ ρ none s h p (by rw [zv_7 z]; exact hp)
          have rg := sfT_p h
          rw [rg.1, rg.2]
          exact this
        by_cases yh : hsM M k
        · refine rnG_O (rnG_Sl (rnO_G ro) yh (fun z => z yh) hN ⟨Nat.le_refl _, Nat.le_refl _⟩ (fun _ z => z)) ?_ ?_
          · exact cB_congr ro.2.1.1 (fun c => ⟨fun z => Or.inl ⟨yh, z⟩, fun z => z.elim (fun z => z.2) (fun z => absurd yh z.1)⟩)
          · exact mB_cg ro.2.1.2 (fun c => ⟨fun z => Or.inl ⟨yh, z⟩, fun z => z.elim (fun z => z.2) (fun z => absurd yh z.1)⟩)
        · obtain ⟨⟨g1, g2, g2'⟩, ⟨g3, g4, g4'⟩, g5⟩ := rg_bi hm h
          have g5 : ptQ M.2.1 k ≤ P := by rw [g5]; omega
          have nA : ¬ hsM M (k + 1) := fun z => yh (hs_m hh g1 g2 g5 g2' z)
          have nB : ¬ hsM M (k + 1 + tsz A) := fun z => yh (hs_m hh g3 g4 g5 g4' z)
          obtain ⟨q1, q2, q3, q4, q5, q6⟩ := pa_end (a := zv M.2.1 (tvQ M.2.1 (siM M)) (siM M) (hsM M) (seM M) A (k + 1) ρ none s) (b := zv M.2.1 (tvQ M.2.1 (siM M)) (siM M) (hsM M) (seM M) B (k + 1 + tsz A) ρ none s) (s := s) nA nB
          refine rnG_O (rnG_cg (rnO_G ro) (fun i => ⟨fun z => z.elim (fun z => absurd z.1 yh) (fun z => z.2.elim), fun z => absurd z (q3 i)⟩) (fun i => ⟨fun z => z.elim (fun z => absurd z.1 yh) (fun z => z.2.elim), fun z => absurd z (q4 i)⟩) ⟨fun z => z.elim (fun z => absurd z.1 yh) (fun z => z.2.elim), fun z => absurd z q5⟩ (fun _ z => z) ⟨Nat.le_refl _, Nat.le_refl _⟩ (fun ⟨c, z⟩ => ⟨c, (q2 c).mpr (z.elim (fun z => absurd z.1 yh) (fun z => z.2))⟩) (fun _ p => ⟨fun z => z.elim (fun z => absurd z.1 yh) (fun z => z.2.elim), fun z => absurd z (q6 p)⟩) hN) ?_ ?_
          · exact cB_congr ro.2.1.1 (fun c => ⟨fun z => Or.inr ⟨yh, (q1 c).mp z⟩, fun z => z.elim (fun z => absurd z.1 yh) (fun z => (q1 c).mpr z.2)⟩)
          · exact mB_cg ro.2.1.2 (fun c => ⟨fun z => Or.inr ⟨yh, (q2 c).mp z⟩, fun z => z.elim (fun z => absurd z.1 yh) (fun z => (q2 c).mpr z.2)⟩)
  | .nodeWithAntiquot .., _, _, _, _, _, _, _, _, h, _ => h.1.elim
  | .node .., _, _, _, _, _, _, _, _, h, _ => h.1.elim
  | .trailingNode .., _, _, _, _, _, _, _, _, h, _ => h.1.elim
  | .symbol .., _, _, _, _, _, _, _, _, h, _ => h.1.elim
  | .nonReservedSymbol .., _, _, _, _, _, _, _, _, h, _ => h.1.elim
  | .cat .., _, _, _, _, _, _, _, _, h, _ => h.1.elim
  | .parser .., _, _, _, _, _, _, _, _, h, _ => h.1.elim
  | .sepBy .., _, _, _, _, _, _, _, _, h, _ => h.1.elim
  | .sepBy1 .., _, _, _, _, _, _, _, _, h, _ => h.1.elim
  | .unicodeSymbol .., _, _, _, _, _, _, _, _, h, _ => h.1.elim
end RUN
