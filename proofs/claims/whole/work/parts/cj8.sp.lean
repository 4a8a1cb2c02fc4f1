/-! the reference's run along rows of sequences and of both: down and up -/
section SP
variable {M : md_S} {kk ff xx : Nat → Int32} {G H : Prop} {θ : (Int32 → Prop) → Int32 → Prop}
/-- children of a row of two; who stands above -/
theorem row_T : ∀ (T : tT) (V : Int32 → Prop) (k : Nat) (up : Int32) (w : Int) (t : Int32) (a c : Int), okT θ V T → LPr G H kk ff xx M.2.1 T k up w t a c → k + tsz T ≤ 1200 → ∀ j, k ≤ j → j < k + tsz T → (M.2.1 51 j = 5 ∨ M.2.1 51 j = 7 → M.2.1 52 j = Int32.ofNat (j + 1) ∧ j + 1 < k + tsz T) ∧ (¬ j = k → ∃ i, M.2.1 58 j = Int32.ofNat i ∧ k ≤ i ∧ i < j)
  | .const x, V, k, up, w, t, a, c, hO, h, hk, j, j1, j2 => by
    have j2 : j < k + 1 := j2
    have ej : j = k := by omega
    subst ej
    refine ⟨fun z => ?_, fun z => absurd rfl z⟩
    rw [h.1.1] at z
    rcases hO.1 with (u | u | u) | ⟨u, -⟩ <;> (rw [u] at z; exact absurd z (by decide))
  | .unary x A, V, k, up, w, t, a, c, hO, ⟨h1, h2⟩, hk, j, j1, j2 => by
    have j2 : j < k + (1 + tsz A) := j2
    have hk : k + (1 + tsz A) ≤ 1200 := hk
    show (M.2.1 51 j = 5 ∨ M.2.1 51 j = 7 → M.2.1 52 j = Int32.ofNat (j + 1) ∧ j + 1 < k + (1 + tsz A)) ∧ _
    by_cases ej : j = k
    · subst ej
      refine ⟨fun z => ?_, fun z => absurd rfl z⟩
      rw [h1.1.1] at z
      rcases hO.1.1 with ⟨u, -⟩ | ⟨u | u | u, -⟩ <;> (rw [u] at z; exact absurd z (by decide))
    · obtain ⟨r1, r2⟩ := row_T A _ (k + 1) _ _ _ _ _ hO.2 h2 (by omega) j (by omega) (by omega)
      refine ⟨fun z => ⟨(r1 z).1, by have := (r1 z).2; omega⟩, fun _ => ?_⟩
      by_cases e1 : j = k + 1
      · subst e1
        have up1 : M.2.1 58 (k + 1) = Int32.ofNat k := by
          cases A with
          | const y => exact h2.1.2.2.2.2.2.1
          | unary y A => exact h2.1.1.2.2.2.2.2.1
          | binary y A B => exact h2.1.1.2.2.2.2.2.1
          | _ => exact h2.elim
        exact ⟨k, up1, Nat.le_refl _, by omega⟩
      · obtain ⟨i, i1, i2, i3⟩ := r2 e1
        exact ⟨i, i1, by omega, i3⟩
  | .binary x A B, V, k, up, w, t, a, c, hO, ⟨h1, h2, h3⟩, hk, j, j1, j2 => by
    have j2 : j < k + (1 + tsz A + tsz B) := j2
    have hk : k + (1 + tsz A + tsz B) ≤ 1200 := hk
    have zA : 1 ≤ tsz A := by
      cases A with
      | const y => exact Nat.le_refl _
      | unary y A => show 1 ≤ 1 + tsz A; omega
      | binary y A B => show 1 ≤ 1 + tsz A + tsz B; omega
      | _ => exact h2.elim
    show (M.2.1 51 j = 5 ∨ M.2.1 51 j = 7 → M.2.1 52 j = Int32.ofNat (j + 1) ∧ j + 1 < k + (1 + tsz A + tsz B)) ∧ _
    by_cases ej : j = k
    · subst ej
      exact ⟨fun _ => ⟨h1.1.2.1, by omega⟩, fun z => absurd rfl z⟩
    · by_cases eb : j < k + 1 + tsz A
      · obtain ⟨r1, r2⟩ := row_T A _ (k + 1) _ _ _ _ _ hO.2.1 h2 (by omega) j (by omega) eb
        refine ⟨fun z => ⟨(r1 z).1, by have := (r1 z).2; omega⟩, fun _ => ?_⟩
        by_cases e1 : j = k + 1
        · subst e1
          have up1 : M.2.1 58 (k + 1) = Int32.ofNat k := by
            cases A with
            | const y => exact h2.1.2.2.2.2.2.1
            | unary y A => exact h2.1.1.2.2.2.2.2.1
            | binary y A B => exact h2.1.1.2.2.2.2.2.1
            | _ => exact h2.elim
          exact ⟨k, up1, Nat.le_refl _, by omega⟩
        · obtain ⟨i, i1, i2, i3⟩ := r2 e1
          exact ⟨i, i1, by omega, i3⟩
      · obtain ⟨r1, r2⟩ := row_T B _ (k + 1 + tsz A) _ _ _ _ _ hO.2.2 h3 (by omega) j (by omega) (by omega)
        refine ⟨fun z => ⟨(r1 z).1, by have := (r1 z).2; omega⟩, fun _ => ?_⟩
        by_cases e1 : j = k + 1 + tsz A
        · subst e1
          have up1 : M.2.1 58 (k + 1 + tsz A) = Int32.ofNat k := by
            cases B with
            | const y => exact h3.1.2.2.2.2.2.1
            | unary y A => exact h3.1.1.2.2.2.2.2.1
            | binary y A B => exact h3.1.1.2.2.2.2.2.1
            | _ => exact h3.elim
          exact ⟨k, up1, Nat.le_refl _, by omega⟩
        · obtain ⟨i, i1, i2, i3⟩ := r2 e1
          exact ⟨i, i1, by omega, i3⟩
theorem md_rn {S q : md_S} (h : md_fr [78, 79, 80, 81] [67, 71, 72, 73, 75] false false S q) : rnF S q := by
  refine ⟨fun i hi => h.1 i (fun hm => ?_), fun i hi => h.2.1 i (fun hm => ?_)⟩
  · simp only [List.mem_cons, List.not_mem_nil, or_false] at hm
    omega
  · simp only [List.mem_cons, List.not_mem_nil, or_false] at hm
    omega
/-- an up-loop to k passes k + 1 -/
theorem up_sp {st st' : md_S × Int32 → Option ((md_S × Int32) ⊕ md_S)} {k n : Nat} (hk : k + n ≤ 1199)
    (hs : ∀ (S : md_S) (i : Nat), rnF M S → k + 1 < i → i < k + 1 + n → st (S, Int32.ofNat i) = st' (S, Int32.ofNat i) ∧ ∀ y, st (S, Int32.ofNat i) = some y → ∃ S' j, y = .inl (S', Int32.ofNat j) ∧ rnF M S' ∧ k + 1 ≤ j ∧ j < i)
    (he : ∀ S : md_S, st' (S, Int32.ofNat (k + 1)) = some (.inr S)) : ∀ (g : Nat) (S q : md_S) (i : Nat), rnF M S → k + 1 ≤ i → i < k + 1 + n → dc_itN st g (S, Int32.ofNat i) = some q → ∃ q1, dc_it st' (S, Int32.ofNat i) = some q1 ∧ dc_it st (q1, Int32.ofNat (k + 1)) = some q
  | g, S, q, i, hF, h1, h2, hq => by
    by_cases e : i = k + 1
    · subst e
      refine ⟨S, ?_, dc_it_iff.mpr ⟨g, hq⟩⟩
      rw [dc_it_eq, he]
      rfl
    · obtain ⟨e1, e2⟩ := hs S i hF (by omega) h2
      cases g with
      | zero => cases hq
      | succ g =>
        unfold dc_itN at hq
        cases hy : st (S, Int32.ofNat i) with
        | none =>
          rw [hy] at hq
          cases hq
        | some y =>
          rw [hy] at hq
          obtain ⟨S', j, ey, F', j1, j2⟩ := e2 y hy
          subst ey
          have hq : dc_itN st g (S', Int32.ofNat j) = some q := hq
          obtain ⟨q1, a1, a2⟩ := up_sp hk hs he g S' q j F' j1 (by omega) hq
          refine ⟨q1, ?_, a2⟩
          rw [dc_it_eq, ← e1, hy]
          exact a1
end SP
section SQ
variable {M : md_S} {names : Int32} {kk ff ss xx : Nat → Int32} {m : Nat} {V : Int32 → Prop} {k : Nat} {up : Int32} {w : Int} {t : Int32} {a c : Int} {E : List (Int32 × Int32)} {x : Lean.Name} {A B : tT}
/-- sequence, called at a row -/
def rnS (M : md_S) (T : tT) (V : Int32 → Prop) (k w : Nat) : Prop := ∀ (d : Nat) (S q : md_S) (ρ : Nat → Nat) (md : Option Nat) (s : Prop) (p2 p3 : Int32), rnP M S V ρ md s p2 p3 w → mm_sequence (mm_P3 d) S (Int32.ofNat k) p2 p3 = some q → rnO M S q T k (zv M.2.1 (tvQ M.2.1 (siM M)) (siM M) (hsM M) (seM M) T k ρ md s)
theorem sq_79 {d : Nat} {S q : md_S} {p2 p3 x1 : Int32} (hq : mm_sequence_L79 (mm_P3 d) S x1 p2 p3 x1 = some q) : S = q := by
  delta mm_sequence_L79 at hq
  obtain ⟨z, ez, hq⟩ := iv_bind hq
  rw [dc_it_eq] at ez
  obtain ⟨y, ey, ez⟩ := iv_bind ez
  have ey : mm_sequence_b79 (mm_P3 d) S x1 p2 p3 x1 = some y := ey
  delta mm_sequence_b79 at ey
  rw [if_pos rfl] at ey
  have ey := Option.some.inj ey
  subst ey
  have ez : some S = some z := ez
  have hq : some z = some q := hq
  exact (Option.some.inj ez).trans (Option.some.inj hq)
/-- no sequence there -/
theorem sq_no {T : tT} (hk : k < 1200) {w' : Nat} (h51 : ¬ M.2.1 51 k = 5) (hT : rnT M T V k w') : rnS M T V k w' := by
  intro d S q ρ md s p2 p3 hP hq
  have tk : (Int32.ofNat k).toInt.toNat = k := by rw [Int32.toInt_ofNat_of_lt (by omega)]; omega
  have n5 : ¬ S.2.1 51 k = 5 := by rw [hP.1.2 51 (by omega)]; exact h51
  have hq : (dc_it (mm_sequence_s3 (mm_P3 d) S (Int32.ofNat k) p2 p3) (Int32.ofNat k)).bind (fun (z : Int32) => mm_sequence_L44 (mm_P3 d) S (Int32.ofNat k) p2 p3 z) = some q := hq
  obtain ⟨z, ez, hq⟩ := iv_bind hq
  rw [dc_it_eq] at ez
  obtain ⟨y, ey, ez⟩ := iv_bind ez
  have ey : mm_sequence_b3 (mm_P3 d) S (Int32.ofNat k) p2 p3 (Int32.ofNat k) = some y := ey
  delta mm_sequence_b3 at ey
  obtain ⟨-, -, ey⟩ := iv_ix ey
  rw [tk, if_neg n5] at ey
  have ey := Option.some.inj ey
  subst ey
  have ez : some (Int32.ofNat k) = some z := ez
  have ez := Option.some.inj ez
  subst ez
  delta mm_sequence_L44 at hq
  obtain ⟨-, -, hq⟩ := iv_ix hq
  rw [tk, if_neg n5] at hq
  obtain ⟨q8, e8, hq⟩ := iv_bind hq
  rw [← sq_79 hq]
  exact hT d S q8 ρ md s p2 p3 hP e8
/-- a sequence -/
theorem sq_yes (hm : m ≤ 1000) (h : sfT M kk ff xx m (.binary x A B) V k up w t a c E) (k5 : (lT x).1 = 5) (hSA : rnS M A V (k + 1) w.toNat) (hTB : rnT M B V (k + 1 + tsz A) (w + 1).toNat) : rnS M (.binary x A B) V k w.toNat := by
  intro d S q ρ md s p2 p3 hP hq
  obtain ⟨hA, hB⟩ := sfT_bi hm h
  have rT := sfT_p h
  have rA := sfT_p hA
  have rB := sfT_p hB
  have n1 : ¬ (lT x).1 = 1 := by rw [k5]; decide
  have ep : pas (.binary x A B) = pas A + pas B := by
    show (if (lT x).1 = 1 then (1 : Int) else 0) + (pas A + pas B) = _
    rw [if_neg n1]; omega
  have a0 := tsm_0 (fun V e h => pO_b hm h) A _ h.1.2.1
  have a1 := tsm_0 (fun V e h => pO_b hm h) B _ h.1.2.2
  have hb := h.2.2.2.2.1
  have hsz : k + (1 + tsz A + tsz B) ≤ 1200 := hb.1
  have row := h.2.1.1
  have tk : (Int32.ofNat k).toInt.toNat = k := by rw [Int32.toInt_ofNat_of_lt (by omega)]; omega
  have hP0 := hP
  obtain ⟨hF, hv, hmd, hs, h78⟩ := hP
  have lA : ∀ j, lcI A j → lcI (.binary x A B) j := fun j ⟨y, hy, e⟩ => ⟨y, List.mem_append_left _ hy, e⟩
  have lB : ∀ j, lcI B j → lcI (.binary x A B) j := fun j ⟨y, hy, e⟩ => ⟨y, List.mem_append_right _ hy, e⟩
  have kM : M.2.1 51 k = 5 := row.1.1.trans k5
  have e51 : S.2.1 51 k = 5 := by rw [hF.2 51 (by omega)]; exact kM
  have e52 : S.2.1 52 k = Int32.ofNat (k + 1) := by rw [hF.2 52 (by omega)]; exact row.1.2.1
  have e53 : ∀ X, rnF M X → X.2.1 53 k = Int32.ofNat (k + 1 + tsz A) := fun X hX => by rw [hX.2 53 (by omega)]; exact row.1.2.2.1
  have wk : M.2.1 57 k = Int32.ofNat (wtQ M.2.1 k) := by
    have := row.1.2.2.2.2.1
    unfold wtQ
    exact ofN_m (by omega) (by omega)
  have wk' := lw_row row
  have nA := fun (md : Option Nat) (s : Prop) (p : Nat) (z : zN (zv M.2.1 (tvQ M.2.1 (siM M)) (siM M) (hsM M) (seM M) A (k + 1) ρ md s) p) => (by have := N_in hm A _ _ _ _ _ _ _ _ _ _ _ hA p z; rw [rA.1, rA.2]; exact this : pfQ M.2.1 (k + 1) ≤ p ∧ p < ptQ M.2.1 (k + 1))
  have nB := fun (md : Option Nat) (s : Prop) (p : Nat) (z : zN (zv M.2.1 (tvQ M.2.1 (siM M)) (siM M) (hsM M) (seM M) B (k + 1 + tsz A) ρ md s) p) => (by have := N_in hm B _ _ _ _ _ _ _ _ _ _ _ hB p z; rw [rB.1, rB.2]; exact this : pfQ M.2.1 (k + 1 + tsz A) ≤ p ∧ p < ptQ M.2.1 (k + 1 + tsz A))
  have hrA : pfQ M.2.1 k ≤ pfQ M.2.1 (k + 1) ∧ ptQ M.2.1 (k + 1) ≤ ptQ M.2.1 k := by rw [rT.1, rT.2, rA.1, rA.2, ep]; omega
  have hrB : pfQ M.2.1 k ≤ pfQ M.2.1 (k + 1 + tsz A) ∧ ptQ M.2.1 (k + 1 + tsz A) ≤ ptQ M.2.1 k := by rw [rT.1, rT.2, rB.1, rB.2, ep]; omega
  have hdj : ptQ M.2.1 (k + 1) ≤ pfQ M.2.1 (k + 1 + tsz A) := by rw [rA.2, rB.1]; omega
  have hq : (dc_it (mm_sequence_s3 (mm_P3 d) S (Int32.ofNat k) p2 p3) (Int32.ofNat k)).bind (fun (z : Int32) => mm_sequence_L44 (mm_P3 d) S (Int32.ofNat k) p2 p3 z) = some q := hq
  obtain ⟨z, ez, hq⟩ := iv_bind hq
  rw [dc_it_eq] at ez
  obtain ⟨y, ey, ez⟩ := iv_bind ez
  have ey : mm_sequence_b3 (mm_P3 d) S (Int32.ofNat k) p2 p3 (Int32.ofNat k) = some y := ey
  delta mm_sequence_b3 at ey
  obtain ⟨-, -, ey⟩ := iv_ix ey
  rw [tk, if_pos e51] at ey
  -- down, and up again
  have go : ∀ (d' : Nat), (∀ S1 : md_S, S1.1 79 = S.1 79 → ((p2 = 0 ∧ M.2.1 57 k = Int32.ofNat d' ∧ d' ≤ 2000) ∨ (p2 = 1 ∧ S1.1 79 = Int32.ofNat (d' + 1)))) → d' ≤ (w + 1).toNat → mm_sequence_L32 (mm_P3 d) S (Int32.ofNat k) p2 p3 (Int32.ofNat k) = some y → rnO M S q (.binary x A B) k (zTh (zv M.2.1 (tvQ M.2.1 (siM M)) (siM M) (hsM M) (seM M) A (k + 1) ρ md s) (zv M.2.1 (tvQ M.2.1 (siM M)) (siM M) (hsM M) (seM M) B (k + 1 + tsz A) ρ (some d') (zM (zv M.2.1 (tvQ M.2.1 (siM M)) (siM M) (hsM M) (seM M) A (k + 1) ρ md s) 0))) := by
    intro d' hd hd2 ey
    delta mm_sequence_L32 at ey
    obtain ⟨-, -, ey⟩ := iv_ix ey
    rw [tk] at ey
    have ey : some (Sum.inl (S.2.1 52 k)) = some y := ey
    rw [e52] at ey
    have ey := Option.some.inj ey
    subst ey
    have ez : dc_it (mm_sequence_s3 (mm_P3 d) S (Int32.ofNat (k + 1)) p2 p3) (Int32.ofNat (k + 1)) = some z := ez
    -- where the way down ends
    have zin : ∃ i, z = Int32.ofNat i ∧ k + 1 ≤ i ∧ i < k + 1 + tsz A := by
      have key : dc_pw ((dc_it (mm_sequence_s3 (mm_P3 d) S (Int32.ofNat (k + 1)) p2 p3) (Int32.ofNat (k + 1))).bind some) (fun z => ∃ i, z = Int32.ofNat i ∧ k + 1 ≤ i ∧ i < k + 1 + tsz A) := by
        refine pw_loop (fun z => ∃ i, z = Int32.ofNat i ∧ k + 1 ≤ i ∧ i < k + 1 + tsz A) (fun z => ∃ i, z = Int32.ofNat i ∧ k + 1 ≤ i ∧ i < k + 1 + tsz A) ⟨k + 1, rfl, Nat.le_refl _, by omega⟩ ?_ (fun z h => pw_some h)
        rintro v ⟨i, ev, i1, i2⟩
        subst ev
        have ti : (Int32.ofNat i).toInt.toNat = i := by rw [Int32.toInt_ofNat_of_lt (by omega)]; omega
        show dc_pw (mm_sequence_b3 (mm_P3 d) S (Int32.ofNat (k + 1)) p2 p3 (Int32.ofNat i)) _
        delta mm_sequence_b3
        refine pw_ix (fun _ _ => ?_)
        rw [ti, hF.2 51 (by omega)]
        have stp : M.2.1 51 i = 5 → dc_pw (mm_sequence_L32 (mm_P3 d) S (Int32.ofNat (k + 1)) p2 p3 (Int32.ofNat i)) (Sum.elim (fun z => ∃ i, z = Int32.ofNat i ∧ k + 1 ≤ i ∧ i < k + 1 + tsz A) (fun z => ∃ i, z = Int32.ofNat i ∧ k + 1 ≤ i ∧ i < k + 1 + tsz A)) := by
          intro c5
          have r := (row_T A V (k + 1) _ _ _ _ _ hA.1 hA.2.1 (by omega) i i1 i2).1 (Or.inl c5)
          delta mm_sequence_L32
          refine pw_ix (fun _ _ => ?_)
          rw [ti, hF.2 52 (by omega), r.1]
          exact pw_some ⟨i + 1, rfl, by omega, r.2⟩
        refine pw_ifc (fun c5 => ?_) (fun c5 => pw_some ⟨i, rfl, i1, i2⟩)
        refine pw_ifc (fun c0 => ?_) (fun c0 => stp c5)
        refine pw_ix (fun _ _ => ?_)
        refine pw_any (fun h => ?_)
        exact pw_ifc (fun _ => pw_some ⟨i, rfl, i1, i2⟩) (fun _ => stp c5)
      exact key z (by rw [ez]; rfl)
    obtain ⟨i, ei, i1, i2⟩ := zin
    subst ei
    -- the up-loop is cut at k + 1
    have cut : ∀ q7, rnF M q7 → mm_sequence_L79 (mm_P3 d) q7 (Int32.ofNat k) p2 p3 (Int32.ofNat i) = some q → ∃ q1, mm_sequence_L79 (mm_P3 d) q7 (Int32.ofNat (k + 1)) p2 p3 (Int32.ofNat i) = some q1 ∧ dc_it (mm_sequence_s79 (mm_P3 d) (Int32.ofNat k) p2 p3) (q1, Int32.ofNat (k + 1)) = some q := by
      intro q7 F7 hq
      delta mm_sequence_L79 at hq
      obtain ⟨r, er, hq⟩ := iv_bind hq
      have hq : some r = some q := hq
      rw [Option.some.inj hq] at er
      obtain ⟨g, hg⟩ := dc_it_iff.mp er
      have inj : ∀ i j : Nat, i < 1200 → j < 1200 → Int32.ofNat i = Int32.ofNat j → i = j := fun i j hi hj e => by
        have := congrArg Int32.toInt e
        rw [Int32.toInt_ofNat_of_lt (by omega), Int32.toInt_ofNat_of_lt (by omega)] at this
        omega
      obtain ⟨q1, u1, u2⟩ := up_sp (M := M) (st := mm_sequence_s79 (mm_P3 d) (Int32.ofNat k) p2 p3) (st' := mm_sequence_s79 (mm_P3 d) (Int32.ofNat (k + 1)) p2 p3) (k := k) (n := tsz A) (by omega) (fun X i hX g1 g2 => by
        have n1 : ¬ Int32.ofNat i = Int32.ofNat k := fun e => by have := inj i k (by omega) (by omega) e; omega
        have n2 : ¬ Int32.ofNat i = Int32.ofNat (k + 1) := fun e => by have := inj i (k + 1) (by omega) (by omega) e; omega
        have ti : (Int32.ofNat i).toInt.toNat = i := by rw [Int32.toInt_ofNat_of_lt (by omega)]; omega
        have s1 : mm_sequence_s79 (mm_P3 d) (Int32.ofNat k) p2 p3 (X, Int32.ofNat i) = mm_sequence_b79 (mm_P3 d) X (Int32.ofNat k) p2 p3 (Int32.ofNat i) := rfl
        have s2 : mm_sequence_s79 (mm_P3 d) (Int32.ofNat (k + 1)) p2 p3 (X, Int32.ofNat i) = mm_sequence_b79 (mm_P3 d) X (Int32.ofNat (k + 1)) p2 p3 (Int32.ofNat i) := rfl
        rw [s1, s2]
        delta mm_sequence_b79
        rw [if_neg n1, if_neg n2]
        refine ⟨rfl, fun y hy => ?_⟩
        obtain ⟨-, -, hy⟩ := iv_ix hy
        rw [ti, hX.2 58 (by omega)] at hy
        obtain ⟨j, j1, j2, j3⟩ := (row_T A V (k + 1) _ _ _ _ _ hA.1 hA.2.1 (by omega) i (by omega) g2).2 (by omega)
        rw [j1] at hy
        delta dc_let at hy
        dsimp only at hy
        obtain ⟨-, -, hy⟩ := iv_ix hy
        obtain ⟨q4, e4, hy⟩ := iv_bind hy
        exact ⟨q4, j, (Option.some.inj hy).symm, rnF_tr hX (md_rn ((mm_P3_fr d).2.2.2.2.1 _ _ _ _ _ q4 e4)), j2, j3⟩) (fun X => by
        show mm_sequence_b79 (mm_P3 d) X (Int32.ofNat (k + 1)) p2 p3 (Int32.ofNat (k + 1)) = _
        delta mm_sequence_b79
        rw [if_pos rfl]) g q7 q i F7 i1 i2 hg
      refine ⟨q1, ?_, u2⟩
      show (dc_it (mm_sequence_s79 (mm_P3 d) (Int32.ofNat (k + 1)) p2 p3) (q7, Int32.ofNat i)).bind (fun (z : md_S) => mm_sequence_L112 (mm_P3 d) z) = some q1
      rw [u1]
      rfl
    have both : ∃ q1, mm_sequence (mm_P3 d) S (Int32.ofNat (k + 1)) p2 p3 = some q1 ∧ dc_it (mm_sequence_s79 (mm_P3 d) (Int32.ofNat k) p2 p3) (q1, Int32.ofNat (k + 1)) = some q := by
      have seq : mm_sequence (mm_P3 d) S (Int32.ofNat (k + 1)) p2 p3 = mm_sequence_L44 (mm_P3 d) S (Int32.ofNat (k + 1)) p2 p3 (Int32.ofNat i) := by
        show (dc_it (mm_sequence_s3 (mm_P3 d) S (Int32.ofNat (k + 1)) p2 p3) (Int32.ofNat (k + 1))).bind (fun (z : Int32) => mm_sequence_L44 (mm_P3 d) S (Int32.ofNat (k + 1)) p2 p3 z) = _
        rw [ez]
        rfl
      rw [seq]
      have ti : (Int32.ofNat i).toInt.toNat = i := by rw [Int32.toInt_ofNat_of_lt (by omega)]; omega
      have vx : dc_ix (Int32.ofNat i) 1200 = some i := by
        have := vq_ix (n := 1200) (i := Int32.ofNat i) (by rw [Int32.toInt_ofNat_of_lt (by omega)]; omega) (by rw [Int32.toInt_ofNat_of_lt (by omega)]; omega)
        rw [ti] at this
        exact this
      delta mm_sequence_L44 at hq ⊢
      rw [vx] at hq ⊢
      rw [Option.bind_some] at hq ⊢
      rcases iv_if hq with ⟨c5, hq⟩ | ⟨c5, hq⟩
      · rw [if_pos c5]
        rw [Option.bind_some] at hq ⊢
        obtain ⟨q7, e7, hq⟩ := iv_bind hq
        obtain ⟨q1, u1, u2⟩ := cut q7 (rnF_tr hF (md_rn ((mm_P3_fr d).1 _ _ _ _ q7 e7))) hq
        exact ⟨q1, by rw [e7]; exact u1, u2⟩
      · rw [if_neg c5]
        obtain ⟨q7, e7, hq⟩ := iv_bind hq
        obtain ⟨q1, u1, u2⟩ := cut q7 (rnF_tr hF (md_rn ((mm_P3_fr d).1 _ _ _ _ q7 e7))) hq
        exact ⟨q1, by rw [e7]; exact u1, u2⟩
    obtain ⟨q1, eq1, hq⟩ := both
    have ro := hSA d S q1 ρ md s p2 p3 hP0 eq1
    have G := rnO_G ro
    have F1 := rnF_tr hF G.1.1
    -- the last step up
    rw [dc_it_eq] at hq
    obtain ⟨y, ey, hq⟩ := iv_bind hq
    have ey : mm_sequence_b79 (mm_P3 d) q1 (Int32.ofNat k) p2 p3 (Int32.ofNat (k + 1)) = some y := ey
    delta mm_sequence_b79 at ey
    have nk : ¬ Int32.ofNat (k + 1) = Int32.ofNat k := fun e => by
      have := congrArg Int32.toInt e
      rw [Int32.toInt_ofNat_of_lt (by omega), Int32.toInt_ofNat_of_lt (by omega)] at this
      omega
    have tk1 : (Int32.ofNat (k + 1)).toInt.toNat = k + 1 := by rw [Int32.toInt_ofNat_of_lt (by omega)]; omega
    have up1 : M.2.1 58 (k + 1) = Int32.ofNat k := by
      have := hA.2.1
      cases A with
      | const y => exact this.1.2.2.2.2.2.1
      | unary y A => exact this.1.1.2.2.2.2.2.1
      | binary y A B => exact this.1.1.2.2.2.2.2.1
      | _ => exact this.elim
    rw [if_neg nk] at ey
    obtain ⟨-, -, ey⟩ := iv_ix ey
    rw [tk1, F1.2 58 (by omega), up1] at ey
    delta dc_let at ey
    dsimp only at ey
    obtain ⟨-, -, ey⟩ := iv_ix ey
    rw [tk, e53 _ F1] at ey
    obtain ⟨q4, e4, ey⟩ := iv_bind ey
    have ey := Option.some.inj ey
    subst ey
    have hq : dc_it (mm_sequence_s79 (mm_P3 d) (Int32.ofNat k) p2 p3) (q4, Int32.ofNat k) = some q := hq
    have e9 : q4 = q := sq_79 (d := d) (p2 := p2) (p3 := p3) (x1 := Int32.ofNat k) (by
      show (dc_it (mm_sequence_s79 (mm_P3 d) (Int32.ofNat k) p2 p3) (q4, Int32.ofNat k)).bind (fun (z : md_S) => mm_sequence_L112 (mm_P3 d) z) = some q
      rw [hq]
      rfl)
    subst e9
    have okA := zv_ok (Q := M.2.1) (tv := tvQ M.2.1 (siM M)) (σ := siM M) (hs := hsM M) (sel := seM M) A (k + 1) ρ md s
    obtain ⟨⟨cc, mm⟩, bh⟩ := bh_r hTB (by omega) F1 (sc_k G hA.2.2.2.2.2.2.2.2.2.2 hA.2.2.2.2.2.2.2.2.2.1 hv) (hd q1 G.1.2) hd2 hs ro.2.1.1 ro.2.1.2 okA (g78 G h78) e4
    refine rnG_O ?_ cc mm
    rcases bh with ⟨n0, eq⟩ | ⟨h0, G2⟩
    · rw [eq]
      exact rnG_T0 G n0 okA (nA _ _) hrA lA
    · exact rnG_Th G G2 h0 okA (zv_ok B _ _ _ _) (nA _ _) (nB _ _) ⟨hrA, hrB⟩ (Or.inr hdj) (fun j z => z.elim (lA j) (lB j))
  unfold zv
  rw [if_neg (by rw [k5]; decide), if_pos k5]
  cases md with
  | some d0 =>
    obtain ⟨m1, m2, m3⟩ : p2 = 1 ∧ S.1 79 = Int32.ofNat (d0 + 1) ∧ d0 ≤ w.toNat := hmd
    rw [if_neg (by rw [m1]; decide)] at ey
    exact go d0 (fun S1 e => Or.inr ⟨m1, by rw [e]; exact m2⟩) (by omega) ey
  | none =>
    have hmd0 : p2 = 0 := hmd
    rw [if_pos hmd0] at ey
    obtain ⟨-, -, ey⟩ := iv_ix ey
    rw [tk, e52] at ey
    obtain ⟨hh, eh, ey⟩ := iv_bind ey
    have bh := has_r hF (by omega) eh
    rcases iv_if ey with ⟨c0, ey⟩ | ⟨c0, ey⟩
    · -- what is behind resumes
      have nh : ¬ hsM M (k + 1) := bh.elim (fun z => absurd (z.2.symm.trans c0) (by decide)) (fun z => z.1)
      have ey := Option.some.inj ey
      subst ey
      have ez : some (Int32.ofNat k) = some z := ez
      have ez := Option.some.inj ez
      subst ez
      delta mm_sequence_L44 at hq
      obtain ⟨-, -, hq⟩ := iv_ix hq
      rw [tk, if_pos e51] at hq
      obtain ⟨-, -, hq⟩ := iv_ix hq
      rw [tk, e53 S hF] at hq
      obtain ⟨q7, e7, hq⟩ := iv_bind hq
      rw [← sq_79 hq]
      have ro := hTB d S q7 ρ none s 0 p3 ⟨hF, hv, rfl, hs, h78⟩ e7
      refine rnG_O (rnG_Sr (rnO_G ro) nh nh (nB _ _) hrB lB) ?_ ?_
      · exact cB_congr ro.2.1.1 (fun c => ⟨fun z => Or.inr ⟨nh, z⟩, fun z => z.elim (fun z => absurd z.1 nh) (fun z => z.2)⟩)
      · exact mB_cg ro.2.1.2 (fun c => ⟨fun z => Or.inr ⟨nh, z⟩, fun z => z.elim (fun z => absurd z.1 nh) (fun z => z.2)⟩)
    · have yh : hsM M (k + 1) := bh.elim (fun z => z.1) (fun z => absurd z.2 c0)
      have ro := go (wtQ M.2.1 k) (fun S1 _ => Or.inl ⟨hmd0, wk, by omega⟩) (by omega) ey
      refine rnG_O (rnG_Sl (rnO_G ro) yh (fun z => z yh) (fun p z => ?_) ⟨Nat.le_refl _, Nat.le_refl _⟩ (fun _ z => z)) ?_ ?_
      · rcases z with z | ⟨-, z⟩
        · have := nA _ _ p z
          omega
        · have := nB _ _ p z
          omega
      · exact cB_congr ro.2.1.1 (fun c => ⟨fun z => Or.inl ⟨yh, z⟩, fun z => z.elim (fun z => z.2) (fun z => absurd yh z.1)⟩)
      · exact mB_cg ro.2.1.2 (fun c => ⟨fun z => Or.inl ⟨yh, z⟩, fun z => z.elim (fun z => z.2) (fun z => absurd yh z.1)⟩)
end SQ
