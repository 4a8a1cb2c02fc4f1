/-! the reference's run along rows of both; run, whole -/
section BO
variable {M : md_S} {names : Int32} {kk ff ss xx : Nat → Int32} {m : Nat} {V : Int32 → Prop} {k : Nat} {up : Int32} {w : Int} {t : Int32} {a c : Int} {E : List (Int32 × Int32)} {x : Lean.Name} {A B : tT}
/-- one of both -/
def sdM (M : md_S) (T : tT) (k : Nat) (ρ : Nat → Nat) (md : Option Nat) (s : Prop) : zvT := match md with
  | none => zSl (hsM M k) (¬ hsM M k) (zv M.2.1 (tvQ M.2.1 (siM M)) (siM M) (hsM M) (seM M) T k ρ none s) (zK 0 s)
  | some d => zv M.2.1 (tvQ M.2.1 (siM M)) (siM M) (hsM M) (seM M) T k ρ (some d) s
def rnB (M : md_S) (T : tT) (V : Int32 → Prop) (k w : Nat) : Prop := ∀ (d : Nat) (S q : md_S) (ρ : Nat → Nat) (md : Option Nat) (s : Prop) (p2 p3 : Int32), rnP M S V ρ md s p2 p3 w → mm_both (mm_P3 d) S (Int32.ofNat k) p2 p3 = some q → rnO M S q T k (sdM M T k ρ md s)
theorem sd_ok {T : tT} {ρ : Nat → Nat} {md : Option Nat} {s : Prop} : zOk s (sdM M T k ρ md s) := by
  cases md with
  | none => exact zSl_ok (zv_ok T _ _ _ _) zK_ok (fun c => ⟨fun z y => y z.1, fun z y => z.1 y⟩)
  | some d => exact zv_ok T _ _ _ _
theorem sd_n {T : tT} (hm : m ≤ 1000) (h : sfT M kk ff xx m T V k up w t a c E) {ρ : Nat → Nat} {md : Option Nat} {s : Prop} : ∀ p, zN (sdM M T k ρ md s) p → pfQ M.2.1 k ≤ p ∧ p < ptQ M.2.1 k := by
  intro p hp
  have rg := sfT_p h
  rw [rg.1, rg.2]
  cases md with
  | none =>
    rcases hp with ⟨-, hp⟩ | ⟨-, hp⟩
    · exact N_in hm T _ _ _ _ _ _ _ _ _ _ _ h p hp
    · exact hp.elim
  | some d => exact N_in hm T _ _ _ _ _ _ _ _ _ _ _ h p hp
theorem sd_r {T : tT} (hm : m ≤ 1000) (h : sfT M kk ff xx m T V k up w t a c E) (hT : rnT M T V k w.toNat) (hk : k < 1200) {d : Nat} {S q : md_S} {ρ : Nat → Nat} {md : Option Nat} {s : Prop} {p2 p3 : Int32} (hP : rnP M S V ρ md s p2 p3 w.toNat) (hq : (mm_P3 d).2.2.2.2.2.2.1 S (Int32.ofNat k) p2 p3 = some q) : rnO M S q T k (sdM M T k ρ md s) := by
  have hP0 := hP
  obtain ⟨hF, hv, hmd, hs, h78⟩ := hP
  cases d with
  | zero =>
    have hq : none = some q := hq
    cases hq
  | succ d =>
    have hq : mm_side (mm_P3 d) S (Int32.ofNat k) p2 p3 = some q := hq
    have l12 : mm_side_L12 (mm_P3 d) S (Int32.ofNat k) p2 p3 = some q → (mm_P3 d).1 S (Int32.ofNat k) p2 p3 = some q := by
      intro e
      delta mm_side_L12 at e
      obtain ⟨q2, e2, e⟩ := iv_bind e
      have e : some q2 = some q := e
      rw [Option.some.inj e] at e2
      exact e2
    delta mm_side at hq
    cases md with
    | some d0 =>
      have m1 : p2 = 1 := hmd.1
      rw [if_neg (by rw [m1]; decide)] at hq
      exact hT d S q ρ (some d0) s p2 p3 hP0 (l12 hq)
    | none =>
      have m0 : p2 = 0 := hmd
      rw [if_pos m0] at hq
      obtain ⟨hh, eh, hq⟩ := iv_bind hq
      have bh := has_r hF hk eh
      show rnO M S q T k (zSl (hsM M k) (¬ hsM M k) (zv M.2.1 (tvQ M.2.1 (siM M)) (siM M) (hsM M) (seM M) T k ρ none s) (zK 0 s))
      rcases iv_if hq with ⟨c0, hq⟩ | ⟨c0, hq⟩
      · have nh : ¬ hsM M k := bh.elim (fun z => absurd (z.2.symm.trans c0) (by decide)) (fun z => z.1)
        have ro : rnO M S q T k (zK 0 s) := by
          rcases iv_if hq with ⟨c1, hq⟩ | ⟨c1, hq⟩
          · delta mm_side_L33 at hq
            obtain ⟨q1, e1, hq⟩ := iv_bind hq
            have hq : some q1 = some q := hq
            rw [← Option.some.inj hq, out_r e1]
            exact out_O (cd := 0) (by omega) cB_1 (hs.elim (fun z => absurd (z.2.symm.trans c1) (by decide)) (fun z => Or.inr ⟨z.1, rfl⟩))
          · delta mm_side_L33 at hq
            obtain ⟨q1, e1, hq⟩ := iv_bind hq
            have hq : some q1 = some q := hq
            rw [← Option.some.inj hq, out_r e1]
            exact out_O (cd := 0) (by omega) cB_1 (hs.elim (fun z => Or.inl ⟨z.1, rfl⟩) (fun z => absurd z.2 c1))
        refine rnG_O (rnG_Sr (rnO_G ro) nh nh (fun p z => z.elim) ⟨Nat.le_refl _, Nat.le_refl _⟩ (fun _ z => z)) ?_ ?_
        · exact cB_congr ro.2.1.1 (fun c => ⟨fun z => Or.inr ⟨nh, z⟩, fun z => z.elim (fun z => absurd z.1 nh) (fun z => z.2)⟩)
        · exact mB_cg ro.2.1.2 (fun c => ⟨fun z => Or.inr ⟨nh, z⟩, fun z => z.elim (fun z => absurd z.1 nh) (fun z => z.2)⟩)
      · have yh : hsM M k := bh.elim (fun z => z.1) (fun z => absurd z.2 c0)
        have ro := hT d S q ρ none s p2 p3 hP0 (l12 hq)
        refine rnG_O (rnG_Sl (rnO_G ro) yh (fun z => z yh) (fun p z => sd_n (md := none) (ρ := ρ) (s := s) hm h p (Or.inl ⟨yh, z⟩)) ⟨Nat.le_refl _, Nat.le_refl _⟩ (fun _ z => z)) ?_ ?_
        · exact cB_congr ro.2.1.1 (fun c => ⟨fun z => Or.inl ⟨yh, z⟩, fun z => z.elim (fun z => z.2) (fun z => absurd yh z.1)⟩)
        · exact mB_cg ro.2.1.2 (fun c => ⟨fun z => Or.inl ⟨yh, z⟩, fun z => z.elim (fun z => z.2) (fun z => absurd yh z.1)⟩)
theorem bo_35 {d : Nat} {S q : md_S} {p2 p3 x1 : Int32} (hq : mm_both_L35 (mm_P3 d) S x1 p2 p3 x1 = some q) : S = q := by
  delta mm_both_L35 at hq
  obtain ⟨z, ez, hq⟩ := iv_bind hq
  rw [dc_it_eq] at ez
  obtain ⟨y, ey, ez⟩ := iv_bind ez
  have ey : mm_both_b35 (mm_P3 d) S x1 p2 p3 x1 = some y := ey
  delta mm_both_b35 at ey
  rw [if_pos rfl] at ey
  have ey := Option.some.inj ey
  subst ey
  have ez : some S = some z := ez
  have hq : some z = some q := hq
  exact (Option.some.inj ez).trans (Option.some.inj hq)
theorem bo_no {T : tT} (hm : m ≤ 1000) (h : sfT M kk ff xx m T V k up w t a c E) (hk : k < 1200) (h51 : ¬ M.2.1 51 k = 7) (hT : rnT M T V k w.toNat) : rnB M T V k w.toNat := by
  intro d S q ρ md s p2 p3 hP hq
  have tk : (Int32.ofNat k).toInt.toNat = k := by rw [Int32.toInt_ofNat_of_lt (by omega)]; omega
  have n7 : ¬ S.2.1 51 k = 7 := by rw [hP.1.2 51 (by omega)]; exact h51
  have hq : (dc_it (mm_both_s3 (mm_P3 d) S (Int32.ofNat k) p2 p3) (Int32.ofNat k)).bind (fun (z : Int32) => mm_both_L27 (mm_P3 d) S (Int32.ofNat k) p2 p3 z) = some q := hq
  obtain ⟨z, ez, hq⟩ := iv_bind hq
  rw [dc_it_eq] at ez
  obtain ⟨y, ey, ez⟩ := iv_bind ez
  have ey : mm_both_b3 (mm_P3 d) S (Int32.ofNat k) p2 p3 (Int32.ofNat k) = some y := ey
  delta mm_both_b3 at ey
  obtain ⟨-, -, ey⟩ := iv_ix ey
  rw [tk, if_neg n7] at ey
  have ey := Option.some.inj ey
  subst ey
  have ez : some (Int32.ofNat k) = some z := ez
  have ez := Option.some.inj ez
  subst ez
  delta mm_both_L27 at hq
  obtain ⟨q9, e9, hq⟩ := iv_bind hq
  rw [← bo_35 hq]
  exact sd_r hm h hT hk hP e9
/-- codes of both -/
theorem mB_pa {s : Prop} {a b : zvT} {u v r : Int32} (ha : mB u (zM a)) (hb : mB v (zM b)) (hr : (u = -1 → r = -1) ∧ (v = -1 → r = -1) ∧ (¬ u = -1 → ¬ v = -1 → r = dc_max u v)) : mB r (zM (zPa a b)) := by
  have nm : ∀ j : Nat, j < 28 → ¬ Int32.ofNat j = -1 := fun j hj e => by
    have := congrArg Int32.toInt e
    rw [Int32.toInt_ofNat_of_lt (by omega), show (-1 : Int32).toInt = -1 by decide] at this
    omega
  rcases ha with ⟨x, x1, x2, x3⟩ | ⟨x1, x3⟩
  · rcases hb with ⟨y, y1, y2, y3⟩ | ⟨y1, y3⟩
    · have e := hr.2.2 (by rw [x3]; exact nm x x2) (by rw [y3]; exact nm y y2)
      refine Or.inl ⟨max x y, ⟨x, y, x1, y1, rfl⟩, by omega, ?_⟩
      rw [e, x3, y3]
      unfold dc_max
      have tx : (Int32.ofNat x).toInt = (x : Int) := Int32.toInt_ofNat_of_lt (by omega)
      have ty : (Int32.ofNat y).toInt = (y : Int) := Int32.toInt_ofNat_of_lt (by omega)
      by_cases c : x < y
      · rw [if_pos (i_lt.mpr (by rw [tx, ty]; omega)), show max x y = y by omega]
      · rw [if_neg (fun z => by have := i_lt.mp z; rw [tx, ty] at this; omega), show max x y = x by omega]
    · exact Or.inr ⟨fun c ⟨_, j, _, z, _⟩ => y1 j z, hr.2.1 y3⟩
  · exact Or.inr ⟨fun c ⟨j, _, z, _, _⟩ => x1 j z, hr.1 x3⟩
/-- both -/
theorem bo_yes (hm : m ≤ 1000) (h : sfT M kk ff xx m (.binary x A B) V k up w t a c E) (k7 : (lT x).1 = 7) (hBA : rnB M A V (k + 1) w.toNat) (hTB : rnT M B V (k + 1 + tsz A) w.toNat) {d : Nat} {S q : md_S} {ρ : Nat → Nat} {md : Option Nat} {s : Prop} {p2 p3 : Int32} (hP : rnP M S V ρ md s p2 p3 w.toNat) (hq : mm_both (mm_P3 d) S (Int32.ofNat k) p2 p3 = some q) : rnO M S q (.binary x A B) k (zPa (sdM M A (k + 1) ρ md s) (sdM M B (k + 1 + tsz A) ρ md s)) := by
  obtain ⟨hA, hB⟩ := sfT_bi hm h
  have rT := sfT_p h
  have rA := sfT_p hA
  have rB := sfT_p hB
  have n1 : ¬ (lT x).1 = 1 := by rw [k7]; decide
  have n5 : ¬ (lT x).1 = 5 := by rw [k7]; decide
  have ep : pas (.binary x A B) = pas A + pas B := by
    show (if (lT x).1 = 1 then (1 : Int) else 0) + (pas A + pas B) = _
    rw [if_neg n1]; omega
  rw [if_neg n5, Int.add_zero] at hB
  have a0 := tsm_0 (fun V e h => pO_b hm h) A _ h.1.2.1
  have a1 := tsm_0 (fun V e h => pO_b hm h) B _ h.1.2.2
  have hb := h.2.2.2.2.1
  have hsz : k + (1 + tsz A + tsz B) ≤ 1200 := hb.1
  have row := h.2.1.1
  have tk : (Int32.ofNat k).toInt.toNat = k := by rw [Int32.toInt_ofNat_of_lt (by omega)]; omega
  have hP0 := hP
  obtain ⟨hF, hv, hmd, hs, h78⟩ := hP
  have lA : ∀ j, lcI A j → lcI (.binary x A B) j := fun j ⟨y, hy, e⟩ => ⟨y, List.mem_append_left _ hy, e⟩
  have lB : ∀ j, lcI B j → lcI (.binary x A B) j := fun j ⟨y, hy, e⟩ => ⟨y, List.mem_append_right _ hy, e⟩
  have e51 : S.2.1 51 k = 7 := by rw [hF.2 51 (by omega)]; exact row.1.1.trans k7
  have e52 : S.2.1 52 k = Int32.ofNat (k + 1) := by rw [hF.2 52 (by omega)]; exact row.1.2.1
  have e53 : ∀ X, rnF M X → X.2.1 53 k = Int32.ofNat (k + 1 + tsz A) := fun X hX => by rw [hX.2 53 (by omega)]; exact row.1.2.2.1
  have hrA : pfQ M.2.1 k ≤ pfQ M.2.1 (k + 1) ∧ ptQ M.2.1 (k + 1) ≤ ptQ M.2.1 k := by rw [rT.1, rT.2, rA.1, rA.2, ep]; omega
  have hrB : pfQ M.2.1 k ≤ pfQ M.2.1 (k + 1 + tsz A) ∧ ptQ M.2.1 (k + 1 + tsz A) ≤ ptQ M.2.1 k := by rw [rT.1, rT.2, rB.1, rB.2, ep]; omega
  have hdj : ptQ M.2.1 (k + 1) ≤ pfQ M.2.1 (k + 1 + tsz A) := by rw [rA.2, rB.1]; omega
  have hq : (dc_it (mm_both_s3 (mm_P3 d) S (Int32.ofNat k) p2 p3) (Int32.ofNat k)).bind (fun (z : Int32) => mm_both_L27 (mm_P3 d) S (Int32.ofNat k) p2 p3 z) = some q := hq
  obtain ⟨z, ez, hq⟩ := iv_bind hq
  rw [dc_it_eq] at ez
  obtain ⟨y, ey, ez⟩ := iv_bind ez
  have ey : mm_both_b3 (mm_P3 d) S (Int32.ofNat k) p2 p3 (Int32.ofNat k) = some y := ey
  delta mm_both_b3 at ey
  obtain ⟨-, -, ey⟩ := iv_ix ey
  rw [tk, if_pos e51] at ey
  obtain ⟨-, -, ey⟩ := iv_ix ey
  rw [tk] at ey
  have ey : some (Sum.inl (S.2.1 52 k)) = some y := ey
  rw [e52] at ey
  have ey := Option.some.inj ey
  subst ey
  have ez : dc_it (mm_both_s3 (mm_P3 d) S (Int32.ofNat (k + 1)) p2 p3) (Int32.ofNat (k + 1)) = some z := ez
  have zin : ∃ i, z = Int32.ofNat i ∧ k + 1 ≤ i ∧ i < k + 1 + tsz A := by
    have key : dc_pw ((dc_it (mm_both_s3 (mm_P3 d) S (Int32.ofNat (k + 1)) p2 p3) (Int32.ofNat (k + 1))).bind some) (fun z => ∃ i, z = Int32.ofNat i ∧ k + 1 ≤ i ∧ i < k + 1 + tsz A) := by
      refine pw_loop (fun z => ∃ i, z = Int32.ofNat i ∧ k + 1 ≤ i ∧ i < k + 1 + tsz A) (fun z => ∃ i, z = Int32.ofNat i ∧ k + 1 ≤ i ∧ i < k + 1 + tsz A) ⟨k + 1, rfl, Nat.le_refl _, by omega⟩ ?_ (fun z h => pw_some h)
      rintro v ⟨i, ev, i1, i2⟩
      subst ev
      have ti : (Int32.ofNat i).toInt.toNat = i := by rw [Int32.toInt_ofNat_of_lt (by omega)]; omega
      show dc_pw (mm_both_b3 (mm_P3 d) S (Int32.ofNat (k + 1)) p2 p3 (Int32.ofNat i)) _
      delta mm_both_b3
      refine pw_ix (fun _ _ => ?_)
      rw [ti, hF.2 51 (by omega)]
      refine pw_ifc (fun c7 => ?_) (fun c7 => pw_some ⟨i, rfl, i1, i2⟩)
      have r := (row_T A V (k + 1) _ _ _ _ _ hA.1 hA.2.1 (by omega) i i1 i2).1 (Or.inr c7)
      refine pw_ix (fun _ _ => ?_)
      rw [ti, hF.2 52 (by omega), r.1]
      exact pw_some ⟨i + 1, rfl, by omega, r.2⟩
    exact key z (by rw [ez]; rfl)
  obtain ⟨i, ei, i1, i2⟩ := zin
  subst ei
  delta mm_both_L27 at hq
  obtain ⟨q9, e9, hq⟩ := iv_bind hq
  have F9 : rnF M q9 := rnF_tr hF (md_rn ((mm_P3_fr d).2.2.2.2.2.2.1 _ _ _ _ q9 e9))
  have cut : ∃ q1, mm_both (mm_P3 d) S (Int32.ofNat (k + 1)) p2 p3 = some q1 ∧ dc_it (mm_both_s35 (mm_P3 d) (Int32.ofNat k) p2 p3) (q1, Int32.ofNat (k + 1)) = some q := by
    delta mm_both_L35 at hq
    obtain ⟨r, er, hq⟩ := iv_bind hq
    have hq : some r = some q := hq
    rw [Option.some.inj hq] at er
    obtain ⟨g, hg⟩ := dc_it_iff.mp er
    have inj : ∀ i j : Nat, i < 1200 → j < 1200 → Int32.ofNat i = Int32.ofNat j → i = j := fun i j hi hj e => by
      have := congrArg Int32.toInt e
      rw [Int32.toInt_ofNat_of_lt (by omega), Int32.toInt_ofNat_of_lt (by omega)] at this
      omega
    obtain ⟨q1, u1, u2⟩ := up_sp (M := M) (st := mm_both_s35 (mm_P3 d) (Int32.ofNat k) p2 p3) (st' := mm_both_s35 (mm_P3 d) (Int32.ofNat (k + 1)) p2 p3) (k := k) (n := tsz A) (by omega) (fun X i hX g1 g2 => by
      have n1 : ¬ Int32.ofNat i = Int32.ofNat k := fun e => by have := inj i k (by omega) (by omega) e; omega
      have n2 : ¬ Int32.ofNat i = Int32.ofNat (k + 1) := fun e => by have := inj i (k + 1) (by omega) (by omega) e; omega
      have ti : (Int32.ofNat i).toInt.toNat = i := by rw [Int32.toInt_ofNat_of_lt (by omega)]; omega
      have s1 : mm_both_s35 (mm_P3 d) (Int32.ofNat k) p2 p3 (X, Int32.ofNat i) = mm_both_b35 (mm_P3 d) X (Int32.ofNat k) p2 p3 (Int32.ofNat i) := rfl
      have s2 : mm_both_s35 (mm_P3 d) (Int32.ofNat (k + 1)) p2 p3 (X, Int32.ofNat i) = mm_both_b35 (mm_P3 d) X (Int32.ofNat (k + 1)) p2 p3 (Int32.ofNat i) := rfl
      rw [s1, s2]
      delta mm_both_b35
      rw [if_neg n1, if_neg n2]
      refine ⟨rfl, fun y hy => ?_⟩
      obtain ⟨-, -, hy⟩ := iv_ix hy
      rw [ti, hX.2 58 (by omega)] at hy
      obtain ⟨j, j1, j2, j3⟩ := (row_T A V (k + 1) _ _ _ _ _ hA.1 hA.2.1 (by omega) i (by omega) g2).2 (by omega)
      rw [j1] at hy
      delta dc_let at hy
      dsimp only at hy
      obtain ⟨-, -, hy⟩ := iv_ix hy
      obtain ⟨q4, e4, hy⟩ := iv_bind hy
      have F4 := rnF_tr hX (md_rn ((mm_P3_fr d).2.2.2.2.2.2.1 _ _ _ _ q4 e4))
      obtain ⟨q8, e8, hy⟩ := iv_bind hy
      have out : ∀ u v : Int32, mm_both_L112 (mm_P3 d) q4 (Int32.ofNat k) p2 p3 (Int32.ofNat j) u v = some y → ∃ S' j', y = .inl (S', Int32.ofNat j') ∧ rnF M S' ∧ k + 1 ≤ j' ∧ j' < i := by
        intro u v e
        delta mm_both_L112 at e
        obtain ⟨r, er, e⟩ := iv_bind e
        refine ⟨r, j, (Option.some.inj e).symm, ?_, j2, j3⟩
        rw [out_r er]
        exact rnF_tr F4 out_f.1
      rcases iv_if hy with ⟨-, hy⟩ | ⟨-, hy⟩
      · exact out _ _ hy
      · rcases iv_if hy with ⟨-, hy⟩ | ⟨-, hy⟩
        · exact out _ _ hy
        · exact out _ _ hy) (fun X => by
      show mm_both_b35 (mm_P3 d) X (Int32.ofNat (k + 1)) p2 p3 (Int32.ofNat (k + 1)) = _
      delta mm_both_b35
      rw [if_pos rfl]) g q9 q i F9 i1 i2 hg
    refine ⟨q1, ?_, u2⟩
    show (dc_it (mm_both_s3 (mm_P3 d) S (Int32.ofNat (k + 1)) p2 p3) (Int32.ofNat (k + 1))).bind (fun (z : Int32) => mm_both_L27 (mm_P3 d) S (Int32.ofNat (k + 1)) p2 p3 z) = some q1
    rw [ez]
    show mm_both_L27 (mm_P3 d) S (Int32.ofNat (k + 1)) p2 p3 (Int32.ofNat i) = some q1
    delta mm_both_L27
    rw [e9]
    show (dc_it (mm_both_s35 (mm_P3 d) (Int32.ofNat (k + 1)) p2 p3) (q9, Int32.ofNat i)).bind (fun (z : md_S) => mm_both_L118 (mm_P3 d) z) = some q1
    rw [u1]
    rfl
  obtain ⟨q1, eq1, hq⟩ := cut
  have ra := hBA d S q1 ρ md s p2 p3 hP0 eq1
  have Ga := rnO_G ra
  have F1 := rnF_tr hF Ga.1.1
  rw [dc_it_eq] at hq
  obtain ⟨y, ey, hq⟩ := iv_bind hq
  have ey : mm_both_b35 (mm_P3 d) q1 (Int32.ofNat k) p2 p3 (Int32.ofNat (k + 1)) = some y := ey
  delta mm_both_b35 at ey
  have nk : ¬ Int32.ofNat (k + 1) = Int32.ofNat k := fun e => by
    have := congrArg Int32.toInt e
    rw [Int32.toInt_ofNat_of_lt (by omega), Int32.toInt_ofNat_of_lt (by omega)] at this
    omega
  have tk1 : (Int32.ofNat (k + 1)).toInt.toNat = k + 1 := by rw [Int32.toInt_ofNat_of_lt (by omega)]; omega
  have up1 : M.2.1 58 (k + 1) = Int32.ofNat k := by
    have := hA.2.1
    cases A with
    | const y => exact this.1.2.2.2.2.2.1
    | unary y A => exact this.1.1.2.2.2.2.2.1
    | binary y A B => exact this.1.1.2.2.2.2.2.1
    | _ => exact this.elim
  rw [if_neg nk] at ey
  obtain ⟨-, -, ey⟩ := iv_ix ey
  rw [tk1, F1.2 58 (by omega), up1] at ey
  delta dc_let at ey
  dsimp only at ey
  obtain ⟨-, -, ey⟩ := iv_ix ey
  rw [tk, e53 _ F1] at ey
  obtain ⟨q7, e7, ey⟩ := iv_bind ey
  have hmd1 : mdP md p2 (q1.1 79) w.toNat := by rw [Ga.1.2]; exact hmd
  have rb := sd_r hm hB hTB (by omega) ⟨F1, sc_k Ga hA.2.2.2.2.2.2.2.2.2.2 hA.2.2.2.2.2.2.2.2.2.1 hv, hmd1, hs, g78 Ga h78⟩ e7
  have Gb := rnO_G rb
  obtain ⟨q8, e8, ey⟩ := iv_bind ey
  have GP := rnG_Pa Ga Gb (sd_n hm hA) (sd_n hm hB) ⟨hrA, hrB⟩ hdj (fun j z => z.elim (lA j) (lB j))
  have cc : cB q8 (zC (zPa (sdM M A (k + 1) ρ md s) (sdM M B (k + 1 + tsz A) ρ md s))) := pairs_b ra.2.1.1 rb.2.1.1 e8
  have fin : ∀ v : Int32, mB v (zM (zPa (sdM M A (k + 1) ρ md s) (sdM M B (k + 1 + tsz A) ρ md s))) → mm_both_L112 (mm_P3 d) q7 (Int32.ofNat k) p2 p3 (Int32.ofNat k) v q8 = some y → rnO M S q (.binary x A B) k (zPa (sdM M A (k + 1) ρ md s) (sdM M B (k + 1 + tsz A) ρ md s)) := by
    intro v hv' e
    delta mm_both_L112 at e
    obtain ⟨r, er, e⟩ := iv_bind e
    have ey := (Option.some.inj e).symm
    subst ey
    have hq : dc_it (mm_both_s35 (mm_P3 d) (Int32.ofNat k) p2 p3) (r, Int32.ofNat k) = some q := hq
    have e9 : r = q := bo_35 (d := d) (p2 := p2) (p3 := p3) (x1 := Int32.ofNat k) (by
      show (dc_it (mm_both_s35 (mm_P3 d) (Int32.ofNat k) p2 p3) (r, Int32.ofNat k)).bind (fun (z : md_S) => mm_both_L118 (mm_P3 d) z) = some q
      rw [hq]
      rfl)
    rw [← e9, out_r er]
    obtain ⟨o1, o2, o3, -⟩ := out_f (S := q7) (a := q8) (b := v)
    exact rnG_O (rnG_out GP) (by rw [o2]; exact cc) (by rw [o3]; exact hv')
  rcases iv_if ey with ⟨c1, ey⟩ | ⟨c1, ey⟩
  · exact fin (-1) (mB_pa (s := s) ra.2.1.2 rb.2.1.2 ⟨fun _ => rfl, fun _ => rfl, fun z => absurd c1 z⟩) ey
  · rcases iv_if ey with ⟨c2, ey⟩ | ⟨c2, ey⟩
    · exact fin (-1) (mB_pa (s := s) ra.2.1.2 rb.2.1.2 ⟨fun _ => rfl, fun _ => rfl, fun _ z => absurd c2 z⟩) ey
    · exact fin _ (mB_pa (s := s) ra.2.1.2 rb.2.1.2 ⟨fun z => absurd z c1, fun z => absurd z c2, fun _ _ => rfl⟩) ey
end BO
