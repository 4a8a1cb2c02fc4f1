/-! explore: what is counted, and the nearest doubt -/
/-- choices of inputs on which state j reacts; such choices of the states before J; states that react on all -/
def rcI (f : Nat → Int32) (j : Nat) : Nat → Nat
  | 0 => 0
  | i + 1 => rcI f j i + if f (16 * j + i) = -1 then 0 else 1
def rcJ (f : Nat → Int32) (W : Nat) : Nat → Nat
  | 0 => 0
  | j + 1 => rcJ f W j + rcI f j W
def stJ (f : Nat → Int32) (W : Nat) : Nat → Nat
  | 0 => 0
  | j + 1 => stJ f W j + if rcI f j W = W then 1 else 0
section RC
variable {f g : Nat → Int32} {W : Nat}
theorem rcI_cg {j : Nat} : ∀ i, (∀ k, k < i → (f (16 * j + k) = -1 ↔ g (16 * j + k) = -1)) → rcI f j i = rcI g j i
  | 0, _ => rfl
  | i + 1, h => by
    show rcI f j i + (if f (16 * j + i) = -1 then 0 else 1) = rcI g j i + (if g (16 * j + i) = -1 then 0 else 1)
    rw [rcI_cg i (fun k hk => h k (by omega))]
    by_cases c : f (16 * j + i) = -1
    · rw [if_pos c, if_pos ((h i (by omega)).mp c)]
    · rw [if_neg c, if_neg (fun z => c ((h i (by omega)).mpr z))]
theorem rcJ_cg : ∀ J, (∀ j k, j < J → k < W → (f (16 * j + k) = -1 ↔ g (16 * j + k) = -1)) → rcJ f W J = rcJ g W J
  | 0, _ => rfl
  | j + 1, h => by
    show rcJ f W j + rcI f j W = rcJ g W j + rcI g j W
    rw [rcJ_cg j (fun a k h1 h2 => h a k (by omega) h2), rcI_cg W (fun k hk => h j k (by omega) hk)]
theorem stJ_cg : ∀ J, (∀ j k, j < J → k < W → (f (16 * j + k) = -1 ↔ g (16 * j + k) = -1)) → stJ f W J = stJ g W J
  | 0, _ => rfl
  | j + 1, h => by
    show stJ f W j + (if rcI f j W = W then 1 else 0) = stJ g W j + (if rcI g j W = W then 1 else 0)
    rw [stJ_cg j (fun a k h1 h2 => h a k (by omega) h2), rcI_cg W (fun k hk => h j k (by omega) hk)]
theorem rcI_le {j : Nat} : ∀ i, rcI f j i ≤ i
  | 0 => Nat.le_refl _
  | i + 1 => by
    have := rcI_le (j := j) i
    show rcI f j i + (if f (16 * j + i) = -1 then 0 else 1) ≤ i + 1
    split <;> omega
theorem rcJ_le (hW : W ≤ 16) : ∀ J, rcJ f W J ≤ 16 * J
  | 0 => Nat.le_refl _
  | j + 1 => by
    have := rcJ_le hW j
    have := rcI_le (f := f) (j := j) W
    show rcJ f W j + rcI f j W ≤ 16 * (j + 1)
    omega
theorem stJ_le : ∀ J, stJ f W J ≤ J
  | 0 => Nat.le_refl _
  | j + 1 => by
    have := stJ_le j
    show stJ f W j + (if rcI f j W = W then 1 else 0) ≤ j + 1
    split <;> omega
end RC
/-- a cell that is done, without a reaction -/
def dcel (f : Nat → Int32) (J I W j i : Nat) : Prop := ((j < J ∧ i < W) ∨ (j = J ∧ i < I)) ∧ f (16 * j + i) = -1
/-- how far a state is, by the one that it was met from -/
def dsO (M : md_S) (cnt : Nat) : Prop := ∀ j, j < cnt → M.2.1 89 j = if M.2.1 90 j = -1 then 0 else M.2.1 89 (M.2.1 90 j).toInt.toNat + 1
/-- what is counted; the nearest doubt; states stand in the order of their distances -/
def axD (q : rsT) (M : md_S) (cnt J I W : Nat) : Prop :=
  (q.2 10 = Int32.ofNat (rcJ (M.2.1 92) W J + rcI (M.2.1 92) J I) ∧ q.2 11 = Int32.ofNat (stJ (M.2.1 92) W J)) ∧
  ((q.2 13 = -1 ∧ ∀ j i, ¬ dcel (M.2.1 92) J I W j i) ∨ ∃ d e, d < cnt ∧ dcel (M.2.1 92) J I W d e ∧ q.2 13 = M.2.1 88 d ∧ q.2 14 = Int32.ofNat e ∧ (∀ k, k < e → ¬ M.2.1 92 (16 * d + k) = -1) ∧ ∀ j i, dcel (M.2.1 92) J I W j i → (M.2.1 89 d).toInt < (M.2.1 89 j).toInt ∨ ((M.2.1 89 d).toInt = (M.2.1 89 j).toInt ∧ (M.2.1 88 d).toInt ≤ (M.2.1 88 j).toInt)) ∧
  ((∀ i j, i ≤ j → j < cnt → (M.2.1 89 i).toInt ≤ (M.2.1 89 j).toInt) ∧ (J < cnt → ∀ j, j < cnt → (M.2.1 89 j).toInt ≤ (M.2.1 89 J).toInt + 1)) ∧
  (∀ j i, (j < J ∧ i < W) ∨ (j = J ∧ i < I) → M.2.1 92 (16 * j + i) = -1 ∨ M.2.1 92 (16 * j + i) = 257 ∨ ∃ k, k < cnt ∧ M.2.1 92 (16 * j + i) = M.2.1 88 k) ∧ 0 < cnt ∧ M.2.1 88 0 = 256 ∧ dsO M cnt
section AXD
variable {q q' : rsT} {M Z : md_S} {cnt pa J I W : Nat}
/-- what an answer leaves of the reference's rows -/
theorem ans_k {a x6 : Int32} {cl ins out : Nat} (hJ : J < 1200) (hA : ansO M Z a (Int32.ofNat J) x6 cnt cl ins out pa) : ((Z.1 87 = M.1 87 ∧ ∀ i, 88 ≤ i → i ≤ 91 → Z.2.1 i = M.2.1 i) ∨ (Z.1 87 = Int32.ofNat (cnt + 1) ∧ cnt < 257 ∧ (∀ j, ¬ j = cnt → Z.2.1 88 j = M.2.1 88 j) ∧ Z.2.1 89 = upd (M.2.1 89) cnt (M.2.1 89 J + 1) ∧ Z.2.1 90 = upd (M.2.1 90) cnt (Int32.ofNat J))) ∧ Z.2.1 92 = upd (M.2.1 92) cl (if a = 1 then oB (thB (M.2.1 75)) pa else if a = 0 then 257 else -1) ∧ (a = 1 → (∃ j, j < cnt ∧ M.2.1 88 j = oB (thB (M.2.1 75)) pa) ∨ (Z.1 87 = Int32.ofNat (cnt + 1) ∧ Z.2.1 88 cnt = oB (thB (M.2.1 75)) pa)) := by
  rcases hA with ⟨e, r, hm, g1, g2, g3, g4⟩ | ⟨e, g1, g2, g3, g4⟩
  · rcases hm with ⟨yes, er⟩ | ⟨no, c257, r1, r87, rr, r88, r90, r91, r89⟩
    · rw [er] at g1 g2 g3
      exact ⟨Or.inl ⟨by rw [g1], fun i h1 h2 => g2 i (by omega) (by omega)⟩, by rw [g3, if_pos e], fun _ => Or.inl yes⟩
    · refine ⟨Or.inr ⟨by rw [g1, r87], c257, fun j hj => by rw [g2 88 (by omega) (by omega), r88, upd_n hj], ?_, by rw [g2 90 (by omega) (by omega), r90]⟩, by rw [g3, if_pos e, rr 92 (by omega)], fun _ => Or.inr ⟨by rw [g1, r87], by rw [g2 88 (by omega) (by omega), r88, upd_s]⟩⟩
      have tJ : (Int32.ofNat J).toInt = (J : Int) := Int32.toInt_ofNat_of_lt (by omega)
      rw [g2 89 (by omega) (by omega), r89, if_neg (nk_1 hJ), tJ]
      rfl
  · exact ⟨Or.inl ⟨by rw [g1], fun i h1 h2 => g2 i (by omega) (by omega)⟩, by rw [g3, if_neg e], fun z => absurd z e⟩
theorem dcel_u {f : Nat → Int32} {v : Int32} {j i : Nat} (hI : I < 16) (hW : W ≤ 16) (h : dcel (upd f (16 * J + I) v) J (I + 1) W j i) : dcel f J I W j i ∨ (j = J ∧ i = I ∧ v = -1) := by
  obtain ⟨h1, h2⟩ := h
  by_cases c : j = J ∧ i = I
  · obtain ⟨c1, c2⟩ := c
    subst c1 c2
    rw [upd_s] at h2
    exact Or.inr ⟨rfl, rfl, h2⟩
  · rw [upd_n (by omega)] at h2
    exact Or.inl ⟨by omega, h2⟩
theorem dcel_v {f : Nat → Int32} {v : Int32} {j i : Nat} (hI : I < 16) (hW : W ≤ 16) (h : dcel f J I W j i) : dcel (upd f (16 * J + I) v) J (I + 1) W j i := by
  obtain ⟨h1, h2⟩ := h
  refine ⟨by omega, ?_⟩
  rw [upd_n (by omega)]
  exact h2
theorem rcI_u {f : Nat → Int32} {v : Int32} (hI : I < 16) (hW : W ≤ 16) : rcJ (upd f (16 * J + I) v) W J + rcI (upd f (16 * J + I) v) J (I + 1) = rcJ f W J + rcI f J I + (if v = -1 then 0 else 1) ∧ stJ (upd f (16 * J + I) v) W J = stJ f W J := by
  have n : ∀ j k, j < J → k < W → (upd f (16 * J + I) v (16 * j + k) = -1 ↔ f (16 * j + k) = -1) := fun j k h1 h2 => by rw [upd_n (by omega)]
  rw [rcJ_cg J n, stJ_cg J n]
  refine ⟨?_, rfl⟩
  show rcJ f W J + (rcI (upd f (16 * J + I) v) J I + if upd f (16 * J + I) v (16 * J + I) = -1 then 0 else 1) = _
  rw [upd_s, rcI_cg (g := f) I (fun k hk => by rw [upd_n (by omega)])]
  omega
theorem ax_d {x6 a a' th sh : Int32} {ins out cnt' : Nat} (h : axS q M cnt pa) (hZ : axS q' Z cnt' pa) (hD : axD q M cnt J I W) (hJ : J < cnt) (hI : I < W) (hW : W ≤ 16) (h6 : x6 = Int32.ofNat I) (hT : awT q q' (16 * (M.2.1 88 J).toInt.toNat + I) (M.2.1 88 J) x6 a th sh) (hA : ansO M Z a' (Int32.ofNat J) x6 cnt (16 * J + I) ins out pa) (ha : (a = 2 ∧ a' = -1) ∨ (a = 1 ∧ a' = 0) ∨ (a = 0 ∧ a' = 1)) (hpa : pa ≤ 8) : axD q' Z cnt' J (I + 1) W := by
  have c257 := h.1.2.2
  obtain ⟨⟨d10, d11⟩, dd, ⟨m1, m2⟩, dn, d0, d1, d2⟩ := hD
  obtain ⟨k1, k2, k3⟩ := ans_k (by omega) hA
  have vn : (if a' = 1 then oB (thB (M.2.1 75)) pa else if a' = 0 then 257 else (-1 : Int32)) = -1 ↔ a = 2 := by
    rcases ha with ⟨e, e'⟩ | ⟨e, e'⟩ | ⟨e, e'⟩
    · rw [e', if_neg (by decide), if_neg (by decide), e]
      exact ⟨fun _ => rfl, fun _ => rfl⟩
    · rw [e', if_neg (by decide), if_pos rfl, e]
      exact ⟨fun z => absurd z (by decide), fun z => absurd z (by decide)⟩
    · rw [e', if_pos rfl, e]
      refine ⟨fun z => ?_, fun z => absurd z (by decide)⟩
      have := (oB_b (σ := M.2.1 75) hpa).1.1
      rw [z] at this
      exact absurd this (by decide)
  -- the rows of states and distances below cnt
  have lo : cnt ≤ cnt' ∧ (∀ j, j < cnt → Z.2.1 88 j = M.2.1 88 j ∧ Z.2.1 89 j = M.2.1 89 j) ∧ (∀ j, cnt ≤ j → j < cnt' → (Z.2.1 89 j).toInt = (M.2.1 89 J).toInt + 1) ∧ dsO Z cnt' := by
    have t0 : (Int32.ofNat cnt').toInt = (cnt' : Int) := Int32.toInt_ofNat_of_lt (by have := hZ.1.2.2; omega)
    rcases k1 with ⟨e, er⟩ | ⟨e, lt, e8, e9, e0⟩
    · have : cnt' = cnt := by
        rw [hZ.1.2.1, h.1.2.1] at e
        have t1 : (Int32.ofNat cnt).toInt = (cnt : Int) := Int32.toInt_ofNat_of_lt (by omega)
        rw [e] at t0
        omega
      exact ⟨by omega, fun j hj => ⟨by rw [er 88 (by omega) (by omega)], by rw [er 89 (by omega) (by omega)]⟩, fun j _ _ => absurd this (by omega), by
        unfold dsO
        rw [er 89 (by omega) (by omega), er 90 (by omega) (by omega), this]
        exact d2⟩
    · have : cnt' = cnt + 1 := by
        rw [hZ.1.2.1] at e
        have t1 : (Int32.ofNat (cnt + 1)).toInt = ((cnt + 1 : Nat) : Int) := Int32.toInt_ofNat_of_lt (by omega)
        rw [e] at t0
        omega
      refine ⟨by omega, fun j hj => ⟨e8 j (by omega), by rw [e9, upd_n (by omega)]⟩, fun j h1 h2 => ?_, fun j hj => ?_⟩
      · have ej : j = cnt := by omega
        have k := (h.2.2.1 J hJ).1
        rw [ej, e9, upd_s, inc_1 k.1 (by omega)]
      · rw [e9, e0]
        by_cases c : j = cnt
        · have tJ : (Int32.ofNat J).toInt.toNat = J := by rw [Int32.toInt_ofNat_of_lt (by omega)]; omega
          rw [c, upd_s, upd_s, if_neg (nk_1 (by omega)), tJ, upd_n (by omega)]
        · rw [upd_n c, upd_n c, d2 j (by omega)]
          rcases (h.2.2.1 j (by omega)).2 with z | ⟨z1, z2⟩
          · rw [if_pos z, if_pos z]
          · have nz : ¬ M.2.1 90 j = -1 := fun w => by rw [w] at z1; exact absurd z1 (by decide)
            rw [if_neg nz, if_neg nz, upd_n (by omega)]
  obtain ⟨lo1, lo2, lo3, lo4⟩ := lo
  have vv : (if a' = 1 then oB (thB (M.2.1 75)) pa else if a' = 0 then 257 else (-1 : Int32)) = -1 ∨ (if a' = 1 then oB (thB (M.2.1 75)) pa else if a' = 0 then 257 else (-1 : Int32)) = 257 ∨ ∃ k, k < cnt' ∧ (if a' = 1 then oB (thB (M.2.1 75)) pa else if a' = 0 then 257 else (-1 : Int32)) = Z.2.1 88 k := by
    by_cases c : a' = 1
    · rw [if_pos c]
      rcases k3 c with ⟨j, j1, j2⟩ | ⟨e, j2⟩
      · exact Or.inr (Or.inr ⟨j, by omega, by rw [(lo2 j j1).1, j2]⟩)
      · refine Or.inr (Or.inr ⟨cnt, ?_, j2.symm⟩)
        rw [hZ.1.2.1] at e
        have t0 : (Int32.ofNat cnt').toInt = (cnt' : Int) := Int32.toInt_ofNat_of_lt (by have := hZ.1.2.2; omega)
        have t1 : (Int32.ofNat (cnt + 1)).toInt = ((cnt + 1 : Nat) : Int) := Int32.toInt_ofNat_of_lt (by omega)
        rw [e] at t0
        omega
    · rw [if_neg c]
      by_cases c2 : a' = 0
      · rw [if_pos c2]; exact Or.inr (Or.inl rfl)
      · rw [if_neg c2]; exact Or.inl rfl
  generalize (if a' = 1 then oB (thB (M.2.1 75)) pa else if a' = 0 then 257 else (-1 : Int32)) = v at k2 vn vv
  obtain ⟨rc1, rc2⟩ := rcI_u (f := M.2.1 92) (v := v) (J := J) (I := I) (W := W) (by omega) hW
  have bd : rcJ (M.2.1 92) W J + rcI (M.2.1 92) J I ≤ 16 * 257 + 16 := by
    have := rcJ_le (f := M.2.1 92) hW J
    have := rcI_le (f := M.2.1 92) (j := J) I
    omega
  -- numbers of the class
  have num : q'.2 10 = q.2 10 + (if a = 2 then 0 else 1) ∧ q'.2 11 = q.2 11 ∧ ((a = 2 ∧ awQ (awN q (16 * (M.2.1 88 J).toInt.toNat + I) a th sh) (M.2.1 88 J) ∧ q'.2 13 = M.2.1 88 J ∧ q'.2 14 = x6) ∨ ((a = 2 → ¬ awQ (awN q (16 * (M.2.1 88 J).toInt.toNat + I) a th sh) (M.2.1 88 J)) ∧ q'.2 13 = q.2 13 ∧ q'.2 14 = q.2 14)) := by
    rcases hT with ⟨e, e1, e2⟩ | ⟨e, e1, e2⟩ | ⟨e, e1, e2⟩ | ⟨e, e1, e2⟩ | ⟨e, e1, e2⟩
    · rw [if_pos e, e2]
      exact ⟨by rw [uC_n (by omega), uC_n (by omega), awN_c, Int32.add_zero], by rw [uC_n (by omega), uC_n (by omega), awN_c], Or.inl ⟨e, e1, by rw [uC_n (by omega), uC_s], uC_s⟩⟩
    · rw [if_pos e, e2, awN_c]
      exact ⟨by rw [Int32.add_zero], rfl, Or.inr ⟨fun _ => e1, rfl, rfl⟩⟩
    · rw [if_neg e, e2]
      exact ⟨by rw [uC_s, awN_c], by rw [uC_n (by omega), awN_c], Or.inr ⟨fun z => absurd z e, by rw [uC_n (by omega), awN_c], by rw [uC_n (by omega), awN_c]⟩⟩
    · have n2 : ¬ a = 2 := by rw [e]; decide
      rw [if_neg n2, e2]
      exact ⟨by rw [uC_s, awN_c], by rw [uC_n (by omega), awN_c], Or.inr ⟨fun z => absurd z n2, by rw [uC_n (by omega), awN_c], by rw [uC_n (by omega), awN_c]⟩⟩
    · have n2 : ¬ a = 2 := by rw [e]; decide
      obtain ⟨-, -, -, -, -, -, w⟩ := awM_1 (q := uC (awN q (16 * (M.2.1 88 J).toInt.toNat + I) a th sh) 10 ((awN q (16 * (M.2.1 88 J).toInt.toNat + I) a th sh).2 10 + 1)) (x := th) (y := M.2.1 88 J) (z := x6)
      rw [if_neg n2, e2, w 10 (by omega), w 11 (by omega), w 13 (by omega), w 14 (by omega)]
      exact ⟨by rw [uC_s, awN_c], by rw [uC_n (by omega), awN_c], Or.inr ⟨fun z => absurd z n2, by rw [uC_n (by omega), awN_c], by rw [uC_n (by omega), awN_c]⟩⟩
  obtain ⟨n10, n11, n13⟩ := num
  refine ⟨⟨?_, ?_⟩, ?_, ⟨fun i j hij hj => ?_, fun _ j hj => ?_⟩, fun j i hji => ?_, by omega, by rw [(lo2 0 d0).1]; exact d1, lo4⟩
  · rw [n10, k2, rc1, d10]
    by_cases c : a = 2
    · rw [if_pos c, if_pos (vn.mpr c), Int32.add_zero, Nat.add_zero]
    · rw [if_neg c, if_neg (fun z => c (vn.mp z)), ad_m (by omega)]
  · rw [n11, k2, rc2, d11]
  · rw [k2]
    have aq : ∀ d, d < cnt → q.2 13 = M.2.1 88 d → (awQ (awN q (16 * (M.2.1 88 J).toInt.toNat + I) a th sh) (M.2.1 88 J) ↔ ((M.2.1 89 J).toInt < (M.2.1 89 d).toInt ∨ ((M.2.1 89 J).toInt = (M.2.1 89 d).toInt ∧ (M.2.1 88 J).toInt < (M.2.1 88 d).toInt))) := by
      intro d hd ed
      have nd : ¬ q.2 13 = -1 := fun z => by
        have := (h.2.1 d hd).1.1
        rw [← ed, z] at this
        exact absurd this (by decide)
      unfold awQ
      rw [awN_2 ⟨by omega, by omega⟩, awN_c, ed, (h.2.1 J hJ).2.2.2.1, (h.2.1 d hd).2.2.2.1, i_lt, i_lt]
      rw [ed] at nd
      exact ⟨fun z => z.elim (fun y => absurd y nd) (fun w => w.imp id (fun v => ⟨congrArg Int32.toInt v.1, v.2⟩)), fun z => Or.inr (z.imp id (fun v => ⟨Int32.toInt_inj.mp v.1, v.2⟩))⟩
    rcases n13 with ⟨e, e1, e2, e3⟩ | ⟨e, e2, e3⟩
    · refine Or.inr ⟨J, I, by omega, ⟨by omega, by rw [upd_s]; exact vn.mpr e⟩, by rw [e2, (lo2 J hJ).1], by rw [e3, h6], fun k hk => ?_, fun j i hd => ?_⟩
      · rw [upd_n (by omega)]
        intro z
        rcases dd with ⟨-, g⟩ | ⟨d, e0, g1, g2, g3, g4, g5, g6⟩
        · exact g J k ⟨by omega, z⟩
        · have a1 := (aq d g1 g3).mp e1
          have a2 := g6 J k ⟨by omega, z⟩
          omega
      · rcases dcel_u (by omega) hW hd with hd | ⟨z1, z2, -⟩
        · have hj : j < cnt := by
            have := hd.1
            omega
          rw [(lo2 J hJ).1, (lo2 J hJ).2, (lo2 j hj).1, (lo2 j hj).2]
          rcases dd with ⟨-, g⟩ | ⟨d, e0, g1, g2, g3, g4, g5, g6⟩
          · exact absurd hd (g j i)
          · have a1 := (aq d g1 g3).mp e1
            have a2 := g6 j i hd
            omega
        · rw [z1]
          exact Or.inr ⟨rfl, Int.le_refl _⟩
    · rcases dd with ⟨g0, g⟩ | ⟨d, e0, g1, g2, g3, g4, g5, g6⟩
      · have na : ¬ a = 2 := fun z => e z (Or.inl (by rw [awN_c]; exact g0))
        refine Or.inl ⟨by rw [e2, g0], fun j i hd => ?_⟩
        rcases dcel_u (by omega) hW hd with hd | ⟨-, -, z⟩
        · exact g j i hd
        · exact na (vn.mp z)
      · have c0 := g2.1
        refine Or.inr ⟨d, e0, by omega, dcel_v (by omega) hW g2, by rw [e2, g3, (lo2 d g1).1], by rw [e3, g4], fun k hk => ?_, fun j i hd => ?_⟩
        · rw [upd_n (by omega)]
          exact g5 k hk
        · rcases dcel_u (by omega) hW hd with hd | ⟨z1, -, z⟩
          · have hj : j < cnt := by
              have := hd.1
              omega
            rw [(lo2 d g1).1, (lo2 d g1).2, (lo2 j hj).1, (lo2 j hj).2]
            exact g6 j i hd
          · have a1 := e (vn.mp z)
            rw [aq d g1 g3] at a1
            rw [z1, (lo2 d g1).1, (lo2 d g1).2, (lo2 J hJ).1, (lo2 J hJ).2]
            omega
  · by_cases c : j < cnt
    · rw [(lo2 i (by omega)).2, (lo2 j c).2]
      exact m1 i j hij c
    · have e := lo3 j (by omega) hj
      by_cases c2 : i < cnt
      · rw [(lo2 i c2).2, e]
        exact m2 hJ i c2
      · rw [lo3 i (by omega) (by omega), e]
        exact Int.le_refl _
  · by_cases c : j < cnt
    · rw [(lo2 j c).2, (lo2 J hJ).2]
      exact m2 hJ j c
    · rw [lo3 j (by omega) hj, (lo2 J hJ).2]
      exact Int.le_refl _
  · rw [k2]
    by_cases c : j = J ∧ i = I
    · obtain ⟨c1, c2⟩ := c
      subst c1 c2
      rw [upd_s]
      exact vv
    · rw [upd_n (by omega)]
      rcases dn j i (by omega) with w | w | ⟨k, w1, w2⟩
      · exact Or.inl w
      · exact Or.inr (Or.inl w)
      · exact Or.inr (Or.inr ⟨k, by omega, by rw [(lo2 k w1).1, w2]⟩)
end AXD
