/-! groups of the class and pairs of the reference: the same states are alike -/
/-- the group of a state is its least one alike; how many groups -/
def grO (q : rsT) (M : md_S) (cnt : Nat) : Prop := (∀ j, j < cnt → ¬ ap M j j ∧ ∃ l, l < cnt ∧ q.1 6 (M.2.1 88 j).toInt.toNat = M.2.1 88 l ∧ ¬ ap M j l ∧ ∀ b, b < cnt → ¬ ap M j b → (M.2.1 88 l).toInt ≤ (M.2.1 88 b).toInt) ∧ q.2 12 = Int32.ofNat (ctP (fun j => q.1 6 (M.2.1 88 j).toInt.toNat = M.2.1 88 j) cnt)
section GRO
variable {q q' : rsT} {M r : md_S} {cnt pa ins W : Nat}
theorem ofN_t {x : Int32} (h : 0 ≤ x.toInt) (h2 : x.toInt < 100000) : Int32.ofNat x.toInt.toNat = x := by
  have t : (Int32.ofNat x.toInt.toNat).toInt = (x.toInt.toNat : Int) := Int32.toInt_ofNat_of_lt (by omega)
  rw [i_eq, t]
  omega
theorem axS_o (h : axS q M cnt pa) (h0 : M.2.1 88 0 = 256) (hc : 0 < cnt) : orO q cnt := by
  have rc : ∀ j, j < cnt → rcd q (M.2.1 88 j).toInt.toNat := fun j hj => by
    have := (h.2.1 j hj).1
    refine ⟨by omega, fun e => ?_⟩
    rw [(h.2.1 j hj).2.2.2.1] at e
    have := (h.2.2.1 j hj).1.1
    rw [e] at this
    exact absurd this (by decide)
  refine ⟨⟨h.1.1, h.1.2.2⟩, ?_, fun j hj => ?_, fun x hx => ?_⟩
  · have := rc 0 hc
    rw [h0] at this
    exact this
  · have k := (h.2.1 j hj).1
    exact ⟨_, by rw [(h.2.1 j hj).2.2.1, ofN_t k.1 (by omega)], rc j hj⟩
  · obtain ⟨j, j1, j2⟩ := h.2.2.2.2 x hx.1 hx.2
    have k := (h.2.1 j j1).1
    exact ⟨j, j1, by rw [(h.2.1 j j1).2.2.1, ← j2, ofN_t k.1 (by omega)]⟩
theorem rf_ax (h : axS q M cnt pa) (hD : axD q M cnt cnt 0 (2 ^ ins)) (e45 : M.1 45 = Int32.ofNat ins) (hi : ins ≤ 4) : rfS M cnt ins := ⟨⟨h.1.2.1, h.1.2.2, e45, hi⟩, fun j hj => (h.2.1 j hj).1, h.2.2.2.1, fun j i hj hi' => hD.2.2.2.1 j i (Or.inl ⟨hj, hi'⟩)⟩
theorem gr_of (h : axS q M cnt pa) (hC : axC q M cnt 0 (2 ^ ins)) (hD : axD q M cnt cnt 0 (2 ^ ins)) (hs : soO q q' (2 ^ ins)) (hm : mpO M r cnt ins) : grO q' r cnt := by
  obtain ⟨⟨s1, s2⟩, s3, s4, s5, s6⟩ := hs
  obtain ⟨⟨m1, m2⟩, m3, m4, m5, m6⟩ := hm
  have c257 := h.1.2.2
  have rng : ∀ j, j < cnt → 0 ≤ (M.2.1 88 j).toInt ∧ (M.2.1 88 j).toInt < 257 := fun j hj => (h.2.1 j hj).1
  have a2 : q'.1 2 = q.1 2 := s1 2 (by omega) (by omega)
  have a0 : q'.1 0 = q.1 0 := s1 0 (by omega) (by omega)
  have a1 : q'.1 1 = q.1 1 := s1 1 (by omega) (by omega)
  have far : ∀ j, j < cnt → ¬ q.1 2 (M.2.1 88 j).toInt.toNat = -1 := fun j hj e => by
    rw [(h.2.1 j hj).2.2.2.1] at e
    have := (h.2.2.1 j hj).1.1
    rw [e] at this
    exact absurd this (by decide)
  have rc : ∀ j, j < cnt → rcd q' (M.2.1 88 j).toInt.toNat := fun j hj => ⟨by have := rng j hj; omega, by rw [a2]; exact far j hj⟩
  have rR : ∀ j, j < cnt → awR q' (M.2.1 88 j) := fun j hj => ⟨(rng j hj).1, (rng j hj).2, by rw [a2]; exact far j hj⟩
  have inj : ∀ i j, i < cnt → j < cnt → (M.2.1 88 i).toInt.toNat = (M.2.1 88 j).toInt.toNat → i = j := fun i j hi hj e => h.2.2.2.1 i j hi hj (t_nn (rng i hi).1 (rng j hj).1 e)
  have idx : ∀ x, rcd q' x → ∃ j, j < cnt ∧ (M.2.1 88 j).toInt.toNat = x := fun x hx => h.2.2.2.2 x hx.1 (by rw [← a2]; exact hx.2)
  have cell : ∀ j i, j < cnt → i < 2 ^ ins → q'.1 0 (16 * (M.2.1 88 j).toInt.toNat + i) = M.2.1 92 (16 * j + i) ∧ q'.1 1 (16 * (M.2.1 88 j).toInt.toNat + i) = if M.2.1 92 (16 * j + i) = -1 then -1 else M.2.1 93 (16 * j + i) := fun j i hj hi => by rw [a0, a1]; exact ⟨(hC j i (Or.inl ⟨hj, hi⟩)).1, (hC j i (Or.inl ⟨hj, hi⟩)).2.1⟩
  have kind : ∀ j i, j < cnt → i < 2 ^ ins → M.2.1 92 (16 * j + i) = -1 ∨ M.2.1 92 (16 * j + i) = 257 ∨ ∃ k, k < cnt ∧ M.2.1 92 (16 * j + i) = M.2.1 88 k := fun j i hj hi => hD.2.2.2.1 j i (Or.inl ⟨hj, hi⟩)
  have z1 : ((-1 : Int32) < 0) := by decide
  have z2 : ¬ ((257 : Int32) < 0) := by decide
  have zk : ∀ k, k < cnt → ¬ M.2.1 88 k < 0 ∧ ¬ M.2.1 88 k = 257 ∧ ¬ M.2.1 88 k = -1 := fun k hk => by
    have := rng k hk
    refine ⟨fun e => ?_, fun e => ?_, fun e => ?_⟩
    · have := i_lt.mp e
      rw [il_0] at this
      omega
    · rw [e, il_257] at this
      omega
    · rw [e, il_m1] at this
      omega
  -- states not told apart are in one group
  have one : ∀ a b, a < cnt → b < cnt → ¬ ap r a b → q'.1 6 (M.2.1 88 a).toInt.toNat = q'.1 6 (M.2.1 88 b).toInt.toNat := by
    intro a b ha hb hab
    refine s6 (fun x y => ∃ a b, a < cnt ∧ b < cnt ∧ (M.2.1 88 a).toInt.toNat = x ∧ (M.2.1 88 b).toInt.toNat = y ∧ ¬ ap r a b) ?_ _ _ (rc a ha) (rc b hb) ⟨a, b, ha, hb, rfl, rfl, hab⟩
    rintro x y - - ⟨a, b, ha, hb, ex, ey, hab⟩ i hi
    subst ex ey
    obtain ⟨c1, c2⟩ := cell a i ha hi
    obtain ⟨c3, c4⟩ := cell b i hb hi
    rw [c1, c2, c3, c4]
    have nd : ¬ dfP M (2 ^ ins) a b := fun z => hab (m6 a b ha hb z)
    have ds : dsm M a b i := Classical.byContradiction (fun z => nd ⟨i, hi, z⟩)
    obtain ⟨d1, d2, d3⟩ := ds
    rcases kind a i ha hi with ka | ka | ⟨k, ka1, ka2⟩
    · have lb : M.2.1 92 (16 * b + i) < 0 := d1.mp (by rw [ka]; exact z1)
      have kb : M.2.1 92 (16 * b + i) = -1 := by
        rcases kind b i hb hi with kb | kb | ⟨k, kb1, kb2⟩
        · exact kb
        · rw [kb] at lb; exact absurd lb z2
        · rw [kb2] at lb; exact absurd lb (zk k kb1).1
      rw [ka, kb, if_pos rfl]
      exact ⟨Or.inl rfl, rfl⟩
    · have kb : M.2.1 92 (16 * b + i) = 257 := d2.mp ka
      have d4 := d3 (by rw [ka]; exact z2)
      rw [ka, kb, d4]
      exact ⟨Or.inl rfl, rfl⟩
    · have lb : ¬ M.2.1 92 (16 * b + i) < 0 := fun z => (zk k ka1).1 (by rw [← ka2]; exact d1.mpr z)
      have nb : ¬ M.2.1 92 (16 * b + i) = 257 := fun z => (zk k ka1).2.1 (by rw [← ka2]; exact d2.mpr z)
      have d4 := d3 (by rw [ka2]; exact (zk k ka1).1)
      rcases kind b i hb hi with kb | kb | ⟨k', kb1, kb2⟩
      · rw [kb] at lb; exact absurd z1 lb
      · exact absurd kb nb
      · rw [ka2, kb2, d4, if_neg (zk k ka1).2.2, if_neg (zk k' kb1).2.2]
        refine ⟨Or.inr ⟨rR k ka1, rR k' kb1, k, k', ka1, kb1, rfl, rfl, fun z => hab (m5 k k' ka1 kb1 z i hi a b ha hb ka2 kb2)⟩, rfl⟩
  -- states in one group are not told apart
  have two : ∀ a b, a < cnt → b < cnt → q'.1 6 (M.2.1 88 a).toInt.toNat = q'.1 6 (M.2.1 88 b).toInt.toNat → ¬ ap r a b := by
    intro a b ha hb hab
    refine m4 (fun a b => q'.1 6 (M.2.1 88 a).toInt.toNat = q'.1 6 (M.2.1 88 b).toInt.toNat) ?_ a b ha hb hab
    intro a b ha hb hab
    have ac := s5 _ _ (rc a ha) (rc b hb) hab
    constructor
    · rintro ⟨i, hi, hn⟩
      apply hn
      obtain ⟨c1, c2⟩ := cell a i ha hi
      obtain ⟨c3, c4⟩ := cell b i hb hi
      have aci := ac i hi
      rw [c1, c2, c3, c4] at aci
      obtain ⟨e1, e2⟩ := aci
      rcases e1 with e1 | ⟨e1, e3, -⟩
      · refine ⟨by rw [e1], by rw [e1], fun z => ?_⟩
        have n1 : ¬ M.2.1 92 (16 * a + i) = -1 := fun w => z (by rw [w]; exact z1)
        rw [← e1, if_neg n1, if_neg n1] at e2
        exact e2
      · have p1 : ∀ x : Int32, awR q' x → ¬ x < 0 ∧ ¬ x = 257 ∧ ¬ x = -1 := fun x hx => by
          have h1 := hx.1
          have h2 := hx.2.1
          refine ⟨fun e => ?_, fun e => ?_, fun e => ?_⟩
          · have := i_lt.mp e
            rw [il_0] at this
            omega
          · rw [e, il_257] at h2
            omega
          · rw [e, il_m1] at h1
            omega
        obtain ⟨f1, f2, f3⟩ := p1 _ e1
        obtain ⟨g1, g2, g3⟩ := p1 _ e3
        rw [if_neg f3, if_neg g3] at e2
        exact ⟨⟨fun z => absurd z f1, fun z => absurd z g1⟩, ⟨fun z => absurd z f2, fun z => absurd z g2⟩, fun _ => e2⟩
    · intro i hi p s hp hs g1 g2
      have g1 : M.2.1 92 (16 * a + i) = M.2.1 88 p := g1
      have g2 : M.2.1 92 (16 * b + i) = M.2.1 88 s := g2
      have aci := (ac i hi).1
      rw [(cell a i ha hi).1, (cell b i hb hi).1, g1, g2] at aci
      show q'.1 6 (M.2.1 88 p).toInt.toNat = q'.1 6 (M.2.1 88 s).toInt.toNat
      rcases aci with e | ⟨-, -, e⟩
      · rw [e]
      · exact e
  have r88 : r.2.1 88 = M.2.1 88 := m2 88 (by omega)
  unfold grO
  rw [r88]
  refine ⟨fun j hj => ?_, ?_⟩
  · obtain ⟨x, x1, x2, x3, x4⟩ := s3 _ (rc j hj)
    obtain ⟨l, l1, l2⟩ := idx x x2
    have ex : Int32.ofNat x = M.2.1 88 l := by
      rw [← l2]
      exact ofN_t (rng l l1).1 (by have := rng l l1; omega)
    refine ⟨two j j hj hj rfl, l, l1, by rw [x3, ex], two j l hj l1 (by rw [x3, l2, x4]), fun b hb hjb => ?_⟩
    have e := one j b hj hb hjb
    obtain ⟨y, y1, y2, y3, y4⟩ := s3 _ (rc b hb)
    rw [x3, y3] at e
    have exy := ofN_j (by have := x2.1; omega) (by have := y2.1; omega) e
    have := rng l l1
    have := rng b hb
    omega
  · rw [s4]
    refine congrArg Int32.ofNat (Nat.le_antisymm ?_ ?_)
    · -- a state's place
      have ch : ∀ y, ∃ j, rcd q' y → j < cnt ∧ (M.2.1 88 j).toInt.toNat = y := fun y => by
        by_cases c : rcd q' y
        · obtain ⟨j, j1, j2⟩ := idx y c
          exact ⟨j, fun _ => ⟨j1, j2⟩⟩
        · exact ⟨0, fun z => absurd z c⟩
      obtain ⟨f, hf⟩ := Classical.axiomOfChoice ch
      refine ctP_inj (f := f) 257 _ (fun y hy hP => ⟨(hf y hP.1).1, ?_⟩) (fun y z hy hz hP hQ e => ?_)
      · obtain ⟨k1, k2⟩ := hf y hP.1
        show q'.1 6 (M.2.1 88 (f y)).toInt.toNat = M.2.1 88 (f y)
        have rg := rng _ k1
        have e := ofN_t rg.1 (by omega)
        rw [k2] at e
        rw [k2, hP.2]
        exact e
      · have k1 := (hf y hP.1).2
        have k2 := (hf z hQ.1).2
        rw [← k1, ← k2, e]
    · refine ctP_inj (f := fun j => (M.2.1 88 j).toInt.toNat) cnt _ (fun j hj hP => ⟨(rc j hj).1, rc j hj, ?_⟩) (fun i j hi hj _ _ e => inj i j hi hj e)
      have hP : q'.1 6 (M.2.1 88 j).toInt.toNat = M.2.1 88 j := hP
      rw [hP]
      have := rng j hj
      exact (ofN_t this.1 (by omega)).symm
end GRO
