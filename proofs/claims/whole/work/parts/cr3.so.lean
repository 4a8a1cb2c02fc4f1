/-! the class's atlas: groups are split until none tells its states apart -/
/-- a group goes by its least state -/
def gI (q : rsT) : Prop := ∀ y, rcd q y → ∃ r, r ≤ y ∧ rcd q r ∧ q.1 6 y = Int32.ofNat r ∧ q.1 6 r = Int32.ofNat r
noncomputable def cG (q : rsT) : Nat := ctP (fun y => rcd q y ∧ q.1 6 y = Int32.ofNat y) 257
/-- what a relation must keep so that its states can't be told apart -/
def bsR (q : rsT) (W : Nat) (R : Nat → Nat → Prop) : Prop := ∀ x y, rcd q x → rcd q y → R x y → ∀ i, i < W → (q.1 0 (16 * x + i) = q.1 0 (16 * y + i) ∨ (awR q (q.1 0 (16 * x + i)) ∧ awR q (q.1 0 (16 * y + i)) ∧ R (q.1 0 (16 * x + i)).toInt.toNat (q.1 0 (16 * y + i)).toInt.toNat)) ∧ q.1 1 (16 * x + i) = q.1 1 (16 * y + i)
def crs (q : rsT) (W : Nat) : Prop := ∀ R, bsR q W R → ∀ x y, rcd q x → rcd q y → R x y → q.1 6 x = q.1 6 y
def stb (q : rsT) (W : Nat) : Prop := ∀ x y, rcd q x → rcd q y → q.1 6 x = q.1 6 y → acA q W x y
section SOP
variable {q q' : rsT} {W : Nat}
theorem cG_le : cG q ≤ 257 := ctP_le 257
theorem awR_d {x : Int32} (h : awR q x) : rcd q x.toInt.toNat := ⟨by have := h.1; have := h.2.1; omega, h.2.2⟩
theorem spO_r (h : spO q q' W) {x : Nat} : rcd q' x ↔ rcd q x := by unfold rcd; rw [h.1 2 (by omega) (by omega)]
theorem spO_R (h : spO q q' W) {x : Int32} : awR q' x ↔ awR q x := by unfold awR; rw [h.1 2 (by omega) (by omega)]
theorem spO_b (h : spO q q' W) {R : Nat → Nat → Prop} : bsR q' W R ↔ bsR q W R := by
  unfold bsR awR rcd
  rw [h.1 0 (by omega) (by omega), h.1 1 (by omega) (by omega), h.1 2 (by omega) (by omega)]
theorem spO_s (g : gI q) (h : spO q q' W) : gI q' ∧ cG q ≤ cG q' ∧ q'.2 12 = Int32.ofNat (cG q') ∧ (cG q = cG q' → stb q' W) ∧ (crs q W → crs q' W) := by
  have h3 := h.2.2.1
  have ld : ∀ y, y < 257 → (rcd q y ∧ q.1 6 y = Int32.ofNat y) → (rcd q' y ∧ q'.1 6 y = Int32.ofNat y) := by
    rintro y hy ⟨h1, h2⟩
    obtain ⟨r, i1, i2⟩ := h3 y h1
    have le := isL_le h1 i1
    obtain ⟨r0, a1, a2, a3, -⟩ := g r i1.1
    have e : Int32.ofNat r0 = Int32.ofNat y := by rw [← a3, i1.2.1.1, h2]
    have := ofN_j (by have := a2.1; omega) (by omega) e
    have : r = y := by omega
    rw [this] at i2
    exact ⟨(spO_r h).mpr h1, i2⟩
  refine ⟨fun y hy => ?_, ctP_sub 257 ld, ?_, fun ec => ?_, fun hc R hR x y hx hy hxy => ?_⟩
  · have hy := (spO_r h).mp hy
    obtain ⟨r, i1, i2⟩ := h3 y hy
    obtain ⟨r', j1, j2⟩ := h3 r i1.1
    have e := isL_u (isL_n j1 i1.2.1) i1
    rw [e] at j2
    exact ⟨r, isL_le hy i1, (spO_r h).mpr i1.1, i2, j2⟩
  · rw [h.2.2.2]
    exact congrArg Int32.ofNat (ctP_cg 257 (fun k hk => by rw [spO_r h]))
  · have back := ctP_eq 257 ld ec
    have same : ∀ y, rcd q y → q'.1 6 y = q.1 6 y := by
      intro y hy
      obtain ⟨r, i1, i2⟩ := h3 y hy
      obtain ⟨r', j1, j2⟩ := h3 r i1.1
      have e := isL_u (isL_n j1 i1.2.1) i1
      rw [e] at j2
      have k := (back r i1.1.1 ⟨(spO_r h).mpr i1.1, j2⟩).2
      rw [i2, ← i1.2.1.1, k]
    intro x y hx hy e
    have hx := (spO_r h).mp hx
    have hy := (spO_r h).mp hy
    obtain ⟨r, i1, i2⟩ := h3 x hx
    obtain ⟨r', j1, j2⟩ := h3 y hy
    rw [i2, j2] at e
    have er := ofN_j (by have := i1.1.1; omega) (by have := j1.1.1; omega) e
    rw [← er] at j1
    have n := nAl_t (nAl_s i1.2.1) j1.2.1
    intro i hi
    obtain ⟨n1, n2⟩ := n.2 i hi
    rw [h.1 0 (by omega) (by omega), h.1 1 (by omega) (by omega)]
    refine ⟨?_, n2⟩
    rcases n1 with n1 | ⟨n1, n3, n4⟩
    · exact Or.inl n1
    · refine Or.inr ⟨(spO_R h).mpr n1, (spO_R h).mpr n3, ?_⟩
      rw [same _ (awR_d n1), same _ (awR_d n3)]
      exact n4
  · have hx := (spO_r h).mp hx
    have hy := (spO_r h).mp hy
    have hR := (spO_b h).mp hR
    have n : nAl q W x y := by
      refine ⟨hc R hR x y hx hy hxy, fun i hi => ?_⟩
      obtain ⟨b1, b2⟩ := hR x y hx hy hxy i hi
      refine ⟨?_, b2⟩
      rcases b1 with b1 | ⟨b1, b3, b4⟩
      · exact Or.inl b1
      · exact Or.inr ⟨b1, b3, hc R hR _ _ (awR_d b1) (awR_d b3) b4⟩
    obtain ⟨r, i1, i2⟩ := h3 x hx
    obtain ⟨r', j1, j2⟩ := h3 y hy
    rw [i2, j2, isL_u (isL_n i1 n) j1]
/-- states in their order -/
def orO (q : rsT) (cnt : Nat) : Prop := (q.2 9 = Int32.ofNat cnt ∧ cnt ≤ 257) ∧ rcd q 256 ∧ (∀ j, j < cnt → ∃ x, q.1 5 j = Int32.ofNat x ∧ rcd q x) ∧ ∀ x, rcd q x → ∃ j, j < cnt ∧ q.1 5 j = Int32.ofNat x
/-- what sorting out leaves -/
def soO (q q' : rsT) (W : Nat) : Prop := ((∀ i, ¬ i = 6 → ¬ i = 7 → q'.1 i = q.1 i) ∧ ∀ i, ¬ i = 12 → q'.2 i = q.2 i) ∧ gI q' ∧ q'.2 12 = Int32.ofNat (cG q') ∧ stb q' W ∧ crs q' W
variable {G : hg_E} {E : awP} {S : hg_S} {cnt : Nat}
theorem so_lp (h : AW G E S q) (h8 : q.2 8 = Int32.ofNat W) (hW : W ≤ 16) (hg : gI q) (hc : crs q W) (h12 : q.2 12 = Int32.ofNat (cG q)) (h1 : cG q = 1) : dc_wp (hm_AT_sortOut_L68 G S (wO E) 0 0) (fun S' => ∃ q', AW G E S' q' ∧ soO q q' W) := by
  have key := dc_itK (step := hm_AT_sortOut_s68 G (wO E)) (fun d (v : hg_S × Int32 × Int32) => ∃ k c q', v.2.2 = Int32.ofNat k ∧ v.2.1 = Int32.ofNat c ∧ c ≤ 257 ∧ k ≤ 257 ∧ d = 257 - k ∧ AW G E v.1 q' ∧ ((∀ i, ¬ i = 6 → ¬ i = 7 → q'.1 i = q.1 i) ∧ ∀ i, ¬ i = 12 → q'.2 i = q.2 i) ∧ gI q' ∧ q'.2 12 = Int32.ofNat (cG q') ∧ crs q' W ∧ ((c = cG q' ∧ stb q' W) ∨ (¬ c = cG q' ∧ k + 1 ≤ cG q'))) (F := fun S' => ∃ q', AW G E S' q' ∧ soO q q' W) (by
    rintro d ⟨Y, v1, v2⟩ ⟨k, c, q', e1, e2, c1, k1, ed, aw, sm, gg, g12, gc, gs⟩
    have e1 : v2 = Int32.ofNat k := e1
    have e2 : v1 = Int32.ofNat c := e2
    have aw : AW G E Y q' := aw
    subst e1 e2
    have tk : (Int32.ofNat k).toInt = (k : Int) := Int32.toInt_ofNat_of_lt (by omega)
    have cl := cG_le (q := q')
    show dc_wp (hm_AT_sortOut_b68 G Y (wO E) (Int32.ofNat c) (Int32.ofNat k)) _
    delta hm_AT_sortOut_b68
    refine wq_if (fun cc => ?_) (fun cc => ?_)
    · have cc := i_lt.mp cc
      rw [tk, il_257] at cc
      refine aw_i aw (i := 12) (by decide) (by decide) ?_
      rw [g12]
      refine wq_if (fun c2 => ?_) (fun c2 => ?_)
      · have c3 := ofN_j (by omega) (by omega) c2
        rcases gs with ⟨-, gs⟩ | ⟨gs, -⟩
        · exact ⟨_, rfl, q', aw, sm, gg, g12, gs, gc⟩
        · exact absurd c3.symm gs
      · have c3 : ¬ c = cG q' := fun z => c2 (by rw [z])
        have gs := gs.elim (fun z => absurd z.1 c3) (fun z => z.2)
        refine aw_i aw (i := 12) (by decide) (by decide) ?_
        refine aw_c aw ?_
        refine wq_call (spl_w aw (by rw [sm.2 8 (by omega)]; exact h8) hW) ?_
        rintro S1 ⟨q1, a1, a2⟩
        obtain ⟨b1, b2, b3, b4, b5⟩ := spO_s gg a2
        refine ⟨_, rfl, 257 - (k + 1), by omega, k + 1, cG q', q1, ad_m (by omega), g12, cl, by omega, rfl, a1, ⟨fun i h6 h7 => (a2.1 i h6 h7).trans (sm.1 i h6 h7), fun i hi => (a2.2.1 i hi).trans (sm.2 i hi)⟩, b1, b3, b5 gc, ?_⟩
        by_cases c4 : cG q' = cG q1
        · exact Or.inl ⟨c4, b4 c4⟩
        · exact Or.inr ⟨c4, by omega⟩
    · have cc : ¬ (Int32.ofNat k).toInt < (257 : Int32).toInt := fun z => cc (i_lt.mpr z)
      rw [tk, il_257] at cc
      rcases gs with ⟨-, gs⟩ | ⟨-, gs⟩
      · exact ⟨_, rfl, q', aw, sm, gg, g12, gs, gc⟩
      · omega)
  delta hm_AT_sortOut_L68
  refine wq_call (key 257 (S, 0, 0) ⟨0, 0, q, rfl, rfl, by omega, by omega, rfl, h, ⟨fun _ _ _ => rfl, fun _ _ => rfl⟩, hg, h12, hc, Or.inr ⟨by omega, by omega⟩⟩) ?_
  intro S' hS'
  delta hm_AT_sortOut_L98
  exact ⟨_, rfl, hS'⟩
theorem so_w (h : AW G E S q) (h8 : q.2 8 = Int32.ofNat W) (hW : W ≤ 16) (ho : orO q cnt) : dc_wp (hm_AT_sortOut G S (wO E)) (fun S' => ∃ q', AW G E S' q' ∧ soO q q' W) := by
  obtain ⟨⟨o1, o2⟩, o3, o4, o5⟩ := ho
  have w5 : (wN 5 : Int) = 257 := rfl
  have w6 : (wN 6 : Int) = 257 := rfl
  have tc : (Int32.ofNat cnt).toInt = (cnt : Int) := Int32.toInt_ofNat_of_lt (by omega)
  have key := dc_itK (step := hm_AT_sortOut_s6 G S (wO E)) (fun d (v : Int32 × Int32) => ∃ k m, v.2 = Int32.ofNat k ∧ v.1 = Int32.ofNat m ∧ k ≤ cnt ∧ d = cnt - k ∧ rcd q m ∧ ∀ j, j < k → ∀ x, x < 257 → q.1 5 j = Int32.ofNat x → m ≤ x) (F := fun v => ∃ m, v = Int32.ofNat m ∧ rcd q m ∧ ∀ x, rcd q x → m ≤ x) (by
    rintro d ⟨v1, v2⟩ ⟨k, m, e1, e2, k1, ed, hm, inv⟩
    have e1 : v2 = Int32.ofNat k := e1
    have e2 : v1 = Int32.ofNat m := e2
    subst e1 e2
    have tk : (Int32.ofNat k).toInt = (k : Int) := Int32.toInt_ofNat_of_lt (by omega)
    have tkn : (Int32.ofNat k).toInt.toNat = k := by omega
    have tm : (Int32.ofNat m).toInt = (m : Int) := Int32.toInt_ofNat_of_lt (by have := hm.1; omega)
    show dc_wp (hm_AT_sortOut_b6 G S (wO E) (Int32.ofNat m) (Int32.ofNat k)) _
    delta hm_AT_sortOut_b6
    refine aw_i h (i := 9) (by decide) (by decide) ?_
    rw [o1]
    refine wq_if (fun cc => ?_) (fun cc => ?_)
    · have cc := i_lt.mp cc
      rw [tk, tc] at cc
      refine aw_g h (i := 5) (by decide) ?_
      refine aw_l h (i := 5) (by decide) (by omega) (by omega) ?_
      rw [tkn]
      obtain ⟨x, ex, hx⟩ := o4 k (by omega)
      rw [ex]
      have tx : (Int32.ofNat x).toInt = (x : Int) := Int32.toInt_ofNat_of_lt (by have := hx.1; omega)
      have em : hg_min (Int32.ofNat m) (Int32.ofNat x) = Int32.ofNat (if m ≤ x then m else x) := by
        unfold hg_min
        by_cases c2 : m ≤ x
        · rw [if_pos c2, if_neg (fun z => by have := i_lt.mp z; omega)]
        · rw [if_neg c2, if_pos (i_lt.mpr (by omega))]
      refine ⟨_, rfl, cnt - (k + 1), by omega, k + 1, if m ≤ x then m else x, ad_m (by omega), em, by omega, rfl, ?_, fun j hj y hy ey => ?_⟩
      · split
        · exact hm
        · exact hx
      · by_cases ej : j = k
        · rw [ej, ex] at ey
          have := ofN_j (by have := hx.1; omega) (by omega) ey
          split <;> omega
        · have := inv j (by omega) y hy ey
          split <;> omega
    · have cc : ¬ (Int32.ofNat k).toInt < (Int32.ofNat cnt).toInt := fun z => cc (i_lt.mpr z)
      rw [tk, tc] at cc
      refine ⟨_, rfl, m, rfl, hm, fun x hx => ?_⟩
      obtain ⟨j, j1, j2⟩ := o5 x hx
      exact inv j (by omega) x hx.1 j2)
  delta hm_AT_sortOut hm_AT_sortOut_L6
  refine wq_call (key cnt (256, 0) ⟨0, 256, rfl, rfl, by omega, rfl, o3, fun j hj => absurd hj (by omega)⟩) ?_
  rintro v ⟨m, em, hm, hmin⟩
  subst em
  delta hm_AT_sortOut_L31 hm_AT_sortOut_L33
  have key2 := dc_itK (step := hm_AT_sortOut_s33 G (wO E) (Int32.ofNat m)) (fun d (v : hg_S × Int32) => ∃ k q', v.2 = Int32.ofNat k ∧ k ≤ cnt ∧ d = cnt - k ∧ AW G E v.1 q' ∧ ((∀ i, ¬ i = 6 → q'.1 i = q.1 i) ∧ q'.2 = q.2) ∧ ∀ j, j < k → ∀ x, x < 257 → q.1 5 j = Int32.ofNat x → q'.1 6 x = Int32.ofNat m) (F := fun S' => ∃ q', AW G E S' q' ∧ ((∀ i, ¬ i = 6 → q'.1 i = q.1 i) ∧ q'.2 = q.2) ∧ ∀ x, rcd q x → q'.1 6 x = Int32.ofNat m) (by
    rintro d ⟨Y, v2⟩ ⟨k, q', e1, k1, ed, aw, sm, inv⟩
    have e1 : v2 = Int32.ofNat k := e1
    have aw : AW G E Y q' := aw
    subst e1
    have tk : (Int32.ofNat k).toInt = (k : Int) := Int32.toInt_ofNat_of_lt (by omega)
    have tkn : (Int32.ofNat k).toInt.toNat = k := by omega
    show dc_wp (hm_AT_sortOut_b33 G Y (wO E) (Int32.ofNat m) (Int32.ofNat k)) _
    delta hm_AT_sortOut_b33
    refine aw_i aw (i := 9) (by decide) (by decide) ?_
    rw [sm.2, o1]
    refine wq_if (fun cc => ?_) (fun cc => ?_)
    · have cc := i_lt.mp cc
      rw [tk, tc] at cc
      refine aw_g aw (i := 6) (by decide) ?_
      refine aw_g aw (i := 5) (by decide) ?_
      refine aw_l aw (i := 5) (by decide) (by omega) (by omega) ?_
      rw [tkn, sm.1 5 (by omega)]
      obtain ⟨x, ex, hx⟩ := o4 k (by omega)
      rw [ex]
      have x257 := hx.1
      have tx : (Int32.ofNat x).toInt = (x : Int) := Int32.toInt_ofNat_of_lt (by omega)
      have txn : (Int32.ofNat x).toInt.toNat = x := by omega
      refine aw_s aw (i := 6) (by decide) (by omega) (by omega) (fun S1 g1 => ?_)
      rw [txn] at g1
      refine ⟨_, rfl, cnt - (k + 1), by omega, k + 1, _, ad_m (by omega), by omega, rfl, g1, ⟨fun i hi => by rw [uX_n hi]; exact sm.1 i hi, sm.2⟩, fun j hj y hy ey => ?_⟩
      rw [uX_s]
      by_cases e : y = x
      · rw [e, upd_s]
      · rw [upd_n e]
        by_cases ej : j = k
        · rw [ej, ex] at ey
          exact absurd (ofN_j (by omega) (by omega) ey).symm e
        · exact inv j (by omega) y hy ey
    · have cc : ¬ (Int32.ofNat k).toInt < (Int32.ofNat cnt).toInt := fun z => cc (i_lt.mpr z)
      rw [tk, tc] at cc
      refine ⟨_, rfl, q', aw, sm, fun x hx => ?_⟩
      obtain ⟨j, j1, j2⟩ := o5 x hx
      exact inv j (by omega) x hx.1 j2)
  refine wq_call (key2 cnt (S, 0) ⟨0, q, rfl, by omega, rfl, h, ⟨fun _ _ => rfl, rfl⟩, fun j hj => absurd hj (by omega)⟩) ?_
  rintro S1 ⟨q1, a1, ⟨a2, a3⟩, a4⟩
  delta hm_AT_sortOut_L59
  refine aw_f a1 (j := 12) (by decide) (by decide) (fun S2 g2 => ?_)
  have rr : ∀ x, rcd (uC q1 12 1) x ↔ rcd q x := fun x => by
    unfold rcd
    rw [uC_1, a2 2 (by omega)]
  have g6 : ∀ x, rcd q x → (uC q1 12 1).1 6 x = Int32.ofNat m := fun x hx => a4 x hx
  have m257 := hm.1
  have one : cG (uC q1 12 1) = 1 := by
    have e1 := ctP_one (P := fun y => rcd (uC q1 12 1) y ∧ (uC q1 12 1).1 6 y = Int32.ofNat y) (Q := fun _ => False) (m := m) ⟨(rr m).mpr hm, g6 m hm⟩ (fun k => ⟨fun z => absurd z id, fun z => by
      obtain ⟨⟨z1, z2⟩, z3⟩ := z
      have z1 := (rr k).mp z1
      rw [g6 k z1] at z2
      exact z3 (ofN_j (by omega) (by have := z1.1; omega) z2).symm⟩) 257 hm.1
    have e0 : ∀ n, ctP (fun _ => False) n = 0 := by
      intro n
      induction n with
      | zero => rfl
      | succ n ih => rw [ctP_n (P := fun _ => False) id, ih]
    rw [e0] at e1
    exact e1.symm
  refine wq_w (so_lp g2 (by rw [uC_n (by omega), a3]; exact h8) hW (fun y hy => ?_) (fun R hR x y hx hy hxy => ?_) (by rw [uC_s, one]; rfl) one) ?_
  · have hy := (rr y).mp hy
    exact ⟨m, hmin y hy, (rr m).mpr hm, g6 y hy, g6 m hm⟩
  · rw [g6 x ((rr x).mp hx), g6 y ((rr y).mp hy)]
  · rintro S' ⟨q', b1, ⟨b2, b3⟩, b4⟩
    refine ⟨q', b1, ⟨fun i h6 h7 => ?_, fun i hi => ?_⟩, b4⟩
    · rw [b2 i h6 h7, uC_1]; exact a2 i h6
    · rw [b3 i hi, uC_n hi, a3]
end SOP
