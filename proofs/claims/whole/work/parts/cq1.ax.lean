/-! explore: the class's atlas beside the reference's rows -/
/-- states met, in their order; how far; whence; on what -/
def axS (q : rsT) (M : md_S) (cnt pa : Nat) : Prop :=
  (q.2 9 = Int32.ofNat cnt ∧ M.1 87 = Int32.ofNat cnt ∧ cnt ≤ 257) ∧
  (∀ j, j < cnt → (0 ≤ (M.2.1 88 j).toInt ∧ (M.2.1 88 j).toInt < 257) ∧ (M.2.1 88 j = 256 ∨ ((∃ p, p < pa ∧ ¬ inB (M.2.1 88 j) p = 0) ∧ ∀ k, pa ≤ k → gb (M.2.1 88 j) k = false)) ∧ q.1 5 j = M.2.1 88 j ∧ q.1 2 (M.2.1 88 j).toInt.toNat = M.2.1 89 j ∧ q.1 3 (M.2.1 88 j).toInt.toNat = (if M.2.1 90 j = -1 then -1 else M.2.1 88 (M.2.1 90 j).toInt.toNat) ∧ (0 < j → q.1 4 (M.2.1 88 j).toInt.toNat = M.2.1 91 j)) ∧
  (∀ j, j < cnt → (0 ≤ (M.2.1 89 j).toInt ∧ (M.2.1 89 j).toInt ≤ (j : Int)) ∧ (M.2.1 90 j = -1 ∨ (0 ≤ (M.2.1 90 j).toInt ∧ (M.2.1 90 j).toInt < (j : Int)))) ∧
  (∀ i j, i < cnt → j < cnt → M.2.1 88 i = M.2.1 88 j → i = j) ∧
  (∀ x, x < 257 → ¬ q.1 2 x = -1 → ∃ j, j < cnt ∧ (M.2.1 88 j).toInt.toNat = x)
section AXS
variable {q : rsT} {M r : md_S} {cnt pa : Nat} {x y z p2 p3 : Int32}
theorem t_nn {a b : Int32} (ha : 0 ≤ a.toInt) (hb : 0 ≤ b.toInt) (e : a.toInt.toNat = b.toInt.toNat) : a = b := Int32.toInt_inj.mp (by omega)
theorem axS_r (h : axS q M cnt pa) (hx : 0 ≤ x.toInt ∧ x.toInt < 257) : awR q x ↔ ∃ j, j < cnt ∧ M.2.1 88 j = x := by
  obtain ⟨-, h2, h3, -, h5⟩ := h
  constructor
  · rintro ⟨a1, a2, a3⟩
    obtain ⟨j, j1, j2⟩ := h5 _ (by omega) a3
    exact ⟨j, j1, t_nn (h2 j j1).1.1 a1 j2⟩
  · rintro ⟨j, j1, j2⟩
    refine ⟨hx.1, hx.2, fun e => ?_⟩
    have e2 := (h2 j j1).2.2.2.1
    rw [j2, e] at e2
    have e3 := (h3 j j1).1.1
    rw [← e2] at e3
    exact absurd e3 (by decide)
theorem uC_1 {j : Nat} {v : Int32} : (uC q j v).1 = q.1 := rfl
theorem inc_1 {x : Int32} (h0 : 0 ≤ x.toInt) (h : x.toInt ≤ 100000) : (x + 1).toInt = x.toInt + 1 := by rw [a_add, il_1]; omega
theorem awM_1 : (awM q x y z).1 2 = upd (q.1 2) x.toInt.toNat (if y = -1 then 0 else q.1 2 y.toInt.toNat + 1) ∧ (awM q x y z).1 3 = upd (q.1 3) x.toInt.toNat y ∧ (awM q x y z).1 4 = upd (q.1 4) x.toInt.toNat z ∧ (awM q x y z).1 5 = upd (q.1 5) (q.2 9).toInt.toNat x ∧ (∀ i, ¬ (2 ≤ i ∧ i ≤ 5) → (awM q x y z).1 i = q.1 i) ∧ (awM q x y z).2 9 = q.2 9 + 1 ∧ ∀ i, ¬ i = 9 → (awM q x y z).2 i = q.2 i := by
  unfold awM
  refine ⟨?_, ?_, ?_, ?_, fun i hi => ?_, uC_s, fun i hi => uC_n hi⟩
  · rw [uC_1, uX_n (by omega), uX_n (by omega), uX_n (by omega), uX_s]
  · rw [uC_1, uX_n (by omega), uX_n (by omega), uX_s, uX_n (by omega)]
  · rw [uC_1, uX_n (by omega), uX_s, uX_n (by omega), uX_n (by omega)]
  · rw [uC_1, uX_s, uX_n (by omega), uX_n (by omega), uX_n (by omega)]
  · rw [uC_1, uX_n (by omega), uX_n (by omega), uX_n (by omega), uX_n (by omega)]
/-- a state more is met on both sides -/
theorem axS_m (h : axS q M cnt pa) (hx : 0 ≤ x.toInt ∧ x.toInt < 257) (hb : x = 256 ∨ ((∃ p, p < pa ∧ ¬ inB x p = 0) ∧ ∀ k, pa ≤ k → gb x k = false)) (hn : ∀ i, i < cnt → ¬ M.2.1 88 i = x) (hc : cnt < 257) (hp : p2 = -1 ∨ (0 ≤ p2.toInt ∧ p2.toInt < (cnt : Int))) (hy : y = if p2 = -1 then -1 else M.2.1 88 p2.toInt.toNat) (hz : 0 < cnt → z = p3) (r87 : r.1 87 = Int32.ofNat (cnt + 1)) (r88 : r.2.1 88 = upd (M.2.1 88) cnt x) (r90 : r.2.1 90 = upd (M.2.1 90) cnt p2) (r91 : r.2.1 91 = upd (M.2.1 91) cnt p3) (r89 : r.2.1 89 = upd (M.2.1 89) cnt (if p2 = -1 then 0 else M.2.1 89 p2.toInt.toNat + 1)) : axS (awM q x y z) r (cnt + 1) pa := by
  obtain ⟨⟨h9, h87, h257⟩, h2, h3, h4, h5⟩ := h
  obtain ⟨a2, a3, a4, a5, -, a9, -⟩ := awM_1 (q := q) (x := x) (y := y) (z := z)
  have t9 : (q.2 9).toInt.toNat = cnt := by rw [h9, Int32.toInt_ofNat_of_lt (by omega)]; omega
  rw [t9] at a5
  have ne : ∀ j, j < cnt → ¬ (M.2.1 88 j).toInt.toNat = x.toInt.toNat := fun j hj e => hn j hj (t_nn (h2 j hj).1.1 hx.1 e)
  have ev : (if y = -1 then (0 : Int32) else q.1 2 y.toInt.toNat + 1) = if p2 = -1 then 0 else M.2.1 89 p2.toInt.toNat + 1 := by
    rcases hp with e | ⟨e1, e2⟩
    · rw [if_pos e] at hy
      rw [if_pos hy, if_pos e]
    · have np : ¬ p2 = -1 := fun e => by rw [e] at e1; exact absurd e1 (by decide)
      rw [if_neg np] at hy
      have k := h2 p2.toInt.toNat (by omega)
      have ny : ¬ y = -1 := fun e => by
        have := k.1.1
        rw [← hy, e] at this
        exact absurd this (by decide)
      rw [if_neg ny, if_neg np, hy, k.2.2.2.1]
  rw [ev] at a2
  have sm : ∀ j, j < cnt → r.2.1 88 j = M.2.1 88 j ∧ r.2.1 89 j = M.2.1 89 j ∧ r.2.1 90 j = M.2.1 90 j ∧ r.2.1 91 j = M.2.1 91 j := fun j hj => ⟨by rw [r88, upd_n (by omega)], by rw [r89, upd_n (by omega)], by rw [r90, upd_n (by omega)], by rw [r91, upd_n (by omega)]⟩
  have s8 : r.2.1 88 cnt = x := by rw [r88, upd_s]
  have s9 : r.2.1 89 cnt = if p2 = -1 then 0 else M.2.1 89 p2.toInt.toNat + 1 := by rw [r89, upd_s]
  have s0 : r.2.1 90 cnt = p2 := by rw [r90, upd_s]
  have s1 : r.2.1 91 cnt = p3 := by rw [r91, upd_s]
  have cam : ∀ v : Int32, (v = -1 ∨ (0 ≤ v.toInt ∧ v.toInt < (cnt : Int))) → (if v = -1 then (-1 : Int32) else r.2.1 88 v.toInt.toNat) = if v = -1 then -1 else M.2.1 88 v.toInt.toNat := by
    intro v hv
    rcases hv with e | ⟨e1, e2⟩
    · rw [if_pos e, if_pos e]
    · rw [(sm v.toInt.toNat (by omega)).1]
  refine ⟨⟨?_, r87, by omega⟩, fun j hj => ?_, fun j hj => ?_, fun i j hi hj e => ?_, fun v hv e => ?_⟩
  · rw [a9, h9, ad_m (by omega)]
  · by_cases c : j = cnt
    · subst c
      rw [s8, s9, s0, s1, a2, a3, a4, a5, upd_s, upd_s, upd_s, upd_s, cam p2 hp]
      exact ⟨hx, hb, rfl, rfl, hy, hz⟩
    · obtain ⟨k1, k2, k3, k4, k5, k6⟩ := h2 j (by omega)
      obtain ⟨m1, m2, m3, m4⟩ := sm j (by omega)
      have nj := ne j (by omega)
      have k90 := (h3 j (by omega)).2
      rw [m1, m2, m3, m4, a2, a3, a4, a5, upd_n c, upd_n nj, upd_n nj, upd_n nj, cam _ (k90.imp id (fun z => ⟨z.1, by omega⟩))]
      exact ⟨k1, k2, k3, k4, k5, k6⟩
  · by_cases c : j = cnt
    · subst c
      rw [s9, s0]
      refine ⟨?_, hp⟩
      rcases hp with e | ⟨e1, e2⟩
      · rw [if_pos e]
        have : (0 : Int32).toInt = 0 := by decide
        omega
      · have np : ¬ p2 = -1 := fun e => by rw [e] at e1; exact absurd e1 (by decide)
        rw [if_neg np]
        obtain ⟨⟨k1, k2⟩, -⟩ := h3 p2.toInt.toNat (by omega)
        have k3 : (M.2.1 89 p2.toInt.toNat + 1).toInt = (M.2.1 89 p2.toInt.toNat).toInt + 1 := inc_1 k1 (by omega)
        omega
    · obtain ⟨m1, m2, m3, m4⟩ := sm j (by omega)
      rw [m2, m3]
      exact h3 j (by omega)
  · by_cases c : i = cnt
    · by_cases d : j = cnt
      · omega
      · rw [c, s8, (sm j (by omega)).1] at e
        exact absurd e.symm (hn j (by omega))
    · by_cases d : j = cnt
      · rw [d, s8, (sm i (by omega)).1] at e
        exact absurd e (hn i (by omega))
      · rw [(sm i (by omega)).1, (sm j (by omega)).1] at e
        exact h4 i j (by omega) (by omega) e
  · by_cases c : v = x.toInt.toNat
    · exact ⟨cnt, by omega, by rw [s8, c]⟩
    · rw [a2, upd_n c] at e
      obtain ⟨j, j1, j2⟩ := h5 v hv e
      exact ⟨j, by omega, by rw [(sm j j1).1]; exact j2⟩
end AXS
