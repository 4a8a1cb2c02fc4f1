/-! codes of the class as bits -/
theorem gb_neg {a : Int32} {k : Nat} : gb (-a) k = (gb a k ^^ (decide (k < 32) && decide (∃ j, j < k ∧ gb a j = true))) := by
  show (-a.toBitVec).getLsbD k = _
  rw [BitVec.getLsbD_neg]
theorem gb_m4 (k : Nat) : gb (-4) k = decide (2 ≤ k ∧ k < 32) := gb_lit (p := fun k => decide (2 ≤ k ∧ k < 32)) (by decide +kernel) (fun k h => decide_eq_false (by omega)) k
theorem gb_us2 {a : Int32} {k : Nat} : gb ((Int32.toUInt32 a >>> (Int32.toUInt32 2 &&& Int32.toUInt32 31)).toInt32) k = gb a (2 + k) := by
  show (a.toBitVec.ushiftRight 2).getLsbD k = _
  exact BitVec.getLsbD_ushiftRight ..
theorem gb_us1 {a : Int32} {k : Nat} : gb ((Int32.toUInt32 a >>> (Int32.toUInt32 1 &&& Int32.toUInt32 31)).toInt32) k = gb a (1 + k) := by
  show (a.toBitVec.ushiftRight 1).getLsbD k = _
  exact BitVec.getLsbD_ushiftRight ..
/-- the lowest one -/
theorem low_ex {p : Nat → Bool} : ∀ k, (∃ j, j ≤ k ∧ p j = true) → ∃ j, j ≤ k ∧ p j = true ∧ ∀ i, i < j → p i = false := by
  intro k
  induction k with
  | zero =>
    rintro ⟨j, h1, h2⟩
    exact ⟨j, h1, h2, fun i hi => by omega⟩
  | succ k ih =>
    rintro ⟨j, h1, h2⟩
    by_cases c : ∃ j, j ≤ k ∧ p j = true
    · obtain ⟨j', g1, g2, g3⟩ := ih c
      exact ⟨j', by omega, g2, g3⟩
    · refine ⟨j, h1, h2, fun i hi => ?_⟩
      cases e : p i
      · rfl
      · exact absurd ⟨i, by omega, e⟩ c
theorem gb_low {b : Int32} {k : Nat} : gb (b &&& (-b)) k = true ↔ gb b k = true ∧ ∀ j, j < k → gb b j = false := by
  rw [gb_and, gb_neg, Bool.and_eq_true]
  constructor
  · rintro ⟨h1, h2⟩
    refine ⟨h1, fun j hj => ?_⟩
    cases e : gb b j
    · rfl
    · have hk : k < 32 := by
        by_cases c : k < 32
        · exact c
        · rw [gb_ge (by omega)] at h1; cases h1
      rw [h1, decide_eq_true hk, decide_eq_true (show ∃ j, j < k ∧ gb b j = true from ⟨j, hj, e⟩)] at h2
      cases h2
  · rintro ⟨h1, h2⟩
    refine ⟨h1, ?_⟩
    rw [h1, decide_eq_false (show ¬ ∃ j, j < k ∧ gb b j = true from fun ⟨j, hj, e⟩ => by rw [h2 j hj] at e; cases e), Bool.and_false]
    rfl
theorem gb_up {b : Int32} {k : Nat} : gb (-(b &&& (-b))) k = true ↔ k < 32 ∧ ∃ j, j ≤ k ∧ gb b j = true := by
  rw [gb_neg]
  by_cases hk : k < 32
  · rw [decide_eq_true hk, Bool.true_and]
    by_cases c : ∃ j, j < k ∧ gb (b &&& (-b)) j = true
    · rw [decide_eq_true c]
      obtain ⟨j, hj, e⟩ := c
      have e' := gb_low.mp e
      have nk : gb (b &&& (-b)) k = false := by
        cases x : gb (b &&& (-b)) k
        · rfl
        · have := (gb_low.mp x).2 j hj
          rw [e'.1] at this; cases this
      rw [nk]
      exact ⟨fun _ => ⟨hk, j, by omega, e'.1⟩, fun _ => rfl⟩
    · rw [decide_eq_false c]
      have none : ∀ j, j < k → gb b j = false := by
        intro j hj
        cases x : gb b j
        · rfl
        · obtain ⟨t, t1, t2, t3⟩ := low_ex (p := fun i => gb b i) j ⟨j, Nat.le_refl _, x⟩
          exact absurd ⟨t, by omega, gb_low.mpr ⟨t2, t3⟩⟩ c
      rw [Bool.xor_false]
      constructor
      · intro h
        exact ⟨hk, k, Nat.le_refl _, (gb_low.mp h).1⟩
      · rintro ⟨-, j, h1, h2⟩
        by_cases ej : j = k
        · subst ej
          exact gb_low.mpr ⟨h2, none⟩
        · rw [none j (by omega)] at h2; cases h2
  · rw [decide_eq_false hk, Bool.false_and, Bool.xor_false, gb_ge (by omega)]
    exact ⟨fun z => Bool.noConfusion z, fun z => absurd z.1 hk⟩
section CLB
variable {a b : Int32} {X Y : Nat → Prop}
theorem gP_b (h1 : cB a X) (h2 : cB b Y) : cB (gP a b) (xPa X Y) := by
  refine ⟨fun k => ?_, fun k hk => ?_⟩
  · show gb ((a &&& (-(b &&& (-b)))) ||| (b &&& (-(a &&& (-a))))) k = true ↔ _
    rw [gb_or, gb_and, gb_and, Bool.or_eq_true, Bool.and_eq_true, Bool.and_eq_true, gb_up, gb_up]
    constructor
    · rintro (⟨x, -, j, y1, y2⟩ | ⟨x, -, j, y1, y2⟩)
      · exact Or.inl ⟨(h1.1 k).mp x, j, y1, (h2.1 j).mp y2⟩
      · exact Or.inr ⟨(h2.1 k).mp x, j, y1, (h1.1 j).mp y2⟩
    · rintro (⟨x, j, y1, y2⟩ | ⟨x, j, y1, y2⟩)
      · exact Or.inl ⟨(h1.1 k).mpr x, by have := h1.2 k x; omega, j, y1, (h2.1 j).mpr y2⟩
      · exact Or.inr ⟨(h2.1 k).mpr x, by have := h2.2 k x; omega, j, y1, (h1.1 j).mpr y2⟩
  · rcases hk with ⟨x, -⟩ | ⟨x, -⟩
    · exact h1.2 k x
    · exact h2.2 k x
theorem wTr_b (h : cB a X) : cB (wTr a) (xCa X) := by
  have hb : ∀ k, gb a k = true ↔ X k := h.1
  refine ⟨fun k => ?_, fun k hk => ?_⟩
  · unfold wTr
    show gb (((a &&& 3) ||| ((Int32.toUInt32 a >>> (Int32.toUInt32 2 &&& Int32.toUInt32 31)).toInt32 &&& 1)) ||| ((Int32.toUInt32 a >>> (Int32.toUInt32 1 &&& Int32.toUInt32 31)).toInt32 &&& (-4))) k = true ↔ _
    rw [gb_or, gb_or, gb_and, gb_and, gb_and, gb_us2, gb_us1, gb_3, gb_1, gb_m4, Bool.or_eq_true, Bool.or_eq_true, Bool.and_eq_true, Bool.and_eq_true, Bool.and_eq_true, hb, hb, hb, decide_eq_true_iff, decide_eq_true_iff, decide_eq_true_iff]
    unfold xCa
    constructor
    · rintro ((⟨x, y⟩ | ⟨x, y⟩) | ⟨x, y⟩)
      · by_cases c : k = 0
        · subst c; exact Or.inl ⟨rfl, Or.inl x⟩
        · have : k = 1 := by omega
          subst this; exact Or.inr (Or.inl ⟨rfl, x⟩)
      · subst y; exact Or.inl ⟨rfl, Or.inr x⟩
      · rw [Nat.add_comm] at x
        exact Or.inr (Or.inr ⟨y.1, x⟩)
    · rintro (⟨rfl, x | x⟩ | ⟨rfl, x⟩ | ⟨y, x⟩)
      · exact Or.inl (Or.inl ⟨x, by omega⟩)
      · exact Or.inl (Or.inr ⟨x, rfl⟩)
      · exact Or.inl (Or.inl ⟨x, by omega⟩)
      · refine Or.inr ⟨by rw [Nat.add_comm]; exact x, y, ?_⟩
        have := h.2 _ x
        omega
  · rcases hk with ⟨rfl, -⟩ | ⟨rfl, -⟩ | ⟨y, x⟩
    · omega
    · omega
    · have := h.2 _ x
      omega
theorem thN_b (h1 : cB a X) (h2 : cB b Y) : cB (if (a &&& 1) = 0 then a else ((a &&& (-2)) ||| b)) (xTh X Y) := by
  refine then_b h1 h2 ?_
  delta mm_then
  by_cases c : (a &&& 1) = 0
  · rw [if_pos c, if_pos c]; rfl
  · rw [if_neg c, if_neg c]; rfl
theorem ex1_e : ∀ i, i < 28 → ∀ k, k < 32 → gb ((1 : Int32) <<< (Int32.ofNat i &&& 31)) k = decide (k = i) := by decide +kernel
theorem ex_b {n : Int32} {i : Nat} (hi : i < 28) (e : n = Int32.ofNat i) : cB ((1 : Int32) <<< (n &&& (31 : Int32))) (fun k => k = i) := by
  subst e
  refine ⟨fun k => ?_, fun k hk => by omega⟩
  show gb _ k = true ↔ _
  by_cases c : k < 32
  · rw [ex1_e i hi k c, decide_eq_true_iff]
  · rw [gb_ge (by omega)]
    exact ⟨fun z => Bool.noConfusion z, fun z => by omega⟩
theorem cB_uni {c d : Int32} (h : cB c X) (g : cB d X) : c = d := gb_eq (fun k _ => by
  cases x : gb c k <;> cases y : gb d k
  · rfl
  · have := (h.1 k).mpr ((g.1 k).mp y)
    have : gb c k = true := this
    rw [x] at this; cases this
  · have := (g.1 k).mpr ((h.1 k).mp x)
    have : gb d k = true := this
    rw [y] at this; cases this
  · rfl)
end CLB
