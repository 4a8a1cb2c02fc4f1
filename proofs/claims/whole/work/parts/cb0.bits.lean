/-! codes as bits -/
abbrev gb (c : Int32) (k : Nat) : Bool := c.toBitVec.getLsbD k
theorem gb_and {a b : Int32} {k : Nat} : gb (a &&& b) k = (gb a k && gb b k) := by
  show (a.toBitVec &&& b.toBitVec).getLsbD k = _
  rw [BitVec.getLsbD_and]
theorem gb_or {a b : Int32} {k : Nat} : gb (a ||| b) k = (gb a k || gb b k) := by
  show (a.toBitVec ||| b.toBitVec).getLsbD k = _
  rw [BitVec.getLsbD_or]
theorem gb_ge {a : Int32} {k : Nat} (h : 32 ≤ k) : gb a k = false := BitVec.getLsbD_of_ge _ _ h
theorem gb_eq {a b : Int32} (h : ∀ k, k < 32 → gb a k = gb b k) : a = b := Int32.toBitVec_inj.mp (BitVec.eq_of_getLsbD_eq (fun i hi => h i hi))
theorem gb_lit {a : Int32} {p : Nat → Bool} (h : ∀ k, k < 32 → gb a k = p k) (hg : ∀ k, 32 ≤ k → p k = false) (k : Nat) : gb a k = p k := by
  by_cases c : k < 32
  · exact h k c
  · rw [gb_ge (by omega), hg k (by omega)]
theorem gb_0 (k : Nat) : gb 0 k = false := gb_lit (p := fun _ => false) (by decide +kernel) (fun _ _ => rfl) k
theorem gb_1 (k : Nat) : gb 1 k = decide (k = 0) := gb_lit (p := fun k => decide (k = 0)) (by decide +kernel) (fun k h => decide_eq_false (by omega)) k
theorem gb_2 (k : Nat) : gb 2 k = decide (k = 1) := gb_lit (p := fun k => decide (k = 1)) (by decide +kernel) (fun k h => decide_eq_false (by omega)) k
theorem gb_3 (k : Nat) : gb 3 k = decide (k < 2) := gb_lit (p := fun k => decide (k < 2)) (by decide +kernel) (fun k h => decide_eq_false (by omega)) k
theorem gb_4 (k : Nat) : gb 4 k = decide (k = 2) := gb_lit (p := fun k => decide (k = 2)) (by decide +kernel) (fun k h => decide_eq_false (by omega)) k
theorem gb_m2 (k : Nat) : gb (-2) k = decide (¬ k = 0 ∧ k < 32) := gb_lit (p := fun k => decide (¬ k = 0 ∧ k < 32)) (by decide +kernel) (fun k h => decide_eq_false (by omega)) k
theorem gb_sl2 {a : Int32} {k : Nat} : gb (a <<< (2 &&& (31 : Int32))) k = (decide (k < 32) && !decide (k < 2) && gb a (k - 2)) := by
  show (a.toBitVec <<< 2).getLsbD k = _
  rw [BitVec.getLsbD_shiftLeft]
theorem gb_sl3 {a : Int32} {k : Nat} : gb (a <<< (3 &&& (31 : Int32))) k = (decide (k < 32) && !decide (k < 3) && gb a (k - 3)) := by
  show (a.toBitVec <<< 3).getLsbD k = _
  rw [BitVec.getLsbD_shiftLeft]
theorem gb_sr {a : Int32} {s k : Nat} (h : gb a 31 = false) : (a.toBitVec.sshiftRight s).getLsbD k = gb a (s + k) := by
  have hm : a.toBitVec.msb = false := by
    rw [BitVec.msb_eq_getLsbD_last]
    exact h
  rw [BitVec.getLsbD_sshiftRight, hm]
  by_cases c : 32 ≤ k
  · rw [decide_eq_true c, gb_ge (show 32 ≤ s + k by omega)]
    rfl
  · rw [decide_eq_false c]
    by_cases d : s + k < 32
    · rw [if_pos d]
      rfl
    · rw [if_neg d, gb_ge (show 32 ≤ s + k by omega)]
      rfl
theorem bit0 {c : Int32} : (c &&& 1) = 0 ↔ gb c 0 = false := by
  constructor
  · intro h
    have h2 : gb (c &&& 1) 0 = gb 0 0 := congrArg (fun z => gb z 0) h
    rw [gb_and, gb_1, gb_0] at h2
    cases e : gb c 0
    · rfl
    · rw [e] at h2; cases h2
  · intro h
    refine gb_eq (fun k _ => ?_)
    rw [gb_and, gb_1, gb_0]
    by_cases e : k = 0
    · subst e; rw [h]; rfl
    · rw [decide_eq_false e, Bool.and_false]
theorem bit1 {c : Int32} : (c &&& 1) = 1 ↔ gb c 0 = true := by
  constructor
  · intro h
    have h2 : gb (c &&& 1) 0 = gb 1 0 := congrArg (fun z => gb z 0) h
    rw [gb_and, gb_1] at h2
    cases e : gb c 0
    · rw [e] at h2; cases h2
    · rfl
  · intro h
    refine gb_eq (fun k _ => ?_)
    rw [gb_and, gb_1]
    by_cases e : k = 0
    · subst e; rw [h]; rfl
    · rw [decide_eq_false e, Bool.and_false]
section COD
variable {c c1 c2 d : Int32} {X Y : Nat → Prop}
theorem cB.hi (h : cB c X) {k : Nat} (hk : 28 ≤ k) : gb c k = false := by
  cases e : gb c k
  · rfl
  · have := h.2 k ((h.1 k).mp e)
    omega
theorem cB_congr (h : cB c X) (e : ∀ k, X k ↔ Y k) : cB c Y := ⟨fun k => (h.1 k).trans (e k), fun k z => h.2 k ((e k).mpr z)⟩
theorem cB_1 : cB 1 (fun k => k = 0) := ⟨fun k => by show gb 1 k = true ↔ _; rw [gb_1, decide_eq_true_iff], fun k h => by omega⟩
theorem cB_2 : cB 2 (fun k => k = 1) := ⟨fun k => by show gb 2 k = true ↔ _; rw [gb_2, decide_eq_true_iff], fun k h => by omega⟩
theorem cB_or (h1 : cB c1 X) (h2 : cB c2 Y) : cB (c1 ||| c2) (fun k => X k ∨ Y k) := by
  refine ⟨fun k => ?_, fun k z => z.elim (h1.2 k) (h2.2 k)⟩
  show gb (c1 ||| c2) k = true ↔ _
  rw [gb_or, Bool.or_eq_true]
  exact or_congr (h1.1 k) (h2.1 k)
theorem then_b (h1 : cB c1 X) (h2 : cB c2 Y) (h : mm_then c1 c2 = some c) : cB c (xTh X Y) := by
  delta mm_then mm_then_L16 at h
  rcases iv_if h with ⟨d, h⟩ | ⟨d, h⟩
  · have h := (Option.some.inj h).symm
    subst h
    have n0 : ¬ X 0 := fun z => by
      have z2 : gb c 0 = true := (h1.1 0).mpr z
      rw [bit0.mp d] at z2
      cases z2
    refine ⟨fun k => (h1.1 k).trans ⟨fun z => Or.inr ⟨n0, z⟩, ?_⟩, ?_⟩
    · rintro (⟨z, -⟩ | ⟨-, z⟩)
      · exact absurd z n0
      · exact z
    · rintro k (⟨z, -⟩ | ⟨-, z⟩)
      · exact absurd z n0
      · exact h1.2 k z
  · have y0 : X 0 := (h1.1 0).mp (by
      cases e : c1.toBitVec.getLsbD 0
      · exact absurd (bit0.mpr e) d
      · rfl)
    have h := (Option.some.inj h).symm
    subst h
    refine ⟨fun k => ?_, ?_⟩
    · show gb ((c1 &&& (-2)) ||| c2) k = true ↔ _
      rw [gb_or, gb_and, gb_m2, Bool.or_eq_true, Bool.and_eq_true, decide_eq_true_iff]
      constructor
      · rintro (⟨z1, z2⟩ | z)
        · exact Or.inl ⟨y0, Or.inl ⟨z2.1, (h1.1 k).mp z1⟩⟩
        · exact Or.inl ⟨y0, Or.inr ((h2.1 k).mp z)⟩
      · rintro (⟨-, ⟨z1, z2⟩ | z⟩ | ⟨z, -⟩)
        · exact Or.inl ⟨(h1.1 k).mpr z2, z1, by have := h1.2 k z2; omega⟩
        · exact Or.inr ((h2.1 k).mpr z)
        · exact absurd y0 z
    · rintro k (⟨-, ⟨-, z⟩ | z⟩ | ⟨-, z⟩)
      · exact h1.2 k z
      · exact h2.2 k z
      · exact h1.2 k z
theorem caught_b (h : cB c X) (hq : mm_caught c = some d) : cB d (xCa X) := by
  have hq := (Option.some.inj hq).symm
  subst hq
  have h31 := h.hi (k := 31) (by omega)
  have s2 : ∀ k, gb (c >>> (2 &&& (31 : Int32))) k = gb c (2 + k) := fun k => gb_sr (s := 2) h31
  have s3 : ∀ k, gb (c >>> (3 &&& (31 : Int32))) k = gb c (3 + k) := fun k => gb_sr (s := 3) h31
  refine ⟨fun k => ?_, ?_⟩
  · show gb (((c &&& 3) ||| ((c >>> (2 &&& (31 : Int32))) &&& 1)) ||| ((c >>> (3 &&& (31 : Int32))) <<< (2 &&& (31 : Int32)))) k = true ↔ _
    rw [gb_or, gb_or, gb_and, gb_3, gb_and, gb_1, s2, gb_sl2, s3]
    simp only [Bool.or_eq_true, Bool.and_eq_true, decide_eq_true_iff, Bool.not_eq_true', decide_eq_false_iff_not]
    rw [show (gb c k = true) = (c.toBitVec.getLsbD k = true) from rfl, h.1 k, h.1 (2 + k), h.1 (3 + (k - 2))]
    constructor
    · rintro ((⟨z1, z2⟩ | ⟨z1, z2⟩) | ⟨⟨z1, z2⟩, z3⟩)
      · rcases Nat.lt_or_ge k 1 with z | z
        · have e : k = 0 := by omega
          subst e
          exact Or.inl ⟨rfl, Or.inl z1⟩
        · have e : k = 1 := by omega
          subst e
          exact Or.inr (Or.inl ⟨rfl, z1⟩)
      · subst z2
        exact Or.inl ⟨rfl, Or.inr z1⟩
      · refine Or.inr (Or.inr ⟨by omega, ?_⟩)
        rw [show 3 + (k - 2) = k + 1 by omega] at z3
        exact z3
    · rintro (⟨rfl, z | z⟩ | ⟨rfl, z⟩ | ⟨z1, z⟩)
      · exact Or.inl (Or.inl ⟨z, by omega⟩)
      · exact Or.inl (Or.inr ⟨z, rfl⟩)
      · exact Or.inl (Or.inl ⟨z, by omega⟩)
      · refine Or.inr ⟨⟨by have := h.2 _ z; omega, by omega⟩, ?_⟩
        rw [show 3 + (k - 2) = k + 1 by omega]
        exact z
  · rintro k (⟨rfl, -⟩ | ⟨rfl, -⟩ | ⟨z1, z⟩)
    · omega
    · omega
    · have := h.2 _ z
      omega
end COD
