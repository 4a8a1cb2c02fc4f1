/-! the bits of a state -/
section BTS
theorem b8_or : ∀ m, m < 256 → ∀ k, k < 8 → Int32.ofNat m ||| ((1 : Int32) <<< (Int32.ofNat k &&& (31 : Int32))) = Int32.ofNat (m ||| 2 ^ k) := by decide +kernel
theorem b8_in : ∀ m, m < 256 → ∀ p, p < 8 → inB (Int32.ofNat m) p = if m.testBit p = true then 1 else 0 := by decide +kernel
theorem oB_m {σ : Nat → Int32} : ∀ k, k ≤ 8 → ∃ m, m < 2 ^ k ∧ oB (thB σ) k = Int32.ofNat m ∧ ∀ p, p < k → (m.testBit p = true ↔ ¬ σ p = 0) := by
  intro k
  induction k with
  | zero => exact fun _ => ⟨0, by decide, rfl, fun p hp => absurd hp (by omega)⟩
  | succ k ih =>
    intro hk
    obtain ⟨m, m1, m2, m3⟩ := ih (by omega)
    have p8 : 2 ^ k ≤ 2 ^ 7 := Nat.pow_le_pow_right (by decide) (by omega)
    have p7 : 2 ^ 7 = 128 := rfl
    have ps : 2 ^ (k + 1) = 2 * 2 ^ k := by rw [Nat.pow_succ]; omega
    have top : m.testBit k = false := Nat.testBit_lt_two_pow m1
    have e : oB (thB σ) (k + 1) = oB (thB σ) k ||| thB σ k := rfl
    by_cases c : σ k = 0
    · refine ⟨m, by omega, ?_, fun p hp => ?_⟩
      · rw [e, m2]
        unfold thB
        rw [if_pos c, Int32.or_zero]
      · by_cases d : p = k
        · subst d
          rw [top]
          exact ⟨fun z => absurd z (by decide), fun z => absurd c z⟩
        · exact m3 p (by omega)
    · refine ⟨m ||| 2 ^ k, ?_, ?_, fun p hp => ?_⟩
      · exact Nat.or_lt_two_pow (by omega) (by omega)
      · rw [e, m2]
        unfold thB
        rw [if_neg c]
        exact b8_or m (by omega) k (by omega)
      · rw [Nat.testBit_or, Nat.testBit_two_pow]
        by_cases d : p = k
        · subst d
          exact ⟨fun _ => c, fun _ => by simp⟩
        · have d' : ¬ k = p := fun z => d z.symm
          have f : decide (k = p) = false := by simp [d']
          rw [f, Bool.or_false]
          exact m3 p (by omega)
/-- a state's number, and its bits -/
theorem oB_b {σ : Nat → Int32} {pa : Nat} (h : pa ≤ 8) : (0 ≤ (oB (thB σ) pa).toInt ∧ (oB (thB σ) pa).toInt < 256) ∧ ∀ p, p < pa → (¬ inB (oB (thB σ) pa) p = 0 ↔ ¬ σ p = 0) := by
  obtain ⟨m, m1, m2, m3⟩ := oB_m (σ := σ) pa h
  have p8 : 2 ^ pa ≤ 2 ^ 8 := Nat.pow_le_pow_right (by decide) h
  have p7 : 2 ^ 8 = 256 := rfl
  have tm : (Int32.ofNat m).toInt = (m : Int) := Int32.toInt_ofNat_of_lt (by omega)
  rw [m2]
  refine ⟨by omega, fun p hp => ?_⟩
  rw [b8_in m (by omega) p (by omega), ← m3 p hp]
  by_cases c : m.testBit p = true
  · rw [if_pos c]
    exact ⟨fun _ => c, fun _ => by decide⟩
  · rw [if_neg c]
    exact ⟨fun z => absurd rfl z, fun z => absurd z c⟩
/-- the same bits, the same state -/
theorem oB_g {σ τ : Nat → Int32} : ∀ k, (∀ p, p < k → (σ p = 0 ↔ τ p = 0)) → oB (thB σ) k = oB (thB τ) k := by
  intro k
  induction k with
  | zero => exact fun _ => rfl
  | succ k ih =>
    intro h
    show oB (thB σ) k ||| thB σ k = oB (thB τ) k ||| thB τ k
    rw [ih (fun p hp => h p (by omega))]
    have e : thB σ k = thB τ k := by
      unfold thB
      by_cases c : σ k = 0
      · rw [if_pos c, if_pos ((h k (by omega)).mp c)]
      · rw [if_neg c, if_neg (fun z => c ((h k (by omega)).mpr z))]
    rw [e]
end BTS
