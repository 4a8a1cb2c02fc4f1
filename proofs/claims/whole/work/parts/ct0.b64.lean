/-! bits of numbers of 32 and of 64 bits -/
def g64 (a : Int64) (k : Nat) : Bool := a.toBitVec.getLsbD k
theorem g64_or {a b : Int64} {k : Nat} : g64 (a ||| b) k = (g64 a k || g64 b k) := by
  show (a ||| b).toBitVec.getLsbD k = _
  rw [Int64.toBitVec_or, BitVec.getLsbD_or]
  rfl
theorem g64_ge {a : Int64} {k : Nat} (h : 64 ≤ k) : g64 a k = false := BitVec.getLsbD_of_ge _ _ h
theorem g64_eq {a b : Int64} (h : ∀ k, k < 64 → g64 a k = g64 b k) : a = b := Int64.toBitVec_inj.mp (BitVec.eq_of_getLsbD_eq (fun i hi => h i hi))
theorem g64_0 (k : Nat) : g64 0 k = false := by
  by_cases h : k < 64
  · have : ∀ k, k < 64 → g64 0 k = false := by decide +kernel
    exact this k h
  · exact g64_ge (by omega)
theorem g64_1s : ∀ k, k < 40 → ∀ j, j < 64 → g64 ((1 : Int64) <<< (Int32.toInt64 (Int32.ofNat k) &&& 63)) j = decide (j = k) := by decide +kernel
theorem g64_s0 : ∀ k, k < 40 → (0 : Int64) <<< (Int32.toInt64 (Int32.ofNat k) &&& 63) = 0 := by decide +kernel
/-- a number of 32 bits that is not below 0, as one of 64 -/
theorem g64_x {a : Int32} (h : gb a 31 = false) (k : Nat) : g64 (Int32.toInt64 a) k = gb a k := by
  show (a.toBitVec.signExtend 64).getLsbD k = a.toBitVec.getLsbD k
  have hm : a.toBitVec.msb = false := by rw [BitVec.msb_eq_getLsbD_last]; exact h
  rw [BitVec.getLsbD_signExtend, hm]
  by_cases c : k < 32
  · rw [if_pos c, decide_eq_true (show k < 64 by omega), Bool.true_and]
  · rw [if_neg c, Bool.and_false]
    exact (BitVec.getLsbD_of_ge _ _ (by omega)).symm
/-- one bit looked at -/
theorem g64_c {a : Int64} {i : Nat} (hi : i < 40) : dc_cmp ((a >>> (Int32.toInt64 (Int32.ofNat i) &&& 63)) &&& 1) 1 = 0 ↔ g64 a i = true := by
  have b0 : g64 (a >>> (Int32.toInt64 (Int32.ofNat i) &&& 63)) 0 = g64 a i := by
    show (a.toBitVec.sshiftRight ((Int32.toInt64 (Int32.ofNat i) &&& 63).toBitVec.smod 64).toNat).getLsbD 0 = _
    have e : ∀ i : Nat, i < 40 → ((Int32.toInt64 (Int32.ofNat i) &&& 63).toBitVec.smod 64).toNat = i := by decide +kernel
    rw [e i hi, BitVec.getLsbD_sshiftRight, if_pos (show i + 0 < 64 by omega)]
    show (!decide (64 ≤ 0) && a.toBitVec.getLsbD (i + 0)) = a.toBitVec.getLsbD i
    rw [Nat.add_zero]
    rfl
  have g1 : ∀ k, k < 64 → g64 1 k = decide (k = 0) := by decide +kernel
  have an : ∀ (x : Int64) k, g64 (x &&& 1) k = (g64 x k && g64 1 k) := fun x k => by
    show (x &&& 1).toBitVec.getLsbD k = _
    rw [Int64.toBitVec_and, BitVec.getLsbD_and]
    rfl
  have key : ∀ x : Int64, x &&& 1 = 1 ↔ g64 x 0 = true := by
    intro x
    constructor
    · intro e
      have h := an x 0
      rw [e, g1 0 (by omega)] at h
      simpa using h.symm
    · intro e
      refine g64_eq (fun k hk => ?_)
      rw [an, g1 k hk]
      by_cases c : k = 0
      · rw [c, e]; rfl
      · rw [decide_eq_false c, Bool.and_false]
  rw [← b0, ← key]
  unfold dc_cmp
  generalize (a >>> (Int32.toInt64 (Int32.ofNat i) &&& 63)) &&& 1 = y
  by_cases c : y = 1
  · rw [c, if_neg (Int64.lt_irrefl), if_pos rfl]
    exact ⟨fun _ => rfl, fun _ => rfl⟩
  · refine ⟨fun z => ?_, fun z => absurd z c⟩
    by_cases d : y < 1
    · rw [if_pos d] at z; exact absurd z (by decide)
    · rw [if_neg d, if_neg c] at z; exact absurd z (by decide)
/-- one bit of 32 -/
theorem gb_v {x : Int32} {j : Nat} (hj : j < 31) : (x >>> (Int32.ofNat j &&& (31 : Int32))) &&& 1 = if gb x j = true then 1 else 0 := by
  have b0 := inB_a (x := x) hj
  refine gb_eq (fun k hk => ?_)
  rw [gb_and, gb_1]
  by_cases e : k = 0
  · subst e
    rw [b0]
    cases gb x j
    · rfl
    · rfl
  · rw [decide_eq_false e, Bool.and_false]
    cases gb x j
    · exact (gb_0 k).symm
    · rw [if_pos rfl, gb_1, decide_eq_false e]
theorem gb_u {x : Int32} {j : Nat} (hj : j < 31) : ((Int32.toUInt32 x >>> (Int32.toUInt32 (Int32.ofNat j) &&& Int32.toUInt32 31)).toInt32) &&& 1 = if gb x j = true then 1 else 0 := by
  have := inB_s (x := x) hj
  unfold inB at this
  rw [this]
  exact gb_v hj
theorem gb_n {c k : Nat} (hc : c < 2147483648) : gb (Int32.ofNat c) k = c.testBit k := by
  show (Int32.ofNat c).toBitVec.getLsbD k = _
  rw [Int32.toBitVec_ofNat', BitVec.getLsbD_ofNat]
  by_cases h : k < 32
  · rw [decide_eq_true h, Bool.true_and]
  · rw [decide_eq_false h, Bool.false_and]
    have : c < 2 ^ k := Nat.lt_of_lt_of_le (show c < 2 ^ 32 by omega) (Nat.pow_le_pow_right (by decide) (by omega))
    exact (Nat.testBit_lt_two_pow this).symm
/-- bits put together, one at each place -/
theorem gb_oB {g : Nat → Int32} {b : Nat → Bool} (hg : ∀ k, k < 31 → g k = if b k = true then (1 : Int32) <<< (Int32.ofNat k &&& (31 : Int32)) else 0) : ∀ n, n ≤ 31 → ∀ k, gb (oB g n) k = (decide (k < n) && b k)
  | 0, _, k => by
    rw [decide_eq_false (by omega), Bool.false_and]
    exact gb_0 k
  | n + 1, h, k => by
    show gb (oB g n ||| g n) k = _
    rw [gb_or, gb_oB hg n (by omega) k, hg n (by omega)]
    have e : gb (if b n = true then (1 : Int32) <<< (Int32.ofNat n &&& (31 : Int32)) else 0) k = (decide (k = n) && b n) := by
      cases hb : b n
      · rw [if_neg (by decide), Bool.and_false]; exact gb_0 k
      · rw [if_pos rfl, Bool.and_true]
        by_cases d : k < 32
        · exact gb_1s n (by omega) k d
        · rw [gb_ge (by omega)]
          exact (decide_eq_false (by omega)).symm
    rw [e]
    by_cases c : k = n
    · subst c
      rw [decide_eq_false (show ¬ k < k by omega), decide_eq_true rfl, decide_eq_true (show k < k + 1 by omega)]
      rfl
    · rw [decide_eq_false c, Bool.false_and, Bool.or_false]
      by_cases d : k < n
      · rw [decide_eq_true d, decide_eq_true (show k < n + 1 by omega)]
      · rw [decide_eq_false d, decide_eq_false (show ¬ k < n + 1 by omega)]
