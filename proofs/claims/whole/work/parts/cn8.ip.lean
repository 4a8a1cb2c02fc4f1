/-! the class's instant: its inputs; cells of the engine -/
theorem us_z {y x : Int32} {k : Nat} (h : y.toBitVec = x.toBitVec.ushiftRight k) : y = 0 ↔ x.toBitVec.toNat < 2 ^ k := by
  have e : (x.toBitVec.ushiftRight k).toNat = x.toBitVec.toNat / 2 ^ k := by
    show (x.toBitVec >>> k).toNat = _
    rw [BitVec.toNat_ushiftRight, Nat.shiftRight_eq_div_pow]
  have hp : 0 < 2 ^ k := Nat.pow_pos (by decide)
  constructor
  · intro z
    rw [z] at h
    have h0 : (x.toBitVec.ushiftRight k).toNat = 0 := by rw [← h]; rfl
    rw [e] at h0
    exact (Nat.div_eq_zero_iff_lt hp).mp h0
  · intro z
    apply Int32.toBitVec_inj.mp
    rw [h]
    apply BitVec.eq_of_toNat_eq
    rw [e, (Nat.div_eq_zero_iff_lt hp).mpr z]
    rfl
theorem us_k {x : Int32} : ∀ j, j < 32 → ((Int32.toUInt32 x >>> (Int32.toUInt32 (Int32.ofNat j) &&& Int32.toUInt32 31)).toInt32 = 0 ↔ x.toBitVec.toNat < 2 ^ j)
  | 0, _ => us_z (k := 0) rfl
  | 1, _ => us_z (k := 1) rfl
  | 2, _ => us_z (k := 2) rfl
  | 3, _ => us_z (k := 3) rfl
  | 4, _ => us_z (k := 4) rfl
  | 5, _ => us_z (k := 5) rfl
  | 6, _ => us_z (k := 6) rfl
  | 7, _ => us_z (k := 7) rfl
  | 8, _ => us_z (k := 8) rfl
  | 9, _ => us_z (k := 9) rfl
  | 10, _ => us_z (k := 10) rfl
  | 11, _ => us_z (k := 11) rfl
  | 12, _ => us_z (k := 12) rfl
  | 13, _ => us_z (k := 13) rfl
  | 14, _ => us_z (k := 14) rfl
  | 15, _ => us_z (k := 15) rfl
  | 16, _ => us_z (k := 16) rfl
  | 17, _ => us_z (k := 17) rfl
  | 18, _ => us_z (k := 18) rfl
  | 19, _ => us_z (k := 19) rfl
  | 20, _ => us_z (k := 20) rfl
  | 21, _ => us_z (k := 21) rfl
  | 22, _ => us_z (k := 22) rfl
  | 23, _ => us_z (k := 23) rfl
  | 24, _ => us_z (k := 24) rfl
  | 25, _ => us_z (k := 25) rfl
  | 26, _ => us_z (k := 26) rfl
  | 27, _ => us_z (k := 27) rfl
  | 28, _ => us_z (k := 28) rfl
  | 29, _ => us_z (k := 29) rfl
  | 30, _ => us_z (k := 30) rfl
  | 31, _ => us_z (k := 31) rfl
  | n + 32, h => absurd h (by omega)
theorem i32_n {x : Int32} : (0 ≤ x.toInt ↔ x.toBitVec.toNat < 2147483648) ∧ (0 ≤ x.toInt → x.toInt = (x.toBitVec.toNat : Int)) := by
  have e : x.toInt = if 2 * x.toBitVec.toNat < 2 ^ 32 then (x.toBitVec.toNat : Int) else (x.toBitVec.toNat : Int) - ((2 ^ 32 : Nat) : Int) := BitVec.toInt_eq_toNat_cond x.toBitVec
  have lt := x.toBitVec.isLt
  by_cases c : 2 * x.toBitVec.toNat < 2 ^ 32
  · rw [if_pos c] at e
    rw [e]
    exact ⟨⟨fun _ => by omega, fun _ => by omega⟩, fun _ => rfl⟩
  · rw [if_neg c] at e
    rw [e]
    exact ⟨⟨fun z => by omega, fun z => by omega⟩, fun z => by omega⟩
theorem is_I {M : md_S} {ins : Nat} {p : Int32} (e45 : M.1 45 = Int32.ofNat ins) (hi : ins ≤ 31) : mm_isInput M p = some (if p.toBitVec.toNat < 2 ^ ins then 1 else 0) := by
  have sh : ∀ j, j < 31 → ((1 : Int32) <<< (Int32.ofNat j &&& (31 : Int32))).toInt = ((2 ^ j : Nat) : Int) := by decide +kernel
  have p31 : ∀ j, j ≤ 31 → 2 ^ j ≤ 2147483648 := by decide +kernel
  have hp := p31 ins hi
  obtain ⟨n1, n2⟩ := i32_n (x := p)
  have z0 : (0 : Int32).toInt = 0 := by decide
  delta mm_isInput mm_isInput_L30 mm_isInput_L26 mm_isInput_L31
  by_cases c : p < 0
  · rw [if_pos c]
    have c := i_lt.mp c
    have : ¬ p.toBitVec.toNat < 2 ^ ins := by
      intro z
      have := n1.mpr (by omega)
      omega
    rw [if_neg this]
    rfl
  · rw [if_neg c]
    have c : 0 ≤ p.toInt := by
      have : ¬ p.toInt < (0 : Int32).toInt := fun z => c (i_lt.mpr z)
      omega
    have ep := n2 c
    have lt := n1.mp c
    rw [e45]
    by_cases c1 : Int32.ofNat ins = 31
    · rw [if_pos c1]
      have : ins = 31 := by
        have := congrArg Int32.toInt c1
        rw [Int32.toInt_ofNat_of_lt (by omega), show (31 : Int32).toInt = 31 by decide] at this
        omega
      subst this
      rw [if_pos (show p.toBitVec.toNat < 2 ^ 31 by omega)]
      rfl
    · rw [if_neg c1]
      have h31 : ins < 31 := by
        by_cases u : ins = 31
        · exact absurd (by rw [u]; rfl) c1
        · omega
      have es := sh ins h31
      by_cases c2 : p < (1 : Int32) <<< (Int32.ofNat ins &&& (31 : Int32))
      · rw [if_pos c2]
        have c2 := i_lt.mp c2
        rw [es, ep] at c2
        rw [if_pos (by omega)]
        rfl
      · rw [if_neg c2]
        have c2 : ¬ p.toInt < ((1 : Int32) <<< (Int32.ofNat ins &&& (31 : Int32))).toInt := fun z => c2 (i_lt.mpr z)
        rw [es, ep] at c2
        rw [if_neg (by omega)]
        rfl
