/-! the reference's numbers for words: which text they stand for -/
def wn (f : Nat → Int32) (p : Nat) : Nat → Nat
  | 0 => 0
  | k + 1 => wn f p k * 256 + (f (p + k)).toInt.toNat
theorem wn_inj : ∀ (k k' : Nat) {f g : Nat → Int32} {p p' : Nat}, (∀ i, i < k → 1 ≤ (f (p + i)).toInt ∧ (f (p + i)).toInt ≤ 127) → (∀ i, i < k' → 1 ≤ (g (p' + i)).toInt ∧ (g (p' + i)).toInt ≤ 127) → wn f p k = wn g p' k' → k = k' ∧ ∀ i, i < k → f (p + i) = g (p' + i)
  | 0, 0, _, _, _, _, _, _, _ => ⟨rfl, fun i hi => absurd hi (Nat.not_lt_zero i)⟩
  | 0, m + 1, f, g, p, p', _, h2, h => by
    have := h2 m (by omega)
    have h : 0 = wn g p' m * 256 + (g (p' + m)).toInt.toNat := h
    omega
  | k + 1, 0, f, g, p, p', h1, _, h => by
    have := h1 k (by omega)
    have h : wn f p k * 256 + (f (p + k)).toInt.toNat = 0 := h
    omega
  | k + 1, m + 1, f, g, p, p', h1, h2, h => by
    have a := h1 k (by omega)
    have b := h2 m (by omega)
    have h : wn f p k * 256 + (f (p + k)).toInt.toNat = wn g p' m * 256 + (g (p' + m)).toInt.toNat := h
    obtain ⟨e1, e2⟩ := wn_inj k m (fun i hi => h1 i (by omega)) (fun i hi => h2 i (by omega)) (show wn f p k = wn g p' m by omega)
    subst e1
    refine ⟨rfl, fun i hi => ?_⟩
    by_cases c : i = k
    · subst c
      rw [i_eq]
      omega
    · exact e2 i (by omega)
theorem w_or (X Y : BitVec 64) (h1 : X.toNat < 2 ^ 56) (h2 : Y.toNat < 2 ^ 8) : (X <<< 8 ||| Y).toNat = X.toNat * 256 + Y.toNat := by
  rw [BitVec.toNat_or, BitVec.toNat_shiftLeft]
  have e1 : X.toNat <<< 8 = X.toNat * 256 := by rw [Nat.shiftLeft_eq]
  have e2 : X.toNat <<< 8 % 2 ^ 64 = X.toNat <<< 8 := Nat.mod_eq_of_lt (by rw [e1]; omega)
  rw [e2, ← Nat.shiftLeft_add_eq_or_of_lt h2, e1]
theorem w_ext (c : Int32) (h0 : 0 ≤ c.toInt) : (Int32.toInt64 c).toBitVec.toNat = c.toInt.toNat := by
  have e1 : (Int32.toInt64 c).toBitVec = c.toBitVec.signExtend 64 := rfl
  have e2 : c.toInt = c.toBitVec.toInt := rfl
  have hm : c.toBitVec.msb = false := by
    rw [BitVec.msb_eq_toInt, ← e2]
    simp; omega
  rw [e1, BitVec.signExtend_eq_setWidth_of_msb_false hm, BitVec.toNat_setWidth, e2, BitVec.toInt_eq_toNat_of_msb hm]
  have := c.toBitVec.isLt
  omega
theorem wa_nat {f : Nat → Int32} {p : Nat} : ∀ k, k ≤ 8 → (∀ i, i < k → 1 ≤ (f (p + i)).toInt ∧ (f (p + i)).toInt ≤ 127) → (wa f p k).toBitVec.toNat = wn f p k ∧ wn f p k < 256 ^ k
  | 0, _, _ => ⟨rfl, (show (0 : Nat) < 256 ^ 0 by decide)⟩
  | k + 1, hk, h => by
    obtain ⟨e1, e2⟩ := wa_nat k (by omega) (fun i hi => h i (by omega))
    have a := h k (by omega)
    have e3 : wa f p (k + 1) = (wa f p k <<< (Int32.toInt64 8 &&& 63)) ||| (Int32.toInt64 (f (p + k))) := by
      show (if k < 8 then _ else _) = _
      rw [if_pos (by omega)]
    have e4 : ((wa f p k <<< (Int32.toInt64 8 &&& 63)) ||| (Int32.toInt64 (f (p + k)))).toBitVec = (wa f p k).toBitVec <<< 8 ||| (Int32.toInt64 (f (p + k))).toBitVec := rfl
    have e5 := w_ext (f (p + k)) (by omega)
    have e6 : (256 : Nat) ^ k ≤ 256 ^ 7 := Nat.pow_le_pow_right (by decide) (by omega)
    have e7 : (256 : Nat) ^ (k + 1) = 256 ^ k * 256 := Nat.pow_succ ..
    have e8 : (256 : Nat) ^ 7 = 2 ^ 56 := (by decide)
    have e9 : wn f p k < 2 ^ 56 := (by rw [← e8]; exact Nat.lt_of_lt_of_le e2 e6)
    rw [e3, e4, w_or _ _ (by rw [e1]; exact e9) (by rw [e5]; omega), e1, e5]
    refine ⟨rfl, ?_⟩
    show wn f p k * 256 + (f (p + k)).toInt.toNat < 256 ^ (k + 1)
    rw [e7]
    omega
theorem wa_far {f : Nat → Int32} {p : Nat} : ∀ k, 8 < k → wa f p k = -1
  | 0, h => by omega
  | k + 1, h => by
    show (if k < 8 then _ else _) = _
    rw [if_neg (by omega)]
/-- the reference's numbers of the kept words, in the order of Token's constants -/
def kw : List Int64 := [26990, 7304564, 31084793196801639, 482671424357, 1751215220, 1701669236, 32498761055955310, 1702390132, 31650977444884084, 1952998766, 1701606245, 6647396, 32498760989109860, 2003330414, 1819242352, 1700881256, 1953653104, 126896544047468, 7237492, 6385252, 28530, 418614700404, 418263298676, 2003132779, 435778056825, 25711]
def txf (j : Nat) : Nat → Int32 := fun i => (hk_tx.getD j []).getD i 0
set_option maxRecDepth 100000 in
theorem kw_wa : ∀ j, j < 26 → wa (txf j) 0 (hk_tx.getD j []).length = kw.getD j 0 ∧ 1 ≤ (hk_tx.getD j []).length ∧ (hk_tx.getD j []).length ≤ 8 ∧ ∀ i, i < (hk_tx.getD j []).length → 1 ≤ (txf j (0 + i)).toInt ∧ (txf j (0 + i)).toInt ≤ 127 := by decide +kernel
theorem kw_ne : ∀ j, j < 26 → ¬ kw.getD j 0 = -1 := by decide +kernel
theorem wa_congr {f g : Nat → Int32} {p p' : Nat} : ∀ k, (∀ i, i < k → f (p + i) = g (p' + i)) → wa f p k = wa g p' k
  | 0, _ => rfl
  | k + 1, h => by
    show (if k < 8 then _ else _) = (if k < 8 then _ else _)
    rw [wa_congr k (fun i hi => h i (by omega)), h k (by omega)]
/-- a word's number is a kept word's if and only if it is that word -/
theorem kw_sl {f : Nat → Int32} {p q j : Nat} (hj : j < 26) (hpq : p ≤ q) (hc : ∀ i, i < q - p → 1 ≤ (f (p + i)).toInt ∧ (f (p + i)).toInt ≤ 127) : wa f p (q - p) = kw.getD j 0 ↔ sl f p q (hk_tx.getD j []) := by
  obtain ⟨k1, k2, k3, k4⟩ := kw_wa j hj
  constructor
  · intro h
    rcases Nat.lt_or_ge 8 (q - p) with c | c
    · rw [wa_far _ c] at h
      exact absurd h.symm (kw_ne j hj)
    · have a1 := (wa_nat (f := f) (p := p) (q - p) c hc).1
      have a2 := (wa_nat (f := txf j) (p := 0) _ k3 k4).1
      rw [h, ← k1, a2] at a1
      obtain ⟨e1, e2⟩ := wn_inj _ _ k4 hc a1
      refine ⟨by omega, fun i hi => ?_⟩
      have := e2 i hi
      rw [Nat.zero_add] at this
      exact this
  · rintro ⟨h1, h2⟩
    rw [← k1]
    have e : q - p = (hk_tx.getD j []).length := by omega
    rw [e]
    refine wa_congr _ (fun i hi => ?_)
    rw [Nat.zero_add]
    exact (h2 i hi).symm
