/-! the two spellings of a byte are one; a feed's twenty bytes -/
theorem by8_bit (x : BitVec 32) (k : Nat) (hk : k + 8 ≤ 32) : BitVec.signExtend 8 (x >>> k) = BitVec.signExtend 8 (x.sshiftRight k) := by
  apply BitVec.eq_of_getLsbD_eq
  intro i hi
  rw [BitVec.getLsbD_signExtend, BitVec.getLsbD_signExtend, BitVec.getLsbD_ushiftRight, BitVec.getLsbD_sshiftRight]
  have h1 : i < 32 := by omega
  have h2 : k + i < 32 := by omega
  have h3 : ¬ 32 ≤ i := by omega
  simp [h1, h2, h3, hi]
theorem by8_24 (x : Int32) : ((x.toUInt32 >>> ((24 : Int32).toUInt32 &&& Int32.toUInt32 31)).toInt32).toInt8 = (x >>> ((24 : Int32) &&& 31)).toInt8 := by
  apply Int8.toBitVec_inj.mp
  rw [show ((24 : Int32).toUInt32 &&& Int32.toUInt32 31) = 24 by decide, show ((24 : Int32) &&& 31) = 24 by decide]
  have h := by8_bit x.toBitVec 24 (by decide)
  simpa using h
theorem by8_16 (x : Int32) : ((x.toUInt32 >>> ((16 : Int32).toUInt32 &&& Int32.toUInt32 31)).toInt32).toInt8 = (x >>> ((16 : Int32) &&& 31)).toInt8 := by
  apply Int8.toBitVec_inj.mp
  rw [show ((16 : Int32).toUInt32 &&& Int32.toUInt32 31) = 16 by decide, show ((16 : Int32) &&& 31) = 16 by decide]
  have h := by8_bit x.toBitVec 16 (by decide)
  simpa using h
theorem by8_8 (x : Int32) : ((x.toUInt32 >>> ((8 : Int32).toUInt32 &&& Int32.toUInt32 31)).toInt32).toInt8 = (x >>> ((8 : Int32) &&& 31)).toInt8 := by
  apply Int8.toBitVec_inj.mp
  rw [show ((8 : Int32).toUInt32 &&& Int32.toUInt32 31) = 8 by decide, show ((8 : Int32) &&& 31) = 8 by decide]
  have h := by8_bit x.toBitVec 8 (by decide)
  simpa using h
theorem by8_0 (x : Int32) : ((x.toUInt32 >>> ((0 : Int32).toUInt32 &&& Int32.toUInt32 31)).toInt32).toInt8 = (x >>> ((0 : Int32) &&& 31)).toInt8 := by
  apply Int8.toBitVec_inj.mp
  rw [show ((0 : Int32).toUInt32 &&& Int32.toUInt32 31) = 0 by decide, show ((0 : Int32) &&& 31) = 0 by decide]
  have h := by8_bit x.toBitVec 0 (by decide)
  simpa using h
theorem by8u_eq (w : Int32) (i : Nat) : by8u w i = by8 w i := by
  match i with
  | 0 => unfold by8u by8; exact congrArg Int8.toInt32 (by8_24 w)
  | 1 => unfold by8u by8; exact congrArg Int8.toInt32 (by8_16 w)
  | 2 => unfold by8u by8; exact congrArg Int8.toInt32 (by8_8 w)
  | k + 3 => unfold by8u by8; exact congrArg Int8.toInt32 (by8_0 w)
/-- five words, one behind the other -/
theorem wrt_5 (f : Nat → Int32) (n : Nat) (a b c d e : Int32) : wrt (wrt (wrt (wrt (wrt f n (by8u a) 4) (n + 4) (by8u b) 4) ((n + 4) + 4) (by8u c) 4) (((n + 4) + 4) + 4) (by8u d) 4) ((((n + 4) + 4) + 4) + 4) (by8u e) 4 = wrt f n (fdW a b c d e) 20 := by
  have h : ∀ (w : Int32) (k : Nat), k % 4 = 0 → k < 20 → (if k < 4 then a else if k < 8 then b else if k < 12 then c else if k < 16 then d else e) = w → ∀ i, i < 4 → by8u w i = (fun i => fdW a b c d e (k + i)) i := by
    intro w k h1 h2 hw i hi
    rw [by8u_eq]
    show by8 w i = fdW a b c d e (k + i)
    unfold fdW
    have e1 : (k + i) % 4 = i := by omega
    have hc : k = 0 ∨ k = 4 ∨ k = 8 ∨ k = 12 ∨ k = 16 := by omega
    rw [e1, ← hw]
    congr 1
    rcases hc with rfl | rfl | rfl | rfl | rfl
    · rw [if_pos (by omega), if_pos (by omega)]
    · rw [if_neg (by omega), if_pos (by omega), if_neg (by omega), if_pos (by omega)]
    · rw [if_neg (by omega), if_neg (by omega), if_pos (by omega), if_neg (by omega), if_neg (by omega), if_pos (by omega)]
    · rw [if_neg (by omega), if_neg (by omega), if_neg (by omega), if_pos (by omega), if_neg (by omega), if_neg (by omega), if_neg (by omega), if_pos (by omega)]
    · rw [if_neg (by omega), if_neg (by omega), if_neg (by omega), if_neg (by omega), if_neg (by omega), if_neg (by omega), if_neg (by omega), if_neg (by omega)]
  have e0 : wrt f n (by8u a) 4 = wrt f n (fdW a b c d e) 4 := wrt_congr (fun i hi => by
    have := h a 0 rfl (by decide) rfl i hi
    simpa using this)
  rw [e0, wrt_congr (h b 4 rfl (by decide) rfl), wrt_app, show n + 4 + 4 = n + (4 + 4) from rfl, wrt_congr (h c 8 rfl (by decide) rfl), wrt_app, show n + (4 + 4) + 4 = n + (4 + 4 + 4) from rfl, wrt_congr (h d 12 rfl (by decide) rfl), wrt_app, show n + (4 + 4 + 4) + 4 = n + (4 + 4 + 4 + 4) from rfl, wrt_congr (h e 16 rfl (by decide) rfl), wrt_app]
