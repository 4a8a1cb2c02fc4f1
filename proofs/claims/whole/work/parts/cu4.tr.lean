/-! the class's truths of functions -/
/-- the lowest bits of a number the other way round -/
def trn (N w : Nat) : Nat := bitN (fun p => N.testBit (w - 1 - p) = true) w
section TRN
variable {G : hg_E} {S : hg_S}
theorem sb_t : ∀ w, w ≤ 8 → ∀ k, k < w → (Int32.ofNat w - 1) - Int32.ofNat k = Int32.ofNat (w - 1 - k) := by decide +kernel
theorem trn_w {N w : Nat} (hN : N < 65536) (hw : w ≤ 8) : dc_wp (hm_NT_turned G S (Int32.ofNat N) (Int32.ofNat w)) (fun v => v = Int32.ofNat (trn N w)) := by
  have tw : (Int32.ofNat w).toInt = (w : Int) := Int32.toInt_ofNat_of_lt (by omega)
  have key := dc_itK (step := hm_NT_turned_s4 G S (Int32.ofNat N) (Int32.ofNat w)) (fun d (y : Int32 × Int32) => ∃ k, y.2 = Int32.ofNat k ∧ k ≤ w ∧ d = w - k ∧ ∀ p, gb y.1 p = true ↔ ∃ j, j < k ∧ p = w - 1 - j ∧ N.testBit j = true) (F := fun v => ∀ p, gb v p = true ↔ ∃ j, j < w ∧ p = w - 1 - j ∧ N.testBit j = true) (by
    rintro d ⟨y1, y2⟩ ⟨k, e, k1, ed, hy⟩
    have e : y2 = Int32.ofNat k := e
    have hy' : ∀ p, gb y1 p = true ↔ ∃ j, j < k ∧ p = w - 1 - j ∧ N.testBit j = true := hy
    clear hy
    subst e
    have tk : (Int32.ofNat k).toInt = (k : Int) := Int32.toInt_ofNat_of_lt (by omega)
    show dc_wp (hm_NT_turned_b4 G S (Int32.ofNat N) (Int32.ofNat w) y1 (Int32.ofNat k)) _
    delta hm_NT_turned_b4
    refine wq_if (fun a => ?_) (fun a => ?_)
    · have a := i_lt.mp a
      rw [tk, tw] at a
      rw [gb_u (by omega), gb_n (by omega), sb_t w hw k (by omega)]
      refine ⟨_, rfl, w - (k + 1), by omega, k + 1, ad_m (by omega), by omega, rfl, fun p => ?_⟩
      show gb (y1 ||| _) p = true ↔ _
      rw [gb_or, Bool.or_eq_true, hy' p]
      have e2 : gb ((if N.testBit k = true then (1 : Int32) else 0) <<< (Int32.ofNat (w - 1 - k) &&& (31 : Int32))) p = true ↔ (p = w - 1 - k ∧ N.testBit k = true) := by
        by_cases c : N.testBit k = true
        · rw [if_pos c]
          by_cases p32 : p < 32
          · rw [gb_1s (w - 1 - k) (by omega) p p32, decide_eq_true_iff]
            exact ⟨fun z => ⟨z, c⟩, fun z => z.1⟩
          · rw [gb_ge (by omega)]
            exact ⟨fun z => (by cases z), fun z => absurd z.1 (by omega)⟩
        · rw [if_neg c, Int32.zero_shiftLeft, gb_0]
          exact ⟨fun z => (by cases z), fun z => absurd z.2 c⟩
      rw [e2]
      constructor
      · rintro (⟨j, j1, j2, j3⟩ | ⟨z1, z2⟩)
        · exact ⟨j, by omega, j2, j3⟩
        · exact ⟨k, by omega, z1, z2⟩
      · rintro ⟨j, j1, j2, j3⟩
        by_cases ej : j = k
        · subst ej; exact Or.inr ⟨j2, j3⟩
        · exact Or.inl ⟨j, by omega, j2, j3⟩
    · have a : ¬ (Int32.ofNat k).toInt < (Int32.ofNat w).toInt := fun z => a (i_lt.mpr z)
      rw [tk, tw] at a
      have ek : k = w := by omega
      rw [ek] at hy'
      exact ⟨_, rfl, hy'⟩)
  delta hm_NT_turned hm_NT_turned_L4
  refine wq_call (key w (0, 0) ⟨0, rfl, by omega, rfl, fun p => ?_⟩) ?_
  · show gb 0 p = true ↔ _
    rw [gb_0]
    exact ⟨fun z => (by cases z), fun ⟨j, z, _⟩ => absurd z (by omega)⟩
  · intro v hv
    delta hm_NT_turned_L29
    refine ⟨_, rfl, ?_⟩
    have lt := bitN_lt (ch := fun p => N.testBit (w - 1 - p) = true) w
    have p8 : 2 ^ w ≤ 2 ^ 8 := Nat.pow_le_pow_right (by decide) hw
    have p256 : 2 ^ 8 = 256 := rfl
    refine gb_eq (fun p _ => ?_)
    unfold trn
    rw [gb_n (by omega)]
    have h1 := hv p
    have h2 := bitN_t (ch := fun p => N.testBit (w - 1 - p) = true) w p
    have h3 : gb v p = true ↔ (bitN (fun p => N.testBit (w - 1 - p) = true) w).testBit p = true := by
      rw [h1, h2]
      constructor
      · rintro ⟨j, j1, j2, j3⟩
        exact ⟨by omega, by show N.testBit (w - 1 - p) = true; rw [j2, show w - 1 - (w - 1 - j) = j by omega]; exact j3⟩
      · rintro ⟨z1, z2⟩
        exact ⟨w - 1 - p, by omega, by omega, z2⟩
    cases c1 : gb v p
    · cases c2 : (bitN (fun p => N.testBit (w - 1 - p) = true) w).testBit p
      · rfl
      · rw [c1, c2] at h3
        exact absurd (h3.mpr rfl) (by decide)
    · exact (h3.mp c1).symm
/-- shifted by the inputs -/
theorem us_n {N ins : Nat} (hN : N < 65536) (hi : ins ≤ 4) : (Int32.toUInt32 (Int32.ofNat N) >>> (Int32.toUInt32 (Int32.ofNat ins) &&& Int32.toUInt32 31)).toInt32 = Int32.ofNat (N / 2 ^ ins) := by
  have le : N / 2 ^ ins ≤ N := Nat.div_le_self _ _
  refine gb_eq (fun k hk => ?_)
  rw [gb_n (by omega), Nat.testBit_div_two_pow]
  have g : gb ((Int32.toUInt32 (Int32.ofNat N) >>> (Int32.toUInt32 (Int32.ofNat ins) &&& Int32.toUInt32 31)).toInt32) k = gb (Int32.ofNat N) (ins + k) := by
    have : ins = 0 ∨ ins = 1 ∨ ins = 2 ∨ ins = 3 ∨ ins = 4 := by omega
    rcases this with e | e | e | e | e <;> subst e
    · show ((Int32.ofNat N).toBitVec.ushiftRight 0).getLsbD k = _
      exact BitVec.getLsbD_ushiftRight ..
    · show ((Int32.ofNat N).toBitVec.ushiftRight 1).getLsbD k = _
      exact BitVec.getLsbD_ushiftRight ..
    · show ((Int32.ofNat N).toBitVec.ushiftRight 2).getLsbD k = _
      exact BitVec.getLsbD_ushiftRight ..
    · show ((Int32.ofNat N).toBitVec.ushiftRight 3).getLsbD k = _
      exact BitVec.getLsbD_ushiftRight ..
    · show ((Int32.ofNat N).toBitVec.ushiftRight 4).getLsbD k = _
      exact BitVec.getLsbD_ushiftRight ..
  rw [g, gb_n (by omega), Nat.add_comm]
end TRN
/-- function i is true in state s on inputs e, as the class's atlas has it -/
def trP (q : rsT) (out pa i s e : Nat) : Prop := awR q (Int32.ofNat s) ∧ ¬ q.1 0 (16 * s + e) = -1 ∧ ((i < out ∧ gb (q.1 1 (16 * s + e)) i = true) ∨ (out ≤ i ∧ i < out + pa ∧ ¬ q.1 0 (16 * s + e) = 257 ∧ gb (q.1 0 (16 * s + e)) (i - out) = true) ∨ (i = out + pa ∧ q.1 0 (16 * s + e) = 257))
section TRU
variable {G : hg_E} {E : nwE} {S : hg_S} {bb : Nat → Nat} {cap oA : Nat} {q qa : rsT} {bA : Nat → Nat} {out pa i s e : Nat}
theorem tru_w (hN : NW G E S bb cap q) (hA : AW G (S, oA, bA) S qa) (h11 : q.2 11 = Int32.ofNat out) (h13 : q.2 13 = Int32.ofNat (out + pa + 1)) (ho : out ≤ 31) (hp : pa ≤ 8) (hi : i < out + pa + 1) (hs : s < 257) (he : e < 16) : dc_wp (hm_NT_truth G S E.2.1 (Int32.ofNat i) (Int32.ofNat s) (Int32.ofNat e) (some oA)) (fun v => (v = 1 ∧ trP qa out pa i s e) ∨ (v = 0 ∧ ¬ trP qa out pa i s e)) := by
  have w0 : (wN 0 : Int) = 4112 := rfl
  have w1 : (wN 1 : Int) = 4112 := rfl
  have tc : (Int32.ofNat (16 * s + e)).toInt = ((16 * s + e : Nat) : Int) := Int32.toInt_ofNat_of_lt (by omega)
  have tcn : (Int32.ofNat (16 * s + e)).toInt.toNat = 16 * s + e := by omega
  have ti : (Int32.ofNat i).toInt = (i : Int) := Int32.toInt_ofNat_of_lt (by omega)
  have to : (Int32.ofNat out).toInt = (out : Int) := Int32.toInt_ofNat_of_lt (by omega)
  have no : ¬ trP qa out pa i s e → dc_wp (hm_NT_truth_L28 G S E.2.1) (fun v => (v = 1 ∧ trP qa out pa i s e) ∨ (v = 0 ∧ ¬ trP qa out pa i s e)) := fun h => ⟨_, rfl, Or.inr ⟨rfl, h⟩⟩
  have bit : ∀ (x : Int32) (k : Nat), k < 31 → (trP qa out pa i s e ↔ gb x k = true) → (((((Int32.toUInt32 x >>> (Int32.toUInt32 (Int32.ofNat k) &&& Int32.toUInt32 31)).toInt32)) &&& 1) = 1 ∧ trP qa out pa i s e) ∨ (((((Int32.toUInt32 x >>> (Int32.toUInt32 (Int32.ofNat k) &&& Int32.toUInt32 31)).toInt32)) &&& 1) = 0 ∧ ¬ trP qa out pa i s e) := fun x k hk h => by
    rw [gb_u hk]
    by_cases c : gb x k = true
    · rw [if_pos c]; exact Or.inl ⟨rfl, h.mpr c⟩
    · rw [if_neg c]; exact Or.inr ⟨rfl, fun z => c (h.mp z)⟩
  delta hm_NT_truth hm_AT_cell
  rw [cel_n]
  refine (show dc_wp ((hg_chk S (some (wO (S, oA, bA))) 11).bind _) _ from ?_)
  refine aw_c hA ?_
  refine wq_call (rch_w hA) (fun v hv => ?_)
  rcases hv with ⟨v1, v2⟩ | ⟨v1, v2⟩
  case inr =>
    rw [if_pos v1]
    exact no (fun z => v2 z.1)
  rw [if_neg (by rw [v1]; decide)]
  refine aw_g hA (i := 0) (by decide) ?_
  refine aw_l hA (i := 0) (by decide) (by omega) (by omega) ?_
  rw [tcn]
  refine wq_if (fun c => no (fun z => z.2.1 c)) (fun c => ?_)
  refine nw_i hN (i := 11) (by decide) (by decide) ?_
  rw [h11]
  refine wq_if (fun d => ?_) (fun d => ?_)
  · have d := i_lt.mp d
    rw [ti, to] at d
    refine aw_g hA (i := 1) (by decide) ?_
    refine aw_l hA (i := 1) (by decide) (by omega) (by omega) ?_
    rw [tcn]
    refine ⟨_, rfl, bit _ i (by omega) ⟨fun z => ?_, fun z => ⟨v2, c, Or.inl ⟨by omega, z⟩⟩⟩⟩
    rcases z.2.2 with w | w | w
    · exact w.2
    · omega
    · omega
  · have d : ¬ (Int32.ofNat i).toInt < (Int32.ofNat out).toInt := fun z => d (i_lt.mpr z)
    rw [ti, to] at d
    refine aw_g hA (i := 0) (by decide) ?_
    refine aw_l hA (i := 0) (by decide) (by omega) (by omega) ?_
    rw [tcn]
    have e13 : q.2 13 - 1 = Int32.ofNat (out + pa) := by rw [h13, ← ad_m (by omega), Int32.add_sub_cancel]
    have tp : (Int32.ofNat (out + pa)).toInt = ((out + pa : Nat) : Int) := Int32.toInt_ofNat_of_lt (by omega)
    refine wq_if (fun f => ?_) (fun f => ?_)
    · delta hm_NT_truth_L70 hm_NT_truth_L92 hm_NT_truth_L119
      refine nw_i hN (i := 13) (by decide) (by decide) ?_
      rw [e13]
      refine wq_if (fun g => ?_) (fun g => ?_)
      · have g := ofN_j (by omega) (by omega) g
        rw [if_neg (by decide)]
        exact ⟨_, rfl, Or.inl ⟨rfl, v2, c, Or.inr (Or.inr ⟨g, f⟩)⟩⟩
      · rw [if_neg (by decide)]
        refine ⟨_, rfl, Or.inr ⟨rfl, fun z => ?_⟩⟩
        rcases z.2.2 with w | w | w
        · omega
        · exact w.2.2.1 f
        · exact g (by rw [w.1])
    · delta hm_NT_truth_L70 hm_NT_truth_L92 hm_NT_truth_L119
      refine nw_i hN (i := 13) (by decide) (by decide) ?_
      rw [e13, if_pos rfl, if_pos rfl]
      refine wq_if (fun g => ?_) (fun g => ?_)
      · have g := ofN_j (by omega) (by omega) g
        refine ⟨_, rfl, Or.inr ⟨rfl, fun z => ?_⟩⟩
        rcases z.2.2 with w | w | w
        · omega
        · omega
        · exact f w.2
      · have g : ¬ i = out + pa := fun z => g (by rw [z])
        refine aw_g hA (i := 0) (by decide) ?_
        refine aw_l hA (i := 0) (by decide) (by omega) (by omega) ?_
        rw [tcn]
        refine nw_i hN (i := 11) (by decide) (by decide) ?_
        have es : Int32.ofNat i - q.2 11 = Int32.ofNat (i - out) := by
          rw [h11]
          have e1 : Int32.ofNat i = Int32.ofNat (i - out) + Int32.ofNat out := by rw [← Int32.ofNat_add, show i - out + out = i by omega]
          rw [e1, Int32.add_sub_cancel]
        rw [es]
        refine ⟨_, rfl, bit _ (i - out) (by omega) ⟨fun z => ?_, fun z => ⟨v2, c, Or.inr (Or.inl ⟨by omega, by omega, f, z⟩)⟩⟩⟩
        rcases z.2.2 with w | w | w
        · omega
        · exact w.2.2.2
        · exact absurd w.1 g
end TRU
