/-! choices of the class's net and of the reference's table -/
/-- a bit of choices that the program has -/
def bth (pq ins b : Nat) : Bool := (decide (b < 4) && decide (3 - b < ins)) || (decide (4 ≤ b) && decide (b < 12) && decide (11 - b < pq))
/-- such bits from d on, k of them looked at -/
def rnk (pq ins : Nat) : Nat → Nat → Nat
  | _, 0 => 0
  | d, k + 1 => (if bth pq ins d = true then 1 else 0) + rnk pq ins (d + 1) k
/-- the block that stands at place j, t bits below the highest -/
def ebr (pq ins : Nat) : Nat → Nat → Nat
  | 0, _ => 0
  | t + 1, j => if bth pq ins (12 - (t + 1)) = true then 2 * ebr pq ins t (j / 2) + j % 2 else 2 * ebr pq ins t j
section EBR
variable {pq ins : Nat}
theorem ebr_lt : ∀ t j, ebr pq ins t j < 2 ^ t
  | 0, j => by show 0 < 2 ^ 0; decide
  | t + 1, j => by
    have h1 := ebr_lt t (j / 2)
    have h2 := ebr_lt t j
    have e : 2 ^ (t + 1) = 2 * 2 ^ t := by rw [Nat.pow_succ]; omega
    show (if bth pq ins (12 - (t + 1)) = true then 2 * ebr pq ins t (j / 2) + j % 2 else 2 * ebr pq ins t j) < 2 ^ (t + 1)
    split <;> omega
theorem ebr_b : ∀ t, t ≤ 12 → ∀ j k, k < t → ((ebr pq ins t j).testBit k = true ↔ (bth pq ins (12 - t + k) = true ∧ j.testBit (rnk pq ins (12 - t) k) = true))
  | 0, _, j, k, hk => absurd hk (by omega)
  | t + 1, ht, j, k, hk => by
    have ih := ebr_b t (by omega)
    have es : ebr pq ins (t + 1) j = if bth pq ins (12 - (t + 1)) = true then 2 * ebr pq ins t (j / 2) + j % 2 else 2 * ebr pq ins t j := rfl
    have e12 : 12 - (t + 1) + 1 = 12 - t := by omega
    cases k with
    | zero =>
      have er : rnk pq ins (12 - (t + 1)) 0 = 0 := by
        unfold rnk
        rfl
      rw [er, Nat.add_zero, es]
      by_cases c : bth pq ins (12 - (t + 1)) = true
      · rw [if_pos c, Nat.testBit_zero, Nat.testBit_zero]
        simp only [decide_eq_true_eq]
        constructor
        · intro z; exact ⟨c, by omega⟩
        · intro z; have := z.2; omega
      · rw [if_neg c, Nat.testBit_zero]
        simp only [decide_eq_true_eq]
        constructor
        · intro z; omega
        · intro z; exact absurd z.1 c
    | succ k =>
      have er : rnk pq ins (12 - (t + 1)) (k + 1) = (if bth pq ins (12 - (t + 1)) = true then 1 else 0) + rnk pq ins (12 - (t + 1) + 1) k := rfl
      rw [er, es, e12, show 12 - (t + 1) + (k + 1) = 12 - t + k by omega]
      by_cases c : bth pq ins (12 - (t + 1)) = true
      · rw [if_pos c, if_pos c, Nat.testBit_succ, show (2 * ebr pq ins t (j / 2) + j % 2) / 2 = ebr pq ins t (j / 2) by omega, ih (j / 2) k (by omega), Nat.add_comm 1, Nat.testBit_succ]
      · rw [if_neg c, if_neg c, Nat.testBit_succ, show 2 * ebr pq ins t j / 2 = ebr pq ins t j by omega, ih j k (by omega), Nat.zero_add]
theorem rnk_p : ∀ ins, ins ≤ 4 → ∀ pq, pq ≤ 8 → ∀ p, p < pq → rnk pq ins 0 (11 - p) = ins + (pq - 1 - p) := by decide +kernel
theorem rnk_e : ∀ ins, ins ≤ 4 → ∀ pq, pq ≤ 8 → ∀ p, p < ins → rnk pq ins 0 (3 - p) = ins - 1 - p := by decide +kernel
theorem bth_p : ∀ ins, ins ≤ 4 → ∀ pq, pq ≤ 8 → ∀ p, p < 8 → (bth pq ins (11 - p) = true ↔ p < pq) := by decide +kernel
theorem bth_e : ∀ ins, ins ≤ 4 → ∀ pq, pq ≤ 8 → ∀ p, p < 4 → (bth pq ins (3 - p) = true ↔ p < ins) := by decide +kernel
theorem tb_eq {a b : Nat} (h : ∀ k, a.testBit k = true ↔ b.testBit k = true) : a = b := Nat.eq_of_testBit_eq (fun k => by
  cases c1 : a.testBit k
  · cases c2 : b.testBit k
    · rfl
    · rw [(h k).mpr c2] at c1; cases c1
  · exact ((h k).mp c1).symm)
/-- the state and the inputs of a choice, with or without the highest bit -/
theorem eb_s (hi : ins ≤ 4) (hp : pq ≤ 8) (j : Nat) {w : Nat} (hw : w = 0 ∨ w = 4096) : sN (w + ebr pq ins 12 j) = trn (j / 2 ^ ins) pq ∧ eN (w + ebr pq ins 12 j) = trn j ins := by
  have lt := ebr_lt (pq := pq) (ins := ins) 12 j
  have hb : ∀ k, k < 12 → (w + ebr pq ins 12 j).testBit k = (ebr pq ins 12 j).testBit k := fun k hk => by
    rcases hw with e | e
    · rw [e, Nat.zero_add]
    · rw [e, show (4096 : Nat) = 2 ^ 12 from rfl, Nat.testBit_two_pow_add_gt hk]
  have eb := ebr_b (pq := pq) (ins := ins) 12 (Nat.le_refl _) j
  constructor
  · refine tb_eq (fun k => ?_)
    unfold sN trn
    rw [bitN_t, bitN_t]
    by_cases c : k < 8
    · rw [hb (11 - k) (by omega), eb (11 - k) (by omega), show 12 - 12 + (11 - k) = 11 - k by omega, show 12 - 12 = 0 from rfl, bth_p ins hi pq hp k c]
      constructor
      · rintro ⟨-, z1, z2⟩
        refine ⟨z1, ?_⟩
        rw [rnk_p ins hi pq hp k z1] at z2
        show (j / 2 ^ ins).testBit (pq - 1 - k) = true
        rw [Nat.testBit_div_two_pow, Nat.add_comm]
        exact z2
      · rintro ⟨z1, z2⟩
        refine ⟨c, z1, ?_⟩
        rw [rnk_p ins hi pq hp k z1]
        have z2 : (j / 2 ^ ins).testBit (pq - 1 - k) = true := z2
        rw [Nat.testBit_div_two_pow, Nat.add_comm] at z2
        exact z2
    · exact ⟨fun z => absurd z.1 c, fun z => absurd z.1 (by omega)⟩
  · refine tb_eq (fun k => ?_)
    unfold eN trn
    rw [bitN_t, bitN_t]
    by_cases c : k < 4
    · rw [hb (3 - k) (by omega), eb (3 - k) (by omega), show 12 - 12 + (3 - k) = 3 - k by omega, show 12 - 12 = 0 from rfl, bth_e ins hi pq hp k c]
      constructor
      · rintro ⟨-, z1, z2⟩
        rw [rnk_e ins hi pq hp k z1] at z2
        exact ⟨z1, z2⟩
      · rintro ⟨z1, z2⟩
        refine ⟨c, z1, ?_⟩
        rw [rnk_e ins hi pq hp k z1]
        exact z2
    · exact ⟨fun z => absurd z.1 c, fun z => absurd z.1 (by omega)⟩
end EBR
section EBT
variable {G : hg_E} {S : hg_S} {M : md_S} {oA cnt pa ins out : Nat} {bA : Nat → Nat} {qa : rsT}
/-- the class's truth of a state is the reference's -/
theorem tr_k (h : EXa G S M oA bA qa cnt pa ins) {i s e : Nat} (hs : s < 257) (he : e < 2 ^ ins) : trP qa out pa i s e ↔ ∃ k, k < cnt ∧ M.2.1 88 k = Int32.ofNat s ∧ trK M out pa i k e := by
  obtain ⟨-, ⟨hS, hC, -⟩, -, -⟩ := h
  have ts : (Int32.ofNat s).toInt = (s : Int) := Int32.toInt_ofNat_of_lt (by omega)
  have tsn : (Int32.ofNat s).toInt.toNat = s := by omega
  have cell : ∀ k, k < cnt → M.2.1 88 k = Int32.ofNat s → qa.1 0 (16 * s + e) = M.2.1 92 (16 * k + e) ∧ (qa.1 1 (16 * s + e) = if M.2.1 92 (16 * k + e) = -1 then -1 else M.2.1 93 (16 * k + e)) := fun k hk ek => by
    have := hC k e (Or.inl ⟨hk, he⟩)
    rw [ek, tsn] at this
    exact ⟨this.1, this.2.1⟩
  constructor
  · rintro ⟨h1, h2, h3⟩
    obtain ⟨k, k1, k2⟩ := (axS_r hS ⟨by omega, by omega⟩).mp h1
    obtain ⟨c1, c2⟩ := cell k k1 k2
    rw [c1] at h2 h3
    rw [c2, if_neg h2] at h3
    exact ⟨k, k1, k2, h2, h3⟩
  · rintro ⟨k, k1, k2, h2, h3⟩
    obtain ⟨c1, c2⟩ := cell k k1 k2
    refine ⟨(axS_r hS ⟨by omega, by omega⟩).mpr ⟨k, k1, k2⟩, ?_, ?_⟩
    · rw [c1]; exact h2
    · rw [c1, c2, if_neg h2]; exact h3
theorem trn_lt {N w : Nat} : trn N w < 2 ^ w := bitN_lt w
/-- at a choice that the program has -/
theorem tr_c (h : EXa G S M oA bA qa cnt pa ins) {i j : Nat} : trT M cnt ins out pa (0 + ebr pa ins 12 j) i ↔ trP qa out pa i (trn (j / 2 ^ ins) pa) (trn j ins) := by
  have i4 := h.2.2.1.2.2.1
  have p8 := h.2.2.1.2.2.2
  have lt := ebr_lt (pq := pa) (ins := ins) 12 j
  have e12 : 2 ^ 12 = 4096 := rfl
  obtain ⟨es, ee⟩ := eb_s (pq := pa) i4 p8 j (w := 0) (Or.inl rfl)
  have sl : trn (j / 2 ^ ins) pa < 257 := by
    have := trn_lt (N := j / 2 ^ ins) (w := pa)
    have : 2 ^ pa ≤ 2 ^ 8 := Nat.pow_le_pow_right (by decide) p8
    have : 2 ^ 8 = 256 := rfl
    omega
  rw [tr_k h sl trn_lt]
  unfold trT clC
  rw [es, ee]
  constructor
  · rintro ⟨k, ⟨k1, k2, k3⟩, k4⟩
    refine ⟨k, k1, k3.elim (fun z => z.2) (fun z => ?_), k4⟩
    have := z.1
    omega
  · rintro ⟨k, k1, k2, k4⟩
    exact ⟨k, ⟨k1, trn_lt, Or.inl ⟨by omega, k2⟩⟩, k4⟩
theorem tr_f (h : EXa G S M oA bA qa cnt pa ins) {i j : Nat} : trT M cnt ins out pa (4096 + ebr 0 ins 12 j) i ↔ trP qa out pa i 256 (trn j ins) := by
  have i4 := h.2.2.1.2.2.1
  obtain ⟨es, ee⟩ := eb_s (pq := 0) i4 (by omega) j (w := 4096) (Or.inr rfl)
  have e0 : trn (j / 2 ^ ins) 0 = 0 := rfl
  rw [tr_k h (by omega) trn_lt]
  unfold trT clC
  rw [es, ee, e0]
  constructor
  · rintro ⟨k, ⟨k1, k2, k3⟩, k4⟩
    refine ⟨k, k1, k3.elim (fun z => ?_) (fun z => z.2.2), k4⟩
    have := z.1
    omega
  · rintro ⟨k, k1, k2, k4⟩
    exact ⟨k, ⟨k1, trn_lt, Or.inr ⟨by omega, rfl, k2⟩⟩, k4⟩
/-- where a bit is set that the program does not have, all is false -/
theorem tr_z (h : EXa G S M oA bA qa cnt pa ins) {i c b : Nat} (hc : c < 4096) (hb : b < 12) (ht : ¬ bth pa ins b = true) (hx : c.testBit b = true) : ¬ trT M cnt ins out pa c i := by
  have i4 := h.2.2.1.2.2.1
  have p8 := h.2.2.1.2.2.2
  have hS := h.2.1.1
  rintro ⟨k, ⟨k1, k2, k3⟩, -⟩
  by_cases d : b < 4
  · have n1 : ¬ 3 - b < ins := fun z => ht (by
      have := (bth_e ins i4 pa p8 (3 - b) (by omega)).mpr z
      rw [show 3 - (3 - b) = b by omega] at this
      exact this)
    have eb : (eN c).testBit (3 - b) = true := (bitN_t (ch := fun p => c.testBit (3 - p) = true) 4 (3 - b)).mpr ⟨by omega, by show c.testBit (3 - (3 - b)) = true; rw [show 3 - (3 - b) = b by omega]; exact hx⟩
    have ge := Nat.ge_two_pow_of_testBit eb
    have : 2 ^ ins ≤ 2 ^ (3 - b) := Nat.pow_le_pow_right (by decide) (by omega)
    omega
  · have n1 : ¬ 11 - b < pa := fun z => ht (by
      have := (bth_p ins i4 pa p8 (11 - b) (by omega)).mpr z
      rw [show 11 - (11 - b) = b by omega] at this
      exact this)
    have sb : (sN c).testBit (11 - b) = true := (bitN_t (ch := fun p => c.testBit (11 - p) = true) 8 (11 - b)).mpr ⟨by omega, by show c.testBit (11 - (11 - b)) = true; rw [show 11 - (11 - b) = b by omega]; exact hx⟩
    have sl := sN_lt c
    rcases k3 with ⟨-, z⟩ | ⟨z, -⟩
    · rcases (hS.2.1 k k1).2.1 with w | w
      · rw [w] at z
        have := ofN_j (a := 256) (by omega) (by omega) z
        omega
      · have := w.2 (11 - b) (by omega)
        rw [z, gb_n (by omega), sb] at this
        cases this
    · omega
theorem tr_y (h : EXa G S M oA bA qa cnt pa ins) {i c b : Nat} (h1 : 4096 ≤ c) (h2 : c < 8192) (hb : b < 12) (ht : ¬ bth 0 ins b = true) (hx : c.testBit b = true) : ¬ trT M cnt ins out pa c i := by
  have i4 := h.2.2.1.2.2.1
  rintro ⟨k, ⟨k1, k2, k3⟩, -⟩
  by_cases d : b < 4
  · have n1 : ¬ 3 - b < ins := fun z => ht (by
      have := (bth_e ins i4 0 (by omega) (3 - b) (by omega)).mpr z
      rw [show 3 - (3 - b) = b by omega] at this
      exact this)
    have eb : (eN c).testBit (3 - b) = true := (bitN_t (ch := fun p => c.testBit (3 - p) = true) 4 (3 - b)).mpr ⟨by omega, by show c.testBit (3 - (3 - b)) = true; rw [show 3 - (3 - b) = b by omega]; exact hx⟩
    have ge := Nat.ge_two_pow_of_testBit eb
    have : 2 ^ ins ≤ 2 ^ (3 - b) := Nat.pow_le_pow_right (by decide) (by omega)
    omega
  · have sb : (sN c).testBit (11 - b) = true := (bitN_t (ch := fun p => c.testBit (11 - p) = true) 8 (11 - b)).mpr ⟨by omega, by show c.testBit (11 - (11 - b)) = true; rw [show 11 - (11 - b) = b by omega]; exact hx⟩
    rcases k3 with z | z
    · omega
    · rw [z.2.1, Nat.zero_testBit] at sb
      cases sb
end EBT
