/-! a program that was just read: the class beside the reference -/
section LDR
variable {G : hg_E} {S : hg_S} {M : md_S} {T : tT} {t0 u n ps sg io pa : Nat} {R : Nat → Nat → Int32} {c : Nat → Int32} {f : Nat → Int32}
theorem ld_rd (hpg : pgS G S M t0 u n ps sg io pa R c) (hpt : pgT M T n ps) (hpb : pgB M n) (hre : REv G S (u + 18) u (reB (u + 19)) (reN sg (plc (R 0) (R 7) io n) ps n pa) (reX f) (fun _ => 0)) (hpl : plP (R 0) (R 4) (R 7) io n f) (hh : hg_at S.1 (u + 30) = some (.inl (G.1 2, pa, .inl (fun _ => 0)))) (hs : hg_at S.1 (u + 31) = some (.inl (G.1 0, io, .inl (fun _ => 0)))) (e77 : M.1 77 = 1) (e82 : M.1 82 = 1) (e83 : M.1 83 = 0) (h74 : ∀ k, k < 200 → M.2.1 74 k = 0) (h84 : ∀ k, k < 62 → M.2.1 84 k = 0) (h70 : ∀ i, v3 (M.2.1 70 i)) : LDp G S M u t0 T n ps sg io pa R c (reX f) (fun _ => 0) (fun _ => 0) (fun _ => 0) ∧ LDe M pa 0 0 0 := by
  obtain ⟨-, -, -, ⟨-, b2, b3, b4, b5, b6⟩, -⟩ := id hpg
  have x3 : reX f 3 = f := if_pos (Or.inl rfl)
  have x4 : reX f 4 = f := if_pos (Or.inr rfl)
  have xn : ∀ i, ¬ (i = 3 ∨ i = 4) → reX f i = fun _ => 0 := fun i hi => if_neg hi
  refine ⟨⟨⟨hpg, hpt, hpb⟩, ⟨hre, by rw [x3]; exact hpl, rfl, fun y hy => ?_, ?_, fun p => ?_, Or.inl rfl, fun p => ?_⟩, ⟨hh, fun p hp => ⟨fun _ => h74 p (by omega), fun _ => rfl⟩⟩, ⟨hs, fun i hi => (h84 i (by omega)).symm⟩, h70⟩, Or.inl ⟨rfl, e77⟩, Or.inl ⟨rfl, e82⟩, e83.symm, fun z => ?_, fun z => ?_, fun _ p hp => h74 p (by omega)⟩
  · show reX f 4 y = _
    rw [x4]
    exact hpl.1 y hy
  · show reX f 10 0 = 0
    rw [xn 10 (by omega)]
  · show v3 (reX f 1 p)
    rw [xn 1 (by omega)]
    exact Or.inl rfl
  · show reX f 11 p = 0 ∨ reX f 11 p = 1
    rw [xn 11 (by omega)]
    exact Or.inl rfl
  · rw [e77] at z
    exact absurd z (by decide)
  · rw [e82] at z
    exact absurd z (by decide)
end LDR
/-! the states of an engine that explores: held pauses as bits -/
section BTS
/-- a state's number, of the pauses chosen -/
def bitN (ch : Nat → Prop) [DecidablePred ch] : Nat → Nat
  | 0 => 0
  | p + 1 => bitN ch p + if ch p then 2 ^ p else 0
theorem bitN_lt {ch : Nat → Prop} [DecidablePred ch] : ∀ p, bitN ch p < 2 ^ p
  | 0 => by show 0 < 2 ^ 0; decide
  | p + 1 => by
    have := bitN_lt (ch := ch) p
    show bitN ch p + (if ch p then 2 ^ p else 0) < 2 ^ (p + 1)
    rw [Nat.pow_succ]
    split <;> omega
theorem bitN_t {ch : Nat → Prop} [DecidablePred ch] : ∀ (p k : Nat), Nat.testBit (bitN ch p) k = true ↔ k < p ∧ ch k
  | 0, k => by
    show Nat.testBit 0 k = true ↔ _
    rw [Nat.zero_testBit]
    exact ⟨fun z => (by cases z), fun z => absurd z.1 (by omega)⟩
  | p + 1, k => by
    have ih := bitN_t (ch := ch) p k
    have lt := bitN_lt (ch := ch) p
    show Nat.testBit (bitN ch p + (if ch p then 2 ^ p else 0)) k = true ↔ _
    by_cases c : ch p
    · rw [if_pos c, Nat.add_comm]
      by_cases e : k = p
      · subst e
        rw [Nat.testBit_two_pow_add_eq, Nat.testBit_lt_two_pow lt]
        exact ⟨fun _ => ⟨by omega, c⟩, fun _ => rfl⟩
      · by_cases l : k < p
        · rw [Nat.testBit_two_pow_add_gt l, ih]
          exact ⟨fun z => ⟨by omega, z.2⟩, fun z => ⟨l, z.2⟩⟩
        · have big : 2 ^ p + bitN ch p < 2 ^ k := by
            have : 2 ^ (p + 1) ≤ 2 ^ k := Nat.pow_le_pow_right (by decide) (by omega)
            rw [Nat.pow_succ] at this
            omega
          rw [Nat.testBit_lt_two_pow big]
          exact ⟨fun z => (by cases z), fun z => absurd z.1 (by omega)⟩
    · rw [if_neg c, Nat.add_zero, ih]
      refine ⟨fun z => ⟨by omega, z.2⟩, fun z => ⟨?_, z.2⟩⟩
      by_cases e : k = p
      · subst e
        exact absurd z.2 c
      · omega
end BTS
