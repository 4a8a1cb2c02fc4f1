/-! the outputs shown are the same on both sides -/
section SHP
theorem oB_s {κ σ : Nat → Int32} {ins : Nat} : ∀ k, (∀ p, p < k → κ (ins + p) = σ (ins + p) ∧ (σ (ins + p) = 0 ∨ σ (ins + p) = 1)) → oB (shB κ ins) k = oB (psB σ ins) k := by
  intro k
  induction k with
  | zero => exact fun _ => rfl
  | succ k ih =>
    intro h
    show oB (shB κ ins) k ||| shB κ ins k = oB (psB σ ins) k ||| psB σ ins k
    rw [ih (fun p hp => h p (by omega))]
    have e : shB κ ins k = psB σ ins k := by
      unfold shB psB
      obtain ⟨h1, h2⟩ := h k (by omega)
      rw [h1]
      rcases h2 with z | z
      · rw [z, if_neg (by decide), Int32.zero_shiftLeft]
      · rw [z, if_pos rfl]
    rw [e]
end SHP
