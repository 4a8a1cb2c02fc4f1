/-! what a told program's result is, if it comes to one: rules with what is known on the way -/
theorem dc_pwp {τ : Type} {E : Option τ} {F : τ → Prop} (h : dc_wp E F) : dc_pw E F := by
  intro q e
  obtain ⟨q2, e2, hf⟩ := h
  rw [e] at e2; cases e2; exact hf
theorem pw_and {τ : Type} {E : Option τ} {F G : τ → Prop} (h : dc_pw E F) (g : dc_pw E G) : dc_pw E (fun q => F q ∧ G q) := fun q e => ⟨h q e, g q e⟩
theorem pw_mono {τ : Type} {E : Option τ} {F G : τ → Prop} (h : dc_pw E F) (g : ∀ q, F q → G q) : dc_pw E G := fun q e => g q (h q e)
theorem pw_letB {α τ : Type} {e : α} {f : α → Option τ} {F : τ → Prop} (k : ∀ x, x = e → dc_pw (f x) F) : dc_pw (dc_let e f) F := k e rfl
theorem pw_ifB {τ : Type} {c : Prop} [Decidable c] {E1 E2 : Option τ} {F : τ → Prop} (k1 : c → dc_pw E1 F) (k2 : ¬ c → dc_pw E2 F) : dc_pw (if c then E1 else E2) F := by
  by_cases h : c
  · rw [if_pos h]; exact k1 h
  · rw [if_neg h]; exact k2 h
theorem pw_ixB {τ : Type} {i : Int32} {n : Nat} {f : Nat → Option τ} {F : τ → Prop} (m : Int32) (hm : m.toInt = (n : Int)) (k : ∀ j : Nat, j = i.toNatClampNeg → 0 ≤ i → i < m → dc_pw (f j) F) : dc_pw ((dc_ix i n).bind f) F := by
  intro q e
  have hd : dc_ix i n = if i < 0 ∨ n ≤ i.toNatClampNeg then none else some i.toNatClampNeg := rfl
  by_cases h : i < 0 ∨ n ≤ i.toNatClampNeg
  · rw [hd, if_pos h] at e; cases e
  · rw [hd, if_neg h] at e
    have h1 : 0 ≤ i := Int32.not_lt.mp (fun h2 => h (.inl h2))
    have a := i_nat (i_le.mp h1)
    exact k _ rfl h1 (i_lt.mpr (by rw [hm]; have : ¬ n ≤ i.toNatClampNeg := fun h2 => h (.inr h2); omega)) q e
theorem pw_loopB {α β ρ : Type} {step : α → Option (α ⊕ β)} {f : β → Option ρ} {x : α} {F : ρ → Prop} (I : α → Prop) (h0 : I x) (hs : ∀ x, I x → dc_pw (step x) (Sum.elim I (fun z => dc_pw (f z) F))) : dc_pw ((dc_it step x).bind f) F :=
  pw_loop I (fun z => dc_pw (f z) F) h0 hs (fun _ h => h)
theorem pw_callE {τ ρ : Type} {E : Option τ} {f : τ → Option ρ} {v : τ} {F : ρ → Prop} (h : E = some v) (k : ∀ q, q = v → dc_pw (f q) F) : dc_pw (E.bind f) F := by
  rw [h]; exact k v rfl
