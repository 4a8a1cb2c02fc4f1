/-! how many numbers below n are such -/
noncomputable def ctP (P : Nat → Prop) : Nat → Nat
  | 0 => 0
  | n + 1 => ctP P n + @ite Nat (P n) (Classical.propDecidable _) 1 0
section CTP
variable {P Q : Nat → Prop}
theorem ctP_y {n : Nat} (h : P n) : ctP P (n + 1) = ctP P n + 1 := by
  show ctP P n + @ite Nat (P n) (Classical.propDecidable _) 1 0 = _
  rw [if_pos h]
theorem ctP_n {n : Nat} (h : ¬ P n) : ctP P (n + 1) = ctP P n := by
  show ctP P n + @ite Nat (P n) (Classical.propDecidable _) 1 0 = _
  rw [if_neg h, Nat.add_zero]
theorem ctP_le : ∀ n, ctP P n ≤ n
  | 0 => Nat.le_refl _
  | n + 1 => by
    have := ctP_le n
    by_cases c : P n
    · rw [ctP_y c]; omega
    · rw [ctP_n c]; omega
theorem ctP_cg : ∀ n, (∀ k, k < n → (P k ↔ Q k)) → ctP P n = ctP Q n
  | 0, _ => rfl
  | n + 1, h => by
    have ih := ctP_cg n (fun k hk => h k (by omega))
    by_cases c : P n
    · rw [ctP_y c, ctP_y ((h n (by omega)).mp c), ih]
    · rw [ctP_n c, ctP_n (fun z => c ((h n (by omega)).mpr z)), ih]
theorem ctP_sub : ∀ n, (∀ k, k < n → P k → Q k) → ctP P n ≤ ctP Q n
  | 0, _ => Nat.le_refl _
  | n + 1, h => by
    have ih := ctP_sub n (fun k hk => h k (by omega))
    by_cases c : P n
    · rw [ctP_y c, ctP_y (h n (by omega) c)]; omega
    · rw [ctP_n c]
      by_cases d : Q n
      · rw [ctP_y d]; omega
      · rw [ctP_n d]; exact ih
/-- the same number of fewer: the same -/
theorem ctP_eq : ∀ n, (∀ k, k < n → P k → Q k) → ctP P n = ctP Q n → ∀ k, k < n → Q k → P k
  | 0, _, _ => fun k hk => absurd hk (by omega)
  | n + 1, h, e => by
    have sb := ctP_sub n (fun k hk => h k (by omega))
    have ih := ctP_eq n (fun k hk => h k (by omega))
    intro k hk hQ
    by_cases c : P n
    · rw [ctP_y c, ctP_y (h n (by omega) c)] at e
      by_cases d : k = n
      · rw [d]; exact c
      · exact ih (by omega) k (by omega) hQ
    · rw [ctP_n c] at e
      by_cases d : Q n
      · rw [ctP_y d] at e; omega
      · rw [ctP_n d] at e
        by_cases d2 : k = n
        · rw [d2] at hQ; exact absurd hQ d
        · exact ih e k (by omega) hQ
/-- one taken out -/
theorem ctP_one {m : Nat} (hm : P m) (hQ : ∀ k, Q k ↔ (P k ∧ ¬ k = m)) : ∀ n, m < n → ctP Q n + 1 = ctP P n
  | 0, h => absurd h (by omega)
  | n + 1, h => by
    by_cases d : m = n
    · subst d
      rw [ctP_y hm, ctP_n (fun z => ((hQ m).mp z).2 rfl), ctP_cg m (fun k hk => ⟨fun z => ((hQ k).mp z).1, fun z => (hQ k).mpr ⟨z, by omega⟩⟩)]
    · have ih := ctP_one hm hQ n (by omega)
      by_cases c : P n
      · rw [ctP_y c, ctP_y ((hQ n).mpr ⟨c, fun z => d z.symm⟩)]; omega
      · rw [ctP_n c, ctP_n (fun z => c ((hQ n).mp z).1)]; exact ih
theorem ctP_pos {n k : Nat} (hk : k < n) (h : P k) : 1 ≤ ctP P n := by
  have := ctP_one (Q := fun j => P j ∧ ¬ j = k) h (fun j => Iff.rfl) n hk
  omega
/-- others, one for each: no fewer -/
theorem ctP_inj {f : Nat → Nat} {m : Nat} : ∀ (n : Nat) (Q : Nat → Prop), (∀ k, k < n → P k → f k < m ∧ Q (f k)) → (∀ i j, i < n → j < n → P i → P j → f i = f j → i = j) → ctP P n ≤ ctP Q m
  | 0, _, _, _ => Nat.zero_le _
  | n + 1, Q, h, hi => by
    by_cases c : P n
    · obtain ⟨a, b⟩ := h n (by omega) c
      have one := ctP_one (Q := fun j => Q j ∧ ¬ j = f n) b (fun j => Iff.rfl) m a
      have ih := ctP_inj n (fun j => Q j ∧ ¬ j = f n) (fun k hk hP => ⟨(h k (by omega) hP).1, (h k (by omega) hP).2, fun z => by
        have := hi k n (by omega) (by omega) hP c z
        omega⟩) (fun i j h1 h2 => hi i j (by omega) (by omega))
      rw [ctP_y c]
      omega
    · rw [ctP_n c]
      exact ctP_inj n Q (fun k hk => h k (by omega)) (fun i j h1 h2 => hi i j (by omega) (by omega))
end CTP
