/-! names: the innermost, of the reference -/
theorem sig_w {M : md_S} {low : Int32} (l0 : 0 ≤ low.toInt) (c0 : 0 ≤ (M.1 18).toInt) (c1 : (M.1 18).toInt ≤ 16400) (hs : ∀ k, k < (M.1 18).toInt.toNat → (0 ≤ (M.2.1 23 k).toInt ∧ (M.2.1 23 k).toInt < 16400) ∧ 0 ≤ (M.2.1 21 (M.2.1 23 k).toInt.toNat).toInt ∧ 0 ≤ (M.2.1 22 (M.2.1 23 k).toInt.toNat).toInt ∧ (M.2.1 21 (M.2.1 23 k).toInt.toNat).toInt + (M.2.1 22 (M.2.1 23 k).toInt.toNat).toInt ≤ 32768) (fr0 : 0 ≤ (M.1 7).toInt) (frt : (M.1 7).toInt ≤ (M.1 4).toInt) (tn : (M.1 4).toInt ≤ 32768) : dc_wp (mm_signal M low) (fsP low.toInt.toNat (M.1 18).toInt.toNat (M.2.1 23) (fun k => eqs (M.2.1 1) (M.2.1 21 (M.2.1 23 k).toInt.toNat) (M.2.1 22 (M.2.1 23 k).toInt.toNat) (M.1 7) (M.1 4 - M.1 7))) := by
  have s1 : (M.1 18 - 1).toInt = (M.1 18).toInt - 1 := by rw [i_subS (by rw [il_1]; omega), il_1]
  have d0 : (M.1 4 - M.1 7).toInt = (M.1 4).toInt - (M.1 7).toInt := i_subS (by omega)
  delta mm_signal
  refine wq_let (fun x hx => ?_)
  subst hx
  delta mm_signal_L7
  refine wq_call (P := Sum.elim (fun x : Int32 => ∃ k : Nat, low.toInt.toNat ≤ k ∧ k < (M.1 18).toInt.toNat ∧ x = M.2.1 23 k ∧ eqs (M.2.1 1) (M.2.1 21 (M.2.1 23 k).toInt.toNat) (M.2.1 22 (M.2.1 23 k).toInt.toNat) (M.1 7) (M.1 4 - M.1 7) ∧ ∀ k', k < k' → k' < (M.1 18).toInt.toNat → ¬ eqs (M.2.1 1) (M.2.1 21 (M.2.1 23 k').toInt.toNat) (M.2.1 22 (M.2.1 23 k').toInt.toNat) (M.1 7) (M.1 4 - M.1 7)) (fun _ : Unit => ∀ k, low.toInt.toNat ≤ k → k < (M.1 18).toInt.toNat → ¬ eqs (M.2.1 1) (M.2.1 21 (M.2.1 23 k).toInt.toNat) (M.2.1 22 (M.2.1 23 k).toInt.toNat) (M.1 7) (M.1 4 - M.1 7))) ?_ ?_
  · refine dc_itK (fun k (x : Int32) => ∃ m : Nat, m ≤ (M.1 18).toInt.toNat ∧ x.toInt = (m : Int) - 1 ∧ k = m ∧ ∀ k', m ≤ k' → k' < (M.1 18).toInt.toNat → ¬ eqs (M.2.1 1) (M.2.1 21 (M.2.1 23 k').toInt.toNat) (M.2.1 22 (M.2.1 23 k').toInt.toNat) (M.1 7) (M.1 4 - M.1 7)) ?_ (M.1 18).toInt.toNat (M.1 18 - 1) ⟨(M.1 18).toInt.toNat, Nat.le_refl _, by rw [s1]; omega, rfl, fun k' h1 h2 => by omega⟩
    rintro k x ⟨m, m1, m2, rfl, m3⟩
    show dc_wp (mm_signal_b7 M low x) _
    delta mm_signal_b7
    refine wq_if (fun d1 => ?_) (fun d1 => ?_)
    · have d2 := i_lt.mp d1
      exact ⟨_, rfl, fun j hj1 hj2 => m3 j (by omega) hj2⟩
    · have d2 : ¬ x.toInt < low.toInt := fun z => d1 (i_lt.mpr z)
      obtain ⟨t, ht⟩ : ∃ t, k = t + 1 := ⟨k - 1, by omega⟩
      subst ht
      have xt : x.toInt = (t : Int) := by omega
      have xn : x.toInt.toNat = t := by omega
      have xlo : -2147483648 < x.toInt := by omega
      have tl : t ≤ (M.1 18).toInt.toNat := by omega
      obtain ⟨⟨g1, g2⟩, g3, g4, g5⟩ := hs t (by omega)
      refine wq_ix (by omega) (by omega) ?_
      rw [xn]
      refine wq_let (fun y hy => ?_)
      subst hy
      refine wq_ix g1 (by omega) ?_
      refine wq_ix g1 (by omega) ?_
      refine wq_call (same_w g3 g4 g5 fr0 (fun e => by rw [e, d0]; omega)) ?_
      rintro q (⟨e1, rfl⟩ | ⟨e1, rfl⟩)
      · refine wq_if (fun z => absurd z (by decide)) (fun _ => ?_)
        exact ⟨_, rfl, t, by omega, by omega, rfl, e1, fun k' h1 h2 => m3 k' (by omega) h2⟩
      · refine wq_if (fun _ => ?_) (fun z => absurd rfl z)
        refine ⟨_, rfl, t, Nat.lt_succ_self t, t, tl, (i_dec xlo).trans (by rw [xt]), rfl, fun k' h1 h2 => ?_⟩
        by_cases c : k' = t
        · rw [c]; exact e1
        · exact m3 k' (Nat.lt_of_le_of_ne h1 (fun z => c z.symm)) h2
  · rintro (x | u) hx
    · obtain ⟨k, k0, k1, k2, k3, k4⟩ := hx
      exact ⟨_, rfl, Or.inr ⟨k, k0, k1, k2, k3, k4⟩⟩
    · exact ⟨_, rfl, Or.inl ⟨rfl, hx⟩⟩
