/-! names: the innermost, of the class -/
theorem i_dec {x : Int32} (h : -2147483648 < x.toInt) : (x + (-1)).toInt = x.toInt - 1 := by
  have hh := i_hi x
  have e := a_add x (-1)
  simp only [il_m1] at e
  omega
theorem find_w {G : hg_E} {S : hg_S} {a tx fA eA sA cap o n : Nat} {ff ee ss f : Nat → Int32} {made sc : Int32} {tk : Option Nat} {fr to ln fa : Int32} (h : nmv G S a tx fA eA sA cap ff ee ss made sc) (v : lxv G S o tx n f tk fr to ln fa) (c0 : 0 ≤ sc.toInt) (c1 : sc.toInt ≤ (cap : Int)) (hcap : cap ≤ 100000) (hs : ∀ k, k < sc.toInt.toNat → 0 ≤ (ss k).toInt ∧ (ss k).toInt < (cap : Int) ∧ 0 ≤ (ff (ss k).toInt.toNat).toInt ∧ 0 ≤ (ee (ss k).toInt.toNat).toInt ∧ (ff (ss k).toInt.toNat).toInt + (ee (ss k).toInt.toNat).toInt ≤ (n : Int)) (fr0 : 0 ≤ fr.toInt) (frt : fr.toInt ≤ to.toInt) (tn : to.toInt ≤ (n : Int)) (hn : n ≤ 100000) : dc_wp (hm_NM_find G S a (some o)) (fsP 0 sc.toInt.toNat ss (fun k => eqs f (ff (ss k).toInt.toNat) (ee (ss k).toInt.toNat) fr (to - fr))) := by
  have s1 : (sc - 1).toInt = sc.toInt - 1 := by rw [i_subS (by rw [il_1]; omega), il_1]
  delta hm_NM_find
  refine wq_gi (x := sc) h.1 rfl ?_
  refine wq_let (fun x hx => ?_)
  subst hx
  delta hm_NM_find_L7
  refine wq_call (P := Sum.elim (fun x : Int32 => ∃ k : Nat, k < sc.toInt.toNat ∧ x.toInt = (k : Int) ∧ eqs f (ff (ss k).toInt.toNat) (ee (ss k).toInt.toNat) fr (to - fr) ∧ ∀ k', k < k' → k' < sc.toInt.toNat → ¬ eqs f (ff (ss k').toInt.toNat) (ee (ss k').toInt.toNat) fr (to - fr)) (fun _ : Unit => ∀ k, k < sc.toInt.toNat → ¬ eqs f (ff (ss k).toInt.toNat) (ee (ss k).toInt.toNat) fr (to - fr))) ?_ ?_
  · refine dc_itK (fun k (x : Int32) => ∃ m : Nat, m ≤ sc.toInt.toNat ∧ x.toInt = (m : Int) - 1 ∧ k = m ∧ ∀ k', m ≤ k' → k' < sc.toInt.toNat → ¬ eqs f (ff (ss k').toInt.toNat) (ee (ss k').toInt.toNat) fr (to - fr)) ?_ sc.toInt.toNat (sc - 1) ⟨sc.toInt.toNat, Nat.le_refl _, by rw [s1]; omega, rfl, fun k' h1 h2 => by omega⟩
    rintro k x ⟨m, m1, m2, rfl, m3⟩
    show dc_wp (hm_NM_find_b7 G S a (some o) x) _
    delta hm_NM_find_b7
    refine wq_if (fun d1 => ?_) (fun d1 => ?_)
    · have d2 := i_lt.mp d1
      rw [il_0] at d2
      exact ⟨_, rfl, fun k hk => m3 k (by omega) hk⟩
    · have d2 : ¬ x.toInt < (0 : Int32).toInt := fun z => d1 (i_lt.mpr z)
      rw [il_0] at d2
      obtain ⟨t, ht⟩ : ∃ t, k = t + 1 := ⟨k - 1, by omega⟩
      subst ht
      have xt : x.toInt = (t : Int) := by omega
      have xn : x.toInt.toNat = t := by omega
      have xlo : -2147483648 < x.toInt := by omega
      have tl : t ≤ sc.toInt.toNat := by omega
      obtain ⟨g1, g2, g3, g4, g5⟩ := hs t (by omega)
      refine wq_gr (x := some sA) h.1 rfl ?_
      refine wq_ld h.2.2.2 (by omega) (by omega) ?_
      rw [xn]
      refine wq_chk h.1 ?_
      refine wq_call (reads_w h v g1 g2 g3 g4 g5 fr0 frt tn hn) ?_
      rintro q (⟨e1, rfl⟩ | ⟨e1, rfl⟩)
      · refine wq_if (fun z => absurd z (by decide)) (fun _ => ?_)
        exact ⟨_, rfl, t, by omega, xt, e1, fun k' h1 h2 => m3 k' (by omega) h2⟩
      · refine wq_if (fun _ => ?_) (fun z => absurd rfl z)
        refine ⟨_, rfl, t, Nat.lt_succ_self t, t, tl, (i_dec xlo).trans (by rw [xt]), rfl, fun k' h1 h2 => ?_⟩
        by_cases c : k' = t
        · rw [c]; exact e1
        · exact m3 k' (Nat.lt_of_le_of_ne h1 (fun z => c z.symm)) h2
  · rintro (x | u) hx
    · obtain ⟨k, k1, k2, k3, k4⟩ := hx
      show dc_wp (hm_NM_find_L25 G S a x) _
      delta hm_NM_find_L25
      refine wq_gr (x := some sA) h.1 rfl ?_
      refine wq_ld h.2.2.2 (by omega) (by omega) ?_
      rw [k2, show (k : Int).toNat = k by omega]
      exact ⟨_, rfl, Or.inr ⟨k, by omega, k1, rfl, k3, k4⟩⟩
    · exact ⟨_, rfl, Or.inl ⟨rfl, fun k _ hk => hx k hk⟩⟩
