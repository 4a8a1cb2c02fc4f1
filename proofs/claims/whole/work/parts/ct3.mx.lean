/-! the reference's multiplexers: how they are found and made -/
theorem least_n {P : Nat → Prop} (h : ∃ d, P d) : ∃ d, P d ∧ ∀ k, k < d → ¬ P k := by
  obtain ⟨d, hd⟩ := h
  induction d using Nat.strongRecOn with
  | ind d ih =>
    by_cases c : ∃ k, k < d ∧ P k
    · obtain ⟨k, k1, k2⟩ := c
      exact ih k k1 k2
    · exact ⟨d, hd, fun k hk hP => c ⟨k, hk, hP⟩⟩
/-- the place at which looking begins -/
def hsh (v a b : Int32) : Int32 := (((((v * 40503) + (a * 30011)) + (b * 16411)) &&& 2147483647) - ((((v * 40503) + (a * 30011)) + (b * 16411)) &&& 2147483647) / 65536 * 65536)
theorem dv_h {m : Nat} (h : m < 2147483648) : Int32.ofNat m - Int32.ofNat m / 65536 * 65536 = Int32.ofNat (m % 65536) := by
  have tm : (Int32.ofNat m).toInt = (m : Int) := Int32.toInt_ofNat_of_lt (by omega)
  have td : (Int32.ofNat (m / 65536)).toInt = ((m / 65536 : Nat) : Int) := Int32.toInt_ofNat_of_lt (by omega)
  have e1 : Int32.ofNat m / 65536 = Int32.ofNat (m / 65536) := by
    rw [i_eq, td, Int32.toInt_div, tm, il_65536, bm32]
    have : (m : Int).tdiv 65536 = ((m / 65536 : Nat) : Int) := by
      rw [Int.tdiv_eq_ediv_of_nonneg (by omega)]
      omega
    rw [this]
    omega
  rw [e1]
  have e2 : Int32.ofNat (m / 65536) * 65536 = Int32.ofNat (m / 65536 * 65536) := by
    rw [Int32.ofNat_mul]
    rfl
  rw [e2]
  have e3 : m = m / 65536 * 65536 + m % 65536 := by omega
  have e4 : Int32.ofNat m = Int32.ofNat (m / 65536 * 65536) + Int32.ofNat (m % 65536) := by rw [← Int32.ofNat_add, ← e3]
  rw [e4, Int32.add_comm, Int32.add_sub_cancel]
theorem and_nn (x : Int32) : ∃ m, m < 2147483648 ∧ x &&& 2147483647 = Int32.ofNat m := by
  have hm : gb (x &&& 2147483647) 31 = false := by
    rw [gb_and]
    have : gb (2147483647 : Int32) 31 = false := by decide +kernel
    rw [this, Bool.and_false]
  generalize x &&& 2147483647 = y at hm
  have hlt : y.toBitVec.toNat < 2147483648 := by
    have h1 : y.toBitVec.msb = false := by rw [BitVec.msb_eq_getLsbD_last]; exact hm
    rw [BitVec.msb_eq_false_iff_two_mul_lt] at h1
    omega
  refine ⟨y.toBitVec.toNat, hlt, ?_⟩
  refine Int32.toBitVec_inj.mp ?_
  rw [Int32.toBitVec_ofNat']
  rw [BitVec.ofNat_toNat, BitVec.setWidth_eq]
theorem hsh_n (v a b : Int32) : ∃ h, h < 65536 ∧ hsh v a b = Int32.ofNat h := by
  obtain ⟨m, m1, m2⟩ := and_nn (((v * 40503) + (a * 30011)) + (b * 16411))
  refine ⟨m % 65536, by omega, ?_⟩
  unfold hsh
  rw [m2]
  exact dv_h m1
/-- multiplexers made, and where they are to be found -/
def mxI (M : md_S) (n : Nat) : Prop := (M.1 106 = Int32.ofNat n ∧ n ≤ 24000) ∧ (∀ p, p < 65536 → M.2.1 104 p = 0 ∨ ∃ m, m < n ∧ M.2.1 104 p = Int32.ofNat (m + 1)) ∧ (∀ m, m < n → ∀ h, hsh (M.2.1 101 m) (M.2.1 102 m) (M.2.1 103 m) = Int32.ofNat h → h < 65536 → ∃ d, M.2.1 104 ((h + d) % 65536) = Int32.ofNat (m + 1) ∧ ∀ k, k ≤ d → ¬ M.2.1 104 ((h + k) % 65536) = 0) ∧ ctP (fun p => ¬ M.2.1 104 p = 0) 65536 ≤ n ∧ ∀ m m', m < n → m' < n → M.2.1 101 m = M.2.1 101 m' → M.2.1 102 m = M.2.1 102 m' → M.2.1 103 m = M.2.1 103 m' → m = m'
/-- what looking for one leaves -/
def mxO (M r : md_S) (n : Nat) (v a b : Int32) (m : Nat) : Prop := (r = M ∧ m < n ∧ M.2.1 101 m = v ∧ M.2.1 102 m = a ∧ M.2.1 103 m = b) ∨ (m = n ∧ (∀ k, k < n → ¬ (M.2.1 101 k = v ∧ M.2.1 102 k = a ∧ M.2.1 103 k = b)) ∧ mxI r (n + 1) ∧ (∀ i, ¬ i = 106 → r.1 i = M.1 i) ∧ (∀ i, ¬ (101 ≤ i ∧ i ≤ 104) → r.2.1 i = M.2.1 i) ∧ r.2.1 101 = upd (M.2.1 101) n v ∧ r.2.1 102 = upd (M.2.1 102) n a ∧ r.2.1 103 = upd (M.2.1 103) n b ∧ r.2.2 = M.2.2)
section MXR
variable {M : md_S} {n : Nat} {v a b : Int32}
theorem ctP_all {P : Nat → Prop} : ∀ n, (∀ k, k < n → P k) → ctP P n = n
  | 0, _ => rfl
  | n + 1, h => by rw [ctP_y (h n (by omega)), ctP_all n (fun k hk => h k (by omega))]
theorem mx_t (hI : mxI M n) (hn : n < 24000) : dc_wp (mm_multiplexer M v a b) (fun r => ∃ m, r.2 = Int32.ofNat m ∧ mxO M r.1 n v a b m) := by
  have hI0 := hI
  obtain ⟨⟨e106, n24⟩, h1, h2, h3, h4⟩ := hI
  obtain ⟨h, hlt, hh⟩ := hsh_n v a b
  have tnn : (Int32.ofNat n).toInt = (n : Int) := Int32.toInt_ofNat_of_lt (by omega)
  -- an empty place, and the first one
  have emp : ∃ d, M.2.1 104 ((h + d) % 65536) = 0 := by
    have : ∃ p, p < 65536 ∧ M.2.1 104 p = 0 := by
      apply Classical.byContradiction
      intro c
      have := ctP_all (P := fun p => ¬ M.2.1 104 p = 0) 65536 (fun k hk z => c ⟨k, hk, z⟩)
      omega
    obtain ⟨p, p1, p2⟩ := this
    refine ⟨p + 65536 - h, ?_⟩
    rw [show (h + (p + 65536 - h)) % 65536 = p by omega]
    exact p2
  obtain ⟨D, D1, D2⟩ := least_n emp
  have key := dc_itK (step := mm_multiplexer_s26 M v a b) (fun d (w : Int32) => ∃ k, w = Int32.ofNat ((h + k) % 65536) ∧ k ≤ D ∧ d = D - k ∧ ∀ j, j < k → ∀ m, m < n → M.2.1 104 ((h + j) % 65536) = Int32.ofNat (m + 1) → ¬ (M.2.1 101 m = v ∧ M.2.1 102 m = a ∧ M.2.1 103 m = b)) (F := fun r => match r with | .inl w => ∃ m, w = Int32.ofNat m ∧ m < n ∧ M.2.1 101 m = v ∧ M.2.1 102 m = a ∧ M.2.1 103 m = b | .inr w => w = Int32.ofNat ((h + D) % 65536) ∧ ∀ k, k < n → ¬ (M.2.1 101 k = v ∧ M.2.1 102 k = a ∧ M.2.1 103 k = b)) (by
    rintro d w ⟨k, ew, k1, ed, inv⟩
    subst ew
    have pl : (h + k) % 65536 < 65536 := Nat.mod_lt _ (by omega)
    have tp : (Int32.ofNat ((h + k) % 65536)).toInt = (((h + k) % 65536 : Nat) : Int) := Int32.toInt_ofNat_of_lt (by omega)
    have tpn : (Int32.ofNat ((h + k) % 65536)).toInt.toNat = (h + k) % 65536 := by omega
    show dc_wp (mm_multiplexer_b26 M v a b (Int32.ofNat ((h + k) % 65536))) _
    delta mm_multiplexer_b26
    refine wq_ix (by omega) (by omega) ?_
    rw [tpn]
    by_cases c : M.2.1 104 ((h + k) % 65536) = 0
    · rw [c, if_neg (by decide)]
      have ek : k = D := by
        apply Classical.byContradiction
        intro z
        exact D2 k (by omega) c
      subst ek
      refine ⟨_, rfl, rfl, fun m hm ht => ?_⟩
      obtain ⟨d', g1, g2⟩ := h2 m hm h (by rw [ht.1, ht.2.1, ht.2.2]; exact hh) hlt
      by_cases c2 : d' < k
      · exact inv d' c2 m hm g1 ht
      · exact g2 k (by omega) c
    · obtain ⟨m, m1, m2⟩ := (h1 _ pl).elim (fun z => absurd z c) id
      have tm1 : (Int32.ofNat (m + 1)).toInt = ((m + 1 : Nat) : Int) := Int32.toInt_ofNat_of_lt (by omega)
      have tm : (Int32.ofNat m).toInt = (m : Int) := Int32.toInt_ofNat_of_lt (by omega)
      have tmn : (Int32.ofNat m).toInt.toNat = m := by omega
      have kD : k < D := by
        apply Classical.byContradiction
        intro z
        have : k = D := by omega
        rw [this] at c
        exact c D1
      rw [m2, if_pos (by rw [i_lt, il_0, tm1]; omega)]
      refine wq_ix (by omega) (by omega) ?_
      rw [tpn, m2]
      refine wq_let (fun w ew => ?_)
      have ew : w = Int32.ofNat m := by
        rw [ew, ← ad_m (by omega), Int32.add_sub_cancel]
      subst ew
      have next : ¬ (M.2.1 101 m = v ∧ M.2.1 102 m = a ∧ M.2.1 103 m = b) → dc_wp (mm_multiplexer_L83 M v a b (Int32.ofNat ((h + k) % 65536))) (Sum.elim (fun (w : Int32) => ∃ k', k' < d ∧ ∃ k, w = Int32.ofNat ((h + k) % 65536) ∧ k ≤ D ∧ k' = D - k ∧ ∀ j, j < k → ∀ m, m < n → M.2.1 104 ((h + j) % 65536) = Int32.ofNat (m + 1) → ¬ (M.2.1 101 m = v ∧ M.2.1 102 m = a ∧ M.2.1 103 m = b)) (fun r => match r with | .inl w => ∃ m, w = Int32.ofNat m ∧ m < n ∧ M.2.1 101 m = v ∧ M.2.1 102 m = a ∧ M.2.1 103 m = b | .inr w => w = Int32.ofNat ((h + D) % 65536) ∧ ∀ k, k < n → ¬ (M.2.1 101 k = v ∧ M.2.1 102 k = a ∧ M.2.1 103 k = b))) := by
        intro hn'
        delta mm_multiplexer_L83
        rw [ad_m (by omega), dv_h (by omega)]
        refine ⟨_, rfl, D - (k + 1), by omega, k + 1, ?_, by omega, rfl, fun j hj m' hm' e' => ?_⟩
        · show Int32.ofNat (((h + k) % 65536 + 1) % 65536) = _
          rw [show ((h + k) % 65536 + 1) % 65536 = (h + (k + 1)) % 65536 by omega]
        · by_cases ej : j = k
          · rw [ej, m2] at e'
            have := ofN_j (by omega) (by omega) e'
            have em : m = m' := by omega
            rw [← em]
            exact hn'
          · exact inv j (by omega) m' hm' e'
      refine wq_ix (by omega) (by omega) ?_
      rw [tmn]
      refine wq_if (fun c1 => ?_) (fun c1 => next (fun z => c1 z.1))
      refine wq_ix (by omega) (by omega) ?_
      rw [tmn]
      refine wq_if (fun c2 => ?_) (fun c2 => next (fun z => c2 z.2.1))
      refine wq_ix (by omega) (by omega) ?_
      rw [tmn]
      refine wq_if (fun c3 => ?_) (fun c3 => next (fun z => c3 z.2.2))
      exact ⟨_, rfl, m, rfl, m1, c1, c2, c3⟩)
  delta mm_multiplexer
  refine wq_let (fun w ew => ?_)
  have ew : w = Int32.ofNat ((h + 0) % 65536) := by
    rw [show (h + 0) % 65536 = h by omega]
    rw [ew]
    exact hh
  delta mm_multiplexer_L26
  refine wq_call (key D w ⟨0, ew, by omega, rfl, fun j hj => absurd hj (by omega)⟩) ?_
  intro r hr
  cases r with
  | inl w' =>
    obtain ⟨m, e, m1, m2⟩ := hr
    exact ⟨_, rfl, m, e, Or.inl ⟨rfl, m1, m2⟩⟩
  | inr w' =>
    obtain ⟨ew', no⟩ : w' = Int32.ofNat ((h + D) % 65536) ∧ ∀ k, k < n → ¬ (M.2.1 101 k = v ∧ M.2.1 102 k = a ∧ M.2.1 103 k = b) := hr
    have pl : (h + D) % 65536 < 65536 := Nat.mod_lt _ (by omega)
    have tp : (Int32.ofNat ((h + D) % 65536)).toInt = (((h + D) % 65536 : Nat) : Int) := Int32.toInt_ofNat_of_lt (by omega)
    have tpn : (Int32.ofNat ((h + D) % 65536)).toInt.toNat = (h + D) % 65536 := by omega
    show dc_wp (mm_multiplexer_L95 M v a b w') _
    rw [ew']
    delta mm_multiplexer_L95
    rw [e106]
    refine wq_ix (by omega) (by omega) ?_
    refine wq_let (fun S2 s2 => ?_)
    have e2 : S2.1 106 = Int32.ofNat n := by rw [s2]; exact e106
    rw [e2]
    refine wq_ix (by omega) (by omega) ?_
    refine wq_let (fun S4 s4 => ?_)
    have e4 : S4.1 106 = Int32.ofNat n := by rw [s4]; exact e2
    rw [e4]
    refine wq_ix (by omega) (by omega) ?_
    refine wq_let (fun S6 s6 => ?_)
    have e6 : S6.1 106 = Int32.ofNat n := by rw [s6]; exact e4
    rw [e6, ad_m (by omega)]
    refine wq_let (fun S7 s7 => ?_)
    have e7 : S7.1 106 = Int32.ofNat (n + 1) := by rw [s7, md_i1, if_pos rfl]
    refine wq_ix (by omega) (by omega) ?_
    rw [e7, tpn]
    refine wq_let (fun S9 s9 => ?_)
    have e9 : S9.1 106 = Int32.ofNat (n + 1) := by rw [s9]; exact e7
    rw [show (Int32.ofNat n).toInt.toNat = n by omega] at s2 s4 s6
    have r1 : ∀ i, ¬ i = 106 → S9.1 i = M.1 i := fun i hi => by
      rw [s9]
      show S7.1 i = _
      rw [s7, md_i1, if_neg hi, s6]
      show S4.1 i = _
      rw [s4]
      show S2.1 i = _
      rw [s2]
      rfl
    have rr : ∀ i, ¬ (101 ≤ i ∧ i ≤ 104) → S9.2.1 i = M.2.1 i := fun i hi => by
      rw [s9, md_a2, if_neg (by omega), s7]
      show S6.2.1 i = _
      rw [s6, md_a2, if_neg (by omega), s4, md_a2, if_neg (by omega), s2, md_a2, if_neg (by omega)]
    have q1 : S9.2.1 101 = upd (M.2.1 101) n v := by
      rw [s9, md_a2, if_neg (by omega), s7]
      show S6.2.1 101 = _
      rw [s6, md_a2, if_neg (by omega), s4, md_a2, if_neg (by omega), s2, md_a2, if_pos rfl]
    have q2 : S9.2.1 102 = upd (M.2.1 102) n a := by
      rw [s9, md_a2, if_neg (by omega), s7]
      show S6.2.1 102 = _
      rw [s6, md_a2, if_neg (by omega), s4, md_a2, if_pos rfl, s2, md_a2, if_neg (by omega)]
    have q3 : S9.2.1 103 = upd (M.2.1 103) n b := by
      rw [s9, md_a2, if_neg (by omega), s7]
      show S6.2.1 103 = _
      rw [s6, md_a2, if_pos rfl, s4, md_a2, if_neg (by omega), s2, md_a2, if_neg (by omega)]
    have q4 : S9.2.1 104 = upd (M.2.1 104) ((h + D) % 65536) (Int32.ofNat (n + 1)) := by
      have e : S7.2.1 104 = M.2.1 104 := by
        rw [s7]
        show S6.2.1 104 = _
        rw [s6, md_a2, if_neg (by omega), s4, md_a2, if_neg (by omega), s2, md_a2, if_neg (by omega)]
      rw [s9, md_a2, if_pos rfl, e]
    have q5 : S9.2.2 = M.2.2 := by rw [s9, s7, s6, s4, s2]; rfl
    have nz : ¬ Int32.ofNat (n + 1) = 0 := fun z => by
      have t : (Int32.ofNat (n + 1)).toInt = ((n + 1 : Nat) : Int) := Int32.toInt_ofNat_of_lt (by omega)
      rw [z, il_0] at t
      omega
    have mi : mxI S9 (n + 1) := by
      unfold mxI
      rw [q1, q2, q3, q4]
      refine ⟨⟨e9, by omega⟩, fun p hp => ?_, fun m hm h' hh' hl' => ?_, ?_, fun m m' hm hm' => ?_⟩
      · by_cases ep : p = (h + D) % 65536
        · rw [ep, upd_s]
          exact Or.inr ⟨n, by omega, rfl⟩
        · rw [upd_n ep]
          exact (h1 p hp).imp id (fun ⟨m, m1, m2⟩ => ⟨m, by omega, m2⟩)
      · by_cases em : m = n
        · subst em
          rw [upd_s, upd_s, upd_s, hh] at hh'
          have eh := ofN_j (by omega) (by omega) hh'
          rw [← eh]
          refine ⟨D, by rw [upd_s], fun k hk => ?_⟩
          by_cases ek : (h + k) % 65536 = (h + D) % 65536
          · rw [ek, upd_s]; exact nz
          · rw [upd_n ek]
            have : k < D := by
              apply Classical.byContradiction
              intro z
              have : k = D := by omega
              exact ek (by rw [this])
            exact D2 k this
        · rw [upd_n em, upd_n em, upd_n em] at hh'
          obtain ⟨d', g1, g2⟩ := h2 m (by omega) h' hh' hl'
          have ne : ∀ k, k ≤ d' → ¬ (h' + k) % 65536 = (h + D) % 65536 := fun k hk z => g2 k hk (by rw [z]; exact D1)
          refine ⟨d', by rw [upd_n (ne d' (Nat.le_refl _))]; exact g1, fun k hk => by rw [upd_n (ne k hk)]; exact g2 k hk⟩
      · have one := ctP_one (P := fun p => ¬ upd (M.2.1 104) ((h + D) % 65536) (Int32.ofNat (n + 1)) p = 0) (Q := fun p => ¬ M.2.1 104 p = 0) (m := (h + D) % 65536) (by show ¬ upd _ _ _ _ = 0; rw [upd_s]; exact nz) (fun k => by
          by_cases ek : k = (h + D) % 65536
          · rw [ek]
            exact ⟨fun z => absurd D1 z, fun z => absurd rfl z.2⟩
          · show ¬ M.2.1 104 k = 0 ↔ ¬ upd (M.2.1 104) ((h + D) % 65536) (Int32.ofNat (n + 1)) k = 0 ∧ ¬ k = (h + D) % 65536
            rw [upd_n ek]
            exact ⟨fun z => ⟨z, ek⟩, fun z => z.1⟩) 65536 pl
        omega
      · by_cases em : m = n
        · by_cases em' : m' = n
          · exact fun _ _ _ => by omega
          · rw [em, upd_s, upd_s, upd_s, upd_n em', upd_n em', upd_n em']
            exact fun z1 z2 z3 => absurd ⟨z1.symm, z2.symm, z3.symm⟩ (no m' (by omega))
        · by_cases em' : m' = n
          · rw [em', upd_s, upd_s, upd_s, upd_n em, upd_n em, upd_n em]
            exact fun z1 z2 z3 => absurd ⟨z1, z2, z3⟩ (no m (by omega))
          · rw [upd_n em, upd_n em, upd_n em, upd_n em', upd_n em', upd_n em']
            exact h4 m m' (by omega) (by omega)
    refine ⟨_, rfl, n, ?_, Or.inr ⟨rfl, no, mi, r1, rr, q1, q2, q3, q5⟩⟩
    show S9.1 106 - 1 = _
    rw [e9, ← ad_m (by omega), Int32.add_sub_cancel]
end MXR
