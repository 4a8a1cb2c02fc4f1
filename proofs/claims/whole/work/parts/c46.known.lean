/-! which token a text is: the class's search among Token's constants -/
theorem find_first {P : Nat → Bool} {n j : Nat} (hj : j < n) (h : P j = true) : ∃ j', j' < n ∧ (List.range n).find? P = some j' ∧ P j' = true := by
  cases hf : (List.range n).find? P with
  | none =>
    have := List.find?_eq_none.mp hf j (List.mem_range.mpr hj)
    rw [h] at this
    exact absurd rfl this
  | some j' => exact ⟨j', List.mem_range.mp (List.mem_of_find?_eq_some hf), rfl, by simpa using List.find?_some hf⟩
section KNOWN
variable {G : hg_E} {sz : Nat}
theorem tk_eq (hok : lw_ok G sz) {j : Nat} (hj : j < 33) : hg_tk G (some (G.2.1 j)) = some j := by
  obtain ⟨j', h1, h2, h3⟩ := find_first (P := fun i => decide (some (G.2.1 j) = some (G.2.1 i))) hj (by simp)
  have h4 : G.2.1 j = G.2.1 j' := by simpa using h3
  have h5 := hok.1 j j' hj h1 h4
  subst h5
  exact h2
theorem sk_eq (G : hg_E) (k : Nat) {j : Nat} (hj : j < 33) : ∃ j', j' < 33 ∧ hg_sk G k (some (G.2.2.2 (k + j))) = some j' ∧ G.2.2.2 (k + j) = G.2.2.2 (k + j') := by
  obtain ⟨j', h1, h2, h3⟩ := find_first (P := fun i => decide (some (G.2.2.2 (k + j)) = some (G.2.2.2 (k + i)))) hj (by simp)
  exact ⟨j', h1, h2, by simpa using h3⟩
theorem tx_same (hok : lw_ok G sz) {i j : Nat} (hi : i < 33) (hj : j < 33) (h : G.2.2.2 (10 + i) = G.2.2.2 (10 + j)) : hk_tx.getD i [] = hk_tx.getD j [] := hok.2.2.2.2.2.2 i j hi hj (hok.2.2.2.2.2.1 i j hi hj h)
theorem tx_coder {S : hg_S} {j : Nat} (hj : j < 33) : hm_ST_coder G S (G.2.2.2 (10 + j)) = some 0 := by
  obtain ⟨j', h1, h2, h3⟩ := sk_eq G 10 hj
  delta hm_ST_coder
  rw [if_neg (by decide), h2, Option.bind_some]
  rfl
theorem tx_len (hok : lw_ok G sz) {S : hg_S} {j : Nat} (hj : j < 33) : hm_ST_length G S (G.2.2.2 (10 + j)) = some (Int32.ofNat (hk_tx.getD j []).length) := by
  obtain ⟨j', h1, h2, h3⟩ := sk_eq G 10 hj
  obtain ⟨j2, g1, g2, g3⟩ := sk_eq G 50 h1
  delta hm_ST_length
  rw [h2, Option.bind_some, g2, Option.bind_some, Option.bind_some, tx_coder h1, Option.bind_some]
  have e : hk_tx.getD j2 [] = hk_tx.getD j [] := (hok.2.2.2.2.2.2 j' j2 h1 g1 g3).symm.trans (tx_same hok hj h1 h3).symm
  rw [e]
  have : ∀ x : Int32, x >>> ((0 : Int32) &&& 31) = x := by
    intro x
    rw [show ((0 : Int32) &&& 31) = 0 by decide, ← Int32.toBitVec_inj]
    simp
  rw [this]
set_option maxRecDepth 100000 in
theorem tx_ch : ∀ j, j < 33 → ∀ i, i < (hk_tx.getD j []).length → hg_nok .char (((Int32.toUInt32 ((hk_tx.getD j []).getD i 0 &&& 255) % 65536).toInt32)) = some () ∧ ((Int32.toUInt32 ((hk_tx.getD j []).getD i 0 &&& 255) % 65536).toInt32) = (hk_tx.getD j []).getD i 0 := by
  have h : ∀ j, j < 33 → ∀ i, i < (hk_tx.getD j []).length → narrow .char (.int (((Int32.toUInt32 ((hk_tx.getD j []).getD i 0 &&& 255) % 65536).toInt32))) = .int (((Int32.toUInt32 ((hk_tx.getD j []).getD i 0 &&& 255) % 65536).toInt32)) ∧ ((Int32.toUInt32 ((hk_tx.getD j []).getD i 0 &&& 255) % 65536).toInt32) = (hk_tx.getD j []).getD i 0 := by decide +kernel
  intro j hj i hi
  refine ⟨?_, (h j hj i hi).2⟩
  unfold hg_nok
  rw [if_pos (h j hj i hi).1]
theorem tx_at (hok : lw_ok G sz) {S : hg_S} {j : Nat} (hj : j < 33) {x : Int32} (h0 : 0 ≤ x.toInt) (h1 : x.toInt < ((hk_tx.getD j []).length : Int)) : hm_ST_charAt G S (G.2.2.2 (10 + j)) x = some ((hk_tx.getD j []).getD x.toInt.toNat 0) := by
  obtain ⟨j', a1, a2, a3⟩ := sk_eq G 10 hj
  obtain ⟨j2, b1, b2, b3⟩ := sk_eq G 10 a1
  obtain ⟨j3, c1, c2, c3⟩ := sk_eq G 50 a1
  have e : hk_tx.getD j3 [] = hk_tx.getD j [] := (hok.2.2.2.2.2.2 j' j3 a1 c1 c3).symm.trans (tx_same hok hj a1 a3).symm
  have hl := hk_tx_lt j hj
  have la : hm_ST_isLatin1 G S (G.2.2.2 (10 + j')) = some 1 := by
    delta hm_ST_isLatin1
    rw [if_neg (by decide), b2, Option.bind_some, if_pos rfl]
    rfl
  have ci : hm_ST_checkIndex G S x (Int32.ofNat (hk_tx.getD j []).length) = some () := by
    delta hm_ST_checkIndex hm_PC_checkIndex
    rw [if_neg (by rw [i_lt, il_0]; omega), if_pos (by rw [i_lt, Int32.toInt_ofNat_of_lt hl]; exact h1)]
    rfl
  have sc : hm_SL_charAt G S (some (G.2.2.2 (50 + j'))) x = some ((hk_tx.getD j []).getD x.toInt.toNat 0) := by
    delta hm_SL_charAt
    rw [c2, Option.bind_some, Option.bind_some, e, ci, Option.bind_some]
    have cs : hg_cst (hk_tx.getD j []) x = some ((hk_tx.getD j []).getD x.toInt.toNat 0) := by
      unfold hg_cst
      rw [vq_ix h0 h1]
      rfl
    rw [cs, Option.bind_some]
    have t := tx_ch j hj x.toInt.toNat (by omega)
    rw [t.1, Option.bind_some, t.2]
  delta hm_ST_charAt
  rw [a2, Option.bind_some, la, Option.bind_some, if_neg (by decide), Option.bind_some, sc, Option.bind_some]
  have t := tx_ch j hj x.toInt.toNat (by omega)
  rw [t.2] at t
  rw [t.1]
  rfl
/-- the text from p to q is t -/
def sl (f : Nat → Int32) (p q : Nat) (t : List Int32) : Prop := p + t.length = q ∧ ∀ i, i < t.length → t.getD i 0 = f (p + i)
theorem kn_in (hok : lw_ok G sz) {S : hg_S} {o tx n : Nat} {f : Nat → Int32} {tk : Option Nat} {fr to ln fa : Int32} (h : lxv G S o tx n f tk fr to ln fa) (h0 : 0 ≤ fr.toInt) (h1 : fr.toInt ≤ to.toInt) (h2 : to.toInt ≤ (n : Int)) (hn : n ≤ 100000) {x1 : Option Nat} {x2 : Int32} {j : Nat} (hj : j < 33) : dc_wp (hm_LX_known_L22 G S o x1 x2 (some (G.2.2.2 (10 + j))) 0) (fun z => (sl f fr.toInt.toNat to.toInt.toNat (hk_tx.getD j []) ∧ z = .inr (.inl x2)) ∨ (¬ sl f fr.toInt.toNat to.toInt.toNat (hk_tx.getD j []) ∧ z = .inl (x2 + 1))) := by
  obtain ⟨j', a1, a2, a3⟩ := sk_eq G 10 hj
  have et : hk_tx.getD j' [] = hk_tx.getD j [] := (tx_same hok hj a1 a3).symm
  have hl := hk_tx_lt j hj
  have lnj : (Int32.ofNat (hk_tx.getD j []).length).toInt = ((hk_tx.getD j []).length : Int) := Int32.toInt_ofNat_of_lt hl
  have hlen : (hk_tx.getD j []).length ≤ 7 := by
    have : ∀ j, j < 33 → (hk_tx.getD j []).length ≤ 7 := by decide +kernel
    exact this j hj
  delta hm_LX_known_L22
  refine wq_call (P := fun x : Int32 => 0 ≤ x.toInt ∧ x.toInt ≤ ((hk_tx.getD j []).length : Int) ∧ fr.toInt + x.toInt ≤ to.toInt ∧ (∀ i, i < x.toInt.toNat → (hk_tx.getD j []).getD i 0 = f (fr.toInt.toNat + i)) ∧ (x.toInt = ((hk_tx.getD j []).length : Int) ∨ fr.toInt + x.toInt = to.toInt ∨ ¬ (hk_tx.getD j []).getD x.toInt.toNat 0 = f (fr.toInt.toNat + x.toInt.toNat))) ?_ ?_
  · refine dc_itK (fun k (x : Int32) => 0 ≤ x.toInt ∧ x.toInt ≤ ((hk_tx.getD j []).length : Int) ∧ fr.toInt + x.toInt ≤ to.toInt ∧ (∀ i, i < x.toInt.toNat → (hk_tx.getD j []).getD i 0 = f (fr.toInt.toNat + i)) ∧ k = 8 - x.toInt.toNat) ?_ 8 0 ⟨by decide, by rw [il_0]; omega, by rw [il_0]; omega, fun i hi => by rw [il_0] at hi; omega, by rw [il_0]; rfl⟩
    rintro k x ⟨b0, b1, b2, b3, hk⟩
    show dc_wp (hm_LX_known_b22 G S o x1 x2 (some (G.2.2.2 (10 + j))) x) _
    delta hm_LX_known_b22
    rw [a2, Option.bind_some, tx_len hok a1, Option.bind_some, et]
    have ax : (fr + x).toInt = fr.toInt + x.toInt := by rw [i_addS (by omega)]
    have a1x : (x + 1).toInt = x.toInt + 1 := by rw [i_addS (by rw [il_1]; omega), il_1]
    refine wq_if (fun c1 => ?_) (fun c1 => ?_)
    · have c2 := i_lt.mp c1
      rw [lnj] at c2
      refine wq_gi (x := fr) h.1 rfl ?_
      refine wq_gi (x := to) h.1 rfl ?_
      refine wq_if (fun c3 => ?_) (fun c3 => ?_)
      · have c4 := i_lt.mp c3
        rw [ax] at c4
        rw [Option.bind_some, tx_at hok a1 b0 (by rw [et]; exact c2), Option.bind_some, et]
        refine wq_gr (x := some tx) h.1 rfl ?_
        refine wq_gi (x := fr) h.1 rfl ?_
        refine wq_ld h.2.1 (by omega) (by omega) ?_
        rw [ax, show (fr.toInt + x.toInt).toNat = fr.toInt.toNat + x.toInt.toNat by omega]
        refine wq_if (fun c5 => ?_) (fun c5 => ?_)
        · refine ⟨_, rfl, 8 - (x + 1).toInt.toNat, by omega, by omega, by omega, by omega, fun i hi => ?_, rfl⟩
          by_cases c6 : i = x.toInt.toNat
          · rw [c6]; exact c5
          · exact b3 i (by omega)
        · exact ⟨_, rfl, b0, b1, b2, b3, Or.inr (Or.inr c5)⟩
      · have c4 : ¬ (fr + x).toInt < to.toInt := fun z => c3 (i_lt.mpr z)
        rw [ax] at c4
        exact ⟨_, rfl, b0, b1, b2, b3, Or.inr (Or.inl (by omega))⟩
    · have c2 : ¬ x.toInt < (Int32.ofNat (hk_tx.getD j []).length).toInt := fun z => c1 (i_lt.mpr z)
      rw [lnj] at c2
      exact ⟨_, rfl, b0, b1, b2, b3, Or.inl (by omega)⟩
  · rintro x ⟨b0, b1, b2, b3, b4⟩
    have ax : (fr + x).toInt = fr.toInt + x.toInt := by rw [i_addS (by omega)]
    delta hm_LX_known_L72
    rw [a2, Option.bind_some, tx_len hok a1, Option.bind_some, et]
    refine wq_if (fun c1 => ?_) (fun c1 => ?_)
    · have c2 := i_eq.mp c1
      rw [lnj] at c2
      refine wq_gi (x := fr) h.1 rfl ?_
      refine wq_gi (x := to) h.1 rfl ?_
      refine wq_if (fun c3 => ?_) (fun c3 => ?_)
      · have c4 := i_eq.mp c3
        rw [ax] at c4
        exact ⟨_, rfl, Or.inl ⟨⟨by omega, fun i hi => b3 i (by omega)⟩, rfl⟩⟩
      · have c4 : ¬ (fr + x).toInt = to.toInt := fun z => c3 (i_eq.mpr z)
        rw [ax] at c4
        exact ⟨_, rfl, Or.inr ⟨fun z => by have := z.1; omega, rfl⟩⟩
    · have c2 : ¬ x.toInt = (Int32.ofNat (hk_tx.getD j []).length).toInt := fun z => c1 (i_eq.mpr z)
      rw [lnj] at c2
      refine ⟨_, rfl, Or.inr ⟨fun z => ?_, rfl⟩⟩
      have z1 := z.1
      rcases b4 with b4 | b4 | b4
      · exact c2 b4
      · omega
      · exact b4 (z.2 x.toInt.toNat (by omega))
theorem kn_w (hok : lw_ok G sz) {S : hg_S} {o tx n : Nat} {f : Nat → Int32} {tk : Option Nat} {fr to ln fa : Int32} (h : lxv G S o tx n f tk fr to ln fa) (h0 : 0 ≤ fr.toInt) (h1 : fr.toInt ≤ to.toInt) (h2 : to.toInt ≤ (n : Int)) (hn : n ≤ 100000) {other : Option Nat} : dc_wp (hm_LX_known G S o other) (fun r => (∃ j, j < 33 ∧ sl f fr.toInt.toNat to.toInt.toNat (hk_tx.getD j []) ∧ (∀ i, i < j → ¬ sl f fr.toInt.toNat to.toInt.toNat (hk_tx.getD i [])) ∧ r = some (G.2.1 j)) ∨ ((∀ j, j < 33 → ¬ sl f fr.toInt.toNat to.toInt.toNat (hk_tx.getD j [])) ∧ r = other)) := by
  have ti : ∀ k : Nat, k ≤ 100000 → (Int32.ofNat k).toInt = (k : Int) := fun k hk => Int32.toInt_ofNat_of_lt (by omega)
  delta hm_LX_known hm_LX_known_L2
  refine wq_call (P := Sum.elim (fun x : Int32 => ∃ j, j < 33 ∧ x = Int32.ofNat j ∧ sl f fr.toInt.toNat to.toInt.toNat (hk_tx.getD j []) ∧ ∀ i, i < j → ¬ sl f fr.toInt.toNat to.toInt.toNat (hk_tx.getD i [])) (fun _ : Unit => ∀ j, j < 33 → ¬ sl f fr.toInt.toNat to.toInt.toNat (hk_tx.getD j []))) ?_ ?_
  · refine dc_itK (fun k (x : Int32) => ∃ j, j ≤ 33 ∧ x = Int32.ofNat j ∧ k = 33 - j ∧ ∀ i, i < j → ¬ sl f fr.toInt.toNat to.toInt.toNat (hk_tx.getD i [])) ?_ 33 0 ⟨0, by omega, rfl, rfl, fun i hi => by omega⟩
    rintro k x ⟨j, b1, rfl, hk, b2⟩
    show dc_wp (hm_LX_known_b2 G S o other (Int32.ofNat j)) _
    delta hm_LX_known_b2
    have tj := ti j (by omega)
    have e33 : (33 : Int32).toInt = 33 := by decide
    refine wq_if (fun c1 => ?_) (fun c1 => ?_)
    · have c2 := i_lt.mp c1
      rw [tj, e33] at c2
      refine wq_ix (by omega) (by omega) ?_
      rw [tj, show (j : Int).toNat = j by omega, tk_eq hok (by omega), Option.bind_some]
      refine wq_let (fun v hv => ?_)
      subst hv
      obtain ⟨z, e, hz⟩ := kn_in hok h h0 h1 h2 hn (x1 := other) (x2 := Int32.ofNat j) (show j < 33 by omega)
      refine ⟨z, e, ?_⟩
      rcases hz with ⟨z1, rfl⟩ | ⟨z1, rfl⟩
      · exact ⟨j, by omega, rfl, z1, b2⟩
      · refine ⟨33 - (j + 1), by omega, j + 1, by omega, ?_, rfl, fun i hi => ?_⟩
        · rw [i_eq, i_addS (by rw [tj, il_1]; omega), tj, il_1, ti (j + 1) (by omega)]
          omega
        · by_cases c3 : i = j
          · rw [c3]; exact z1
          · exact b2 i (by omega)
    · have c2 : ¬ (Int32.ofNat j).toInt < (33 : Int32).toInt := fun z => c1 (i_lt.mpr z)
      rw [tj, e33] at c2
      exact ⟨_, rfl, fun i hi => b2 i (by omega)⟩
  · rintro (x | u) hx
    · obtain ⟨j, b1, rfl, b2, b3⟩ := hx
      show dc_wp (hm_LX_known_L95 G S o (Int32.ofNat j)) _
      delta hm_LX_known_L95
      have tj := ti j (by omega)
      refine wq_ix (by omega) (by omega) ?_
      rw [tj, show (j : Int).toNat = j by omega]
      exact ⟨_, rfl, Or.inl ⟨j, b1, b2, b3, rfl⟩⟩
    · exact ⟨_, rfl, Or.inr ⟨hx, rfl⟩⟩
end KNOWN
