/-! a piece more on both sides -/
def pRow (names : Int32) (xx : Nat → Int32) (m : Nat) (k p s : Int32) : Prop :=
  (k = 0 ∧ s = -1 ∧ 0 ≤ p.toInt ∧ p.toInt < names.toInt) ∨ (k = 1 ∧ s = -1 ∧ 1 ≤ m ∧ p.toInt = (m : Int) - 1) ∨ ((k = 2 ∨ k = 3) ∧ 2 ≤ m ∧ s.toInt = (m : Int) - 1 ∧ p.toInt = (m : Int) - 1 - (xx (m - 1)).toInt ∧ 0 ≤ p.toInt)
theorem pcW_add {names : Int32} {kk ff ss xx k' f' s' x' : Nat → Int32} {m : Nat} {k p s : Int32} (h : pcW names kk ff ss xx m) (hm : m ≤ 100000) (hr : pRow names xx m k p s) (e1 : ∀ i, i < m → k' i = kk i ∧ f' i = ff i ∧ s' i = ss i ∧ x' i = xx i) (e2 : k' m = k ∧ f' m = p ∧ s' m = s ∧ x' m = pxx xx k p s) : pcW names k' f' s' x' (m + 1) ∧ (k = 0 → (x' m).toInt = 1) ∧ (k = 1 → (x' m).toInt = 1 + (xx (m - 1)).toInt) ∧ ((k = 2 ∨ k = 3) → (x' m).toInt = 1 + (xx p.toInt.toNat).toInt + (xx (m - 1)).toInt) := by
  obtain ⟨a1, a2, a3, a4⟩ := e2
  have val : ((k = 0 ∧ s = -1 ∧ 0 ≤ p.toInt ∧ p.toInt < names.toInt) ∧ (x' m).toInt = 1) ∨ ((k = 1 ∧ s = -1 ∧ 1 ≤ m ∧ p.toInt = (m : Int) - 1) ∧ (x' m).toInt = 1 + (xx (m - 1)).toInt ∧ 1 ≤ (xx (m - 1)).toInt ∧ (xx (m - 1)).toInt ≤ (m : Int)) ∨ (((k = 2 ∨ k = 3) ∧ 2 ≤ m ∧ s.toInt = (m : Int) - 1 ∧ p.toInt = (m : Int) - 1 - (xx (m - 1)).toInt ∧ 0 ≤ p.toInt) ∧ (x' m).toInt = 1 + (xx p.toInt.toNat).toInt + (xx (m - 1)).toInt ∧ (1 ≤ (xx (m - 1)).toInt ∧ (xx (m - 1)).toInt ≤ (m : Int)) ∧ 1 ≤ (xx p.toInt.toNat).toInt ∧ (xx p.toInt.toNat).toInt ≤ p.toInt + 1) := by
    rw [a4]
    unfold pxx
    rcases hr with ⟨c1, c2, c3⟩ | ⟨c1, c2, c3, c4⟩ | ⟨c1, c2, c3, c4, c5⟩
    · left
      refine ⟨⟨c1, c2, c3⟩, ?_⟩
      rw [if_pos c1, if_pos c2]
      decide
    · right; left
      have b := (h (m - 1) (by omega)).1
      refine ⟨⟨c1, c2, c3, c4⟩, ?_, by omega, by omega⟩
      have pe : p.toInt.toNat = m - 1 := by omega
      rw [if_neg (by rw [c1]; decide), if_pos c2, pe, Int32.add_zero, i_addS (by rw [il_1]; omega), il_1]
    · right; right
      have b := (h (m - 1) (by omega)).1
      have bp := (h p.toInt.toNat (by omega)).1
      have se : s.toInt.toNat = m - 1 := by omega
      have sn : ¬ s = -1 := fun z => by rw [z] at c3; have : (-1 : Int32).toInt = -1 := by decide
                                        omega
      have kn : ¬ k = 0 := by rcases c1 with c1 | c1 <;> rw [c1] <;> decide
      refine ⟨⟨c1, c2, c3, c4, c5⟩, ?_, ⟨by omega, by omega⟩, by omega, by omega⟩
      have e3 : (1 + xx p.toInt.toNat).toInt = 1 + (xx p.toInt.toNat).toInt := by rw [i_addS (by rw [il_1]; omega), il_1]
      rw [if_neg kn, if_neg sn, se, i_addS (by rw [e3]; omega), e3]
  refine ⟨?_, ?_, ?_, ?_⟩
  · intro i hi
    by_cases ei : i = m
    · subst ei
      rw [a1, a2, a3]
      rcases val with ⟨⟨c1, c2, c3, c4⟩, v⟩ | ⟨⟨c1, c2, c3, c4⟩, v, v1, v2⟩ | ⟨⟨c1, c2, c3, c4, c5⟩, v, ⟨v1, v2⟩, v3, v4⟩
      · exact ⟨⟨by omega, by omega⟩, Or.inl ⟨c1, c2, v, c3, c4⟩⟩
      · have := (e1 (i - 1) (by omega)).2.2.2
        exact ⟨⟨by omega, by omega⟩, Or.inr (Or.inl ⟨c1, c2, c3, c4, by rw [this]; exact v⟩)⟩
      · have g1 := (e1 (i - 1) (by omega)).2.2.2
        have g2 := (e1 p.toInt.toNat (by omega)).2.2.2
        exact ⟨⟨by omega, by omega⟩, Or.inr (Or.inr ⟨c1, c2, c3, by rw [g1]; exact c4, c5, by rw [g1, g2]; exact v⟩)⟩
    · obtain ⟨x1, x2, x3, x4⟩ := e1 i (by omega)
      obtain ⟨b, c⟩ := h i (by omega)
      rw [x1, x2, x3, x4]
      refine ⟨b, ?_⟩
      rcases c with c | ⟨c1, c2, c3, c4, c5⟩ | ⟨c1, c2, c3, c4, c5, c6⟩
      · exact Or.inl c
      · rw [(e1 (i - 1) (by omega)).2.2.2]
        exact Or.inr (Or.inl ⟨c1, c2, c3, c4, c5⟩)
      · have bi := (h (i - 1) (by omega)).1
        rw [(e1 (i - 1) (by omega)).2.2.2, (e1 (ff i).toInt.toNat (by omega)).2.2.2]
        exact Or.inr (Or.inr ⟨c1, c2, c3, c4, c5, c6⟩)
  · intro z
    rcases val with ⟨-, v⟩ | ⟨⟨c1, -⟩, -⟩ | ⟨⟨c1, -⟩, -⟩
    · exact v
    · rw [z] at c1; exact absurd c1 (by decide)
    · rw [z] at c1; rcases c1 with c1 | c1 <;> exact absurd c1 (by decide)
  · intro z
    rcases val with ⟨⟨c1, -⟩, -⟩ | ⟨-, v, -⟩ | ⟨⟨c1, -⟩, -⟩
    · rw [z] at c1; exact absurd c1 (by decide)
    · exact v
    · rw [z] at c1; rcases c1 with c1 | c1 <;> exact absurd c1 (by decide)
  · intro z
    rcases val with ⟨⟨c1, -⟩, -⟩ | ⟨⟨c1, -⟩, -⟩ | ⟨-, v, -⟩
    · rw [c1] at z; rcases z with z | z <;> exact absurd z (by decide)
    · rw [c1] at z; rcases z with z | z <;> exact absurd z (by decide)
    · exact v
section PCL
variable {G : hg_E} {sz t0 : Nat} {H0 : Nat → Option va_E} {K1 K2 n : Nat} {f : Nat → Int32} {S S' : hg_S} {A C : Nat → Nat} {B : Nat → Nat → Int32} {Q : Nat → Int32} {j : Nat} {el : Nat → Option Nat} {P : Nat → Nat} {ND : Nat → ndT} {M M' : md_S} {b u w w' : Int}
/-- class alone -/
theorem PV_pc (h : PV G t0 H0 K1 K2 n f S A C B Q j el P ND) (m0 : 0 ≤ (Q 11).toInt) (m1 : (Q 11).toInt ≤ (C 2 : Int)) (hcap : C 2 ≤ 100000) {k p s : Int32} (hp : ¬ k = 0 → 0 ≤ p.toInt ∧ p.toInt < (Q 11).toInt) (hs : ¬ s = -1 → 0 ≤ s.toInt ∧ s.toInt < (Q 11).toInt) (hc : 5 ≤ S.2.2.1) (hsl : 10 * C 2 + 20 ≤ S.2.2.2) : dc_wp (hm_PI_add G S (A 6) k p s) (fun q => q.2 = Q 11 ∧ ∃ A' C' B', PV G t0 H0 K1 K2 n f q.1 A' C' B' (q1 Q 11 (Q 11 + 1)) j el P ND ∧ ((∀ k, ¬ (14 ≤ k ∧ k ≤ 18) → A' k = A k) ∧ (∀ k, ¬ k = 2 → C' k = C k) ∧ (∀ k, ¬ (6 ≤ k ∧ k ≤ 10) → B' k = B k)) ∧ ((Q 11).toInt < (C' 2 : Int) ∧ C 2 ≤ C' 2 ∧ (C' 2 = C 2 ∨ (C' 2 : Int) = 2 * (Q 11).toInt + 4)) ∧ (∀ i, i < (Q 11).toInt.toNat → B' 6 i = B 6 i ∧ B' 7 i = B 7 i ∧ B' 8 i = B 8 i ∧ B' 9 i = B 9 i) ∧ B' 6 (Q 11).toInt.toNat = k ∧ B' 7 (Q 11).toInt.toNat = p ∧ B' 8 (Q 11).toInt.toNat = s ∧ B' 9 (Q 11).toInt.toNat = pxx (B 9) k p s) := by
  have aN : (Int32.ofNat (C 2)).toInt = (C 2 : Int) := Int32.toInt_ofNat_of_lt (by omega)
  delta hm_PI_add
  refine wq_gi (x := Q 11) h.pi.1 rfl ?_
  refine wq_gr (x := some (A 14)) h.pi.1 rfl ?_
  refine wq_ln h.pi.2.1 ?_
  refine wq_if (fun c => ?_) (fun c => ?_)
  · have c2 := i_eq.mp c
    rw [aN] at c2
    have d1 : (2 * Q 11).toInt = 2 * (Q 11).toInt := by rw [i_mulS (by rw [il_2]; omega), il_2]
    have d2 : (2 * Q 11 + 4).toInt = ((2 * C 2 + 4 : Nat) : Int) := by rw [i_addS (by rw [d1, il_4]; omega), d1, il_4]; omega
    refine wq_gi (x := Q 11) h.pi.1 rfl ?_
    refine wq_chk h.pi.1 ?_
    refine wq_call (PV_pw h d2 (by omega) (by omega) (by omega) hc (by omega)) ?_
    rintro T ⟨g0, g1, g2, g3, g4, v, ge⟩
    refine dc_mono (PV_ps v m0 (by show (Q 11).toInt < ((2 * C 2 + 4 : Nat) : Int); omega) (by show 2 * C 2 + 4 ≤ 1000000; omega) hp hs) ?_
    rintro q ⟨q2, x', v2, x1, x2⟩
    refine ⟨q2, _, _, _, v2, ⟨fun k d => aF_n d, fun k d => if_neg d, fun k d => by rw [b5_n d, b5_n d]⟩, ?_, ?_, ?_, ?_, ?_, ?_⟩
    · show (Q 11).toInt < ((2 * C 2 + 4 : Nat) : Int) ∧ C 2 ≤ 2 * C 2 + 4 ∧ (2 * C 2 + 4 = C 2 ∨ ((2 * C 2 + 4 : Nat) : Int) = 2 * (Q 11).toInt + 4)
      omega
    · intro i hi
      obtain ⟨y0, y1, y2, y3⟩ := ge i (by omega)
      show upd g0 (Q 11).toInt.toNat k i = B 6 i ∧ upd g1 (Q 11).toInt.toNat p i = B 7 i ∧ upd g2 (Q 11).toInt.toNat s i = B 8 i ∧ x' i = B 9 i
      rw [upd_n (by omega), upd_n (by omega), upd_n (by omega), x2 i (by omega)]
      exact ⟨y0, y1, y2, y3⟩
    · exact upd_s
    · exact upd_s
    · exact upd_s
    · show x' (Q 11).toInt.toNat = _
      rw [x1]
      show pxx g3 k p s = pxx (B 9) k p s
      unfold pxx
      by_cases hk : k = 0 <;> by_cases hs' : s = -1
      · rw [if_pos hk, if_pos hs', if_pos hk, if_pos hs']
      · rw [if_pos hk, if_neg hs', if_pos hk, if_neg hs', (ge s.toInt.toNat (by have := hs hs'; omega)).2.2.2]
      · rw [if_neg hk, if_pos hs', if_neg hk, if_pos hs', (ge p.toInt.toNat (by have := hp hk; omega)).2.2.2]
      · rw [if_neg hk, if_neg hs', if_neg hk, if_neg hs', (ge s.toInt.toNat (by have := hs hs'; omega)).2.2.2, (ge p.toInt.toNat (by have := hp hk; omega)).2.2.2]
  · have c2 : ¬ (Q 11).toInt = (C 2 : Int) := fun z => c (i_eq.mpr (z.trans aN.symm))
    refine dc_mono (PV_ps h m0 (by omega) (by omega) hp hs) ?_
    rintro q ⟨q2, x', v2, x1, x2⟩
    refine ⟨q2, _, _, _, v2, ⟨fun k d => rfl, fun k d => rfl, fun k d => b5_n d⟩, ⟨by omega, by omega, Or.inl rfl⟩, ?_, upd_s, upd_s, upd_s, x1⟩
    intro i hi
    show upd (B 6) (Q 11).toInt.toNat k i = B 6 i ∧ upd (B 7) (Q 11).toInt.toNat p i = B 7 i ∧ upd (B 8) (Q 11).toInt.toNat s i = B 8 i ∧ x' i = B 9 i
    rw [upd_n (by omega), upd_n (by omega), upd_n (by omega), x2 i (by omega)]
    exact ⟨rfl, rfl, rfl, rfl⟩
end PCL
