/-! a list of names: takeNames beside list -/
/-- the list under way: names from st on stand in scope from low on -/
def LR (st low names scopes : Int32) (ss : Nat → Int32) : Prop := (0 ≤ low.toInt ∧ 0 ≤ st.toInt ∧ low.toInt ≤ scopes.toInt ∧ scopes.toInt - low.toInt = names.toInt - st.toInt) ∧ ∀ k, low.toInt.toNat ≤ k → k < scopes.toInt.toNat → (ss k).toInt = st.toInt + ((k : Int) - low.toInt)
theorem eqs_congr {f g : Nat → Int32} {n : Nat} (h : ∀ i, i < n → f i = g i) {a la b lb : Int32} (a0 : 0 ≤ a.toInt) (l0 : 0 ≤ la.toInt) (a1 : a.toInt + la.toInt ≤ (n : Int)) (b0 : 0 ≤ b.toInt) (b1 : b.toInt + lb.toInt ≤ (n : Int)) : eqs f a la b lb ↔ eqs g a la b lb := by
  constructor
  · rintro ⟨e, z⟩
    subst e
    refine ⟨rfl, fun i hi => ?_⟩
    rw [← h _ (by omega), ← h _ (by omega)]
    exact z i hi
  · rintro ⟨e, z⟩
    subst e
    refine ⟨rfl, fun i hi => ?_⟩
    rw [h _ (by omega), h _ (by omega)]
    exact z i hi
theorem pcW.mono {a b : Int32} {kk ff ss xx : Nat → Int32} {m : Nat} (h : pcW a kk ff ss xx m) (hab : a.toInt ≤ b.toInt) : pcW b kk ff ss xx m := by
  intro k hk
  obtain ⟨h1, h2⟩ := h k hk
  refine ⟨h1, ?_⟩
  rcases h2 with ⟨x1, x2, x3, x4, x5⟩ | x | x
  · exact Or.inl ⟨x1, x2, x3, x4, by omega⟩
  · exact Or.inr (Or.inl x)
  · exact Or.inr (Or.inr x)
/-- one name more in the reference -/
noncomputable def mBs (M : md_S) : md_S := md_i (md_i (md_a (md_a (md_a M 21 (M.1 15).toInt.toNat (M.1 7)) 22 (M.1 15).toInt.toNat (M.1 4 - M.1 7)) 23 (M.1 18).toInt.toNat (M.1 15)) 18 (M.1 18 + 1)) 15 (M.1 15 + 1)
theorem upd_s {g : Nat → Int32} {i : Nat} {v : Int32} : upd g i v i = v := if_pos rfl
theorem upd_n {g : Nat → Int32} {i k : Nat} {v : Int32} (h : ¬ k = i) : upd g i v k = g k := if_neg h
section NML
variable {G : hg_E} {sz t0 : Nat} {H0 : Nat → Option va_E} {K1 K2 n : Nat} {f : Nat → Int32} {S S' : hg_S} {A C : Nat → Nat} {B : Nat → Nat → Int32} {Q : Nat → Int32} {j : Nat} {el : Nat → Option Nat} {P : Nat → Nat} {ND : Nat → ndT} {M M' : md_S} {b u w : Int}
theorem RM_bs (r : RM M C B n f Q j b u w) (hb : b ≤ (M.1 7).toInt) (hj : j = 31) (h2 : 2 * (M.1 15).toInt ≤ (M.1 7).toInt) {c : Nat} {xf xe xs : Nat → Int32} (g5 : (Q 7).toInt < (c : Int)) (g6 : c = C 0 ∨ (c = 2 * C 0 ∧ (Q 7).toInt = (C 0 : Int))) (g7 : ∀ i, i < (Q 7).toInt.toNat → xf i = B 0 i ∧ xe i = B 1 i) (g8 : xf (Q 7).toInt.toNat = Q 3) (g9 : xe (Q 7).toInt.toNat = Q 4 - Q 3) (g10 : ∀ i, i < (Q 8).toInt.toNat → xs i = B 2 i) (g11 : xs (Q 8).toInt.toNat = Q 7) : RM (mBs M) (c1 C 0 c) (b3 B 0 xf xe xs) n f (q1 (q1 Q 7 (Q 7 + 1)) 8 (Q 8 + 1)) j (M.1 4).toInt u w := by
  obtain ⟨r1, ⟨r2, r3, r4⟩, ⟨q3, q4', q5, q6⟩, r5, ⟨⟨p1, p2, p3⟩, p4⟩, ⟨⟨q7, q8⟩, ⟨n1, n2, n3⟩, n4, n5⟩, tr, op, ⟨pi1, pi2, pi3⟩, ⟨⟨b1, b2, b3'⟩, bb⟩, ⟨c1', c2'⟩, c3⟩ := r
  rw [q7] at g5 g6 g7 g8 g9 g11
  rw [q8] at g10 g11
  have hn := r1.1.2.1
  have t1 : tln 31 = 1 := rfl
  rw [hj, t1] at r4
  have hn' : (n : Int) ≤ 32768 := by have := r1.1; omega
  have e15 : (M.1 15 + 1).toInt = (M.1 15).toInt + 1 := by rw [i_addS (by rw [il_1]; omega), il_1]
  have e18 : (M.1 18 + 1).toInt = (M.1 18).toInt + 1 := by rw [i_addS (by rw [il_1]; omega), il_1]
  have ed : (M.1 4 - M.1 7).toInt = (M.1 4).toInt - (M.1 7).toInt := i_subS (by omega)
  have tn : (M.1 15 + 1).toInt.toNat = (M.1 15).toInt.toNat + 1 := by omega
  have tn8 : (M.1 18 + 1).toInt.toNat = (M.1 18).toInt.toNat + 1 := by omega
  refine ⟨r1, ⟨r2, r3, by rw [hj, t1]; exact r4⟩, ⟨q3, q4', q5, q6⟩, r5, ⟨⟨p1, p2, p3⟩, p4⟩, ⟨⟨congrArg (· + 1) q7, congrArg (· + 1) q8⟩, ?_⟩, tr, op, ?_, ?_, ?_, c3⟩
  · show nmR (M.1 15 + 1) (M.1 18 + 1) (upd (M.2.1 21) (M.1 15).toInt.toNat (M.1 7)) (upd (M.2.1 22) (M.1 15).toInt.toNat (M.1 4 - M.1 7)) (upd (M.2.1 23) (M.1 18).toInt.toNat (M.1 15)) n c xf xe xs
    refine ⟨⟨by omega, by omega, by omega⟩, ?_, ?_⟩
    · intro k hk
      rw [tn] at hk
      by_cases e : k = (M.1 15).toInt.toNat
      · rw [e, upd_s, upd_s, g8, g9, q3, q4']
        exact ⟨⟨rfl, rfl⟩, by omega, by omega, by omega⟩
      · rw [upd_n e, upd_n e, (g7 k (by omega)).1, (g7 k (by omega)).2]
        exact n4 k (by omega)
    · intro k hk
      rw [tn8] at hk
      by_cases e : k = (M.1 18).toInt.toNat
      · rw [e, upd_s, g11]
        exact ⟨rfl, by omega, by omega⟩
      · rw [upd_n e, g10 k (by omega)]
        obtain ⟨z1, z2, z3⟩ := n5 k (by omega)
        exact ⟨z1, z2, by omega⟩
  · show piR (M.1 12) (M.1 28) (Q 11) (M.1 15 + 1) (M.2.1 36) (M.2.1 37) (M.2.1 38) (C 2) (B 6) (B 7) (B 8) (B 9)
    exact ⟨pi1, pi2.mono (by omega), pi3⟩
  · show ((M.1 4).toInt ≤ (M.1 4).toInt ∧ 2 * (M.1 15 + 1).toInt ≤ (M.1 4).toInt + 1 ∧ (Q 9).toInt ≤ (M.1 4).toInt) ∧ _
    exact ⟨⟨by omega, by omega, by omega⟩, bb⟩
  · show 4 ≤ c ∧ (c : Int) ≤ 2 * (M.1 15 + 1).toInt + 4
    omega
end NML
