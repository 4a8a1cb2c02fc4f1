/-! a piece more: parser and reader in step -/
section PCB
variable {G : hg_E} {sz t0 : Nat} {H0 : Nat → Option va_E} {K1 K2 n : Nat} {f : Nat → Int32} {S S' : hg_S} {A C : Nat → Nat} {B : Nat → Nat → Int32} {Q : Nat → Int32} {j : Nat} {el : Nat → Option Nat} {P : Nat → Nat} {ND : Nat → ndT} {M M' : md_S} {b u w w' : Int}
theorem pc_l (h : PV G t0 H0 K1 K2 n f S A C B Q j el P ND) (r : RM M C B n f Q j b u w) (hK : 40 * n + 70 ≤ K1 ∧ 200 * n + 400 ≤ K2) {k p s p' s' : Int32} (hg : M.1 12 = 0 → p' = p ∧ s' = s) (hrow : pRow (M.1 15) (B 9) (Q 11).toInt.toNat k p s) (hsv : k = 0 → sV B M p) (hw1 : (Q 11).toInt + 1 ≤ w') (hw2 : w' ≤ (M.1 7).toInt) {q : md_S × Int32} (hq : mm_piece_III M k p' s' = some q) : dc_wp (hm_PI_add G S (A 6) k p s) (fun z => z.2 = Q 11 ∧ (q.1.1 12 = 0 → q.2 = Q 11) ∧ ∃ A' C' B', PV G t0 H0 K1 K2 n f z.1 A' C' B' (q1 Q 11 (Q 11 + 1)) j el P ND ∧ RM q.1 C' B' n f (q1 Q 11 (Q 11 + 1)) j b u w' ∧ evT A C B Q M A' C' B' (q1 Q 11 (Q 11 + 1)) q.1 ∧ (Q 11 + 1).toInt = (Q 11).toInt + 1 ∧ (k = 0 → (B' 9 (Q 11).toInt.toNat).toInt = 1) ∧ (k = 1 → (B' 9 (Q 11).toInt.toNat).toInt = 1 + (B 9 ((Q 11).toInt.toNat - 1)).toInt) ∧ ((k = 2 ∨ k = 3) → (B' 9 (Q 11).toInt.toNat).toInt = 1 + (B 9 p.toInt.toNat).toInt + (B 9 ((Q 11).toInt.toNat - 1)).toInt)) := by
  have us := RM.use h r
  obtain ⟨r1, r2, r3, r4, ⟨⟨p1, p2, p3⟩, p4⟩, nm, tr, op, ⟨⟨i1, i2⟩, i3, i4⟩, ⟨b1, b2, b3, b4⟩, c0, c1', ⟨c2a, c2b⟩, c3⟩ := r
  have hn : (n : Int) ≤ 32768 := by have := r1.1; omega
  have mN : (((Q 11).toInt.toNat : Nat) : Int) = (Q 11).toInt := by omega
  have ad : (Q 11 + 1).toInt = (Q 11).toInt + 1 := by rw [i_addS (by rw [il_1]; omega), il_1]
  have adn : (Q 11 + 1).toInt.toNat = (Q 11).toInt.toNat + 1 := by omega
  have m1 : (-1 : Int32).toInt = -1 := by decide
  have hp : ¬ k = 0 → 0 ≤ p.toInt ∧ p.toInt < (Q 11).toInt := by
    intro z
    rcases hrow with ⟨x, -⟩ | ⟨-, -, x1, x2⟩ | ⟨-, x1, x2, x3, x4⟩
    · exact absurd x z
    · omega
    · have := (i3 ((Q 11).toInt.toNat - 1) (by omega)).1
      omega
  have hs : ¬ s = -1 → 0 ≤ s.toInt ∧ s.toInt < (Q 11).toInt := by
    intro z
    rcases hrow with ⟨-, x, -⟩ | ⟨-, x, -⟩ | ⟨-, x1, x2, x3, x4⟩
    · exact absurd x z
    · exact absurd x z
    · omega
  refine dc_mono (PV_pc h i1 i2 (by omega) hp hs (by omega) (by omega)) ?_
  rintro ⟨T, e⟩ ⟨z2, A', C', B', v, ⟨fa, fc, fb⟩, ⟨g1, g2, g3⟩, g4, g5, g6, g7, g8⟩
  obtain ⟨W1, W2, W3, W4⟩ := pcW_add (k' := B' 6) (f' := B' 7) (s' := B' 8) (x' := B' 9) i3 (by omega) hrow g4 ⟨g5, g6, g7, g8⟩
  have C0 : C' 0 = C 0 := fc 0 (by omega)
  have C1 : C' 1 = C 1 := fc 1 (by omega)
  have C3 : C' 3 = C 3 := fc 3 (by omega)
  have B0 : B' 0 = B 0 := fb 0 (by omega)
  have B1 : B' 1 = B 1 := fb 1 (by omega)
  have B2 : B' 2 = B 2 := fb 2 (by omega)
  have B3 : B' 3 = B 3 := fb 3 (by omega)
  have B4 : B' 4 = B 4 := fb 4 (by omega)
  have B5 : B' 5 = B 5 := fb 5 (by omega)
  have capb : 4 ≤ C' 2 ∧ (C' 2 : Int) ≤ 2 * (Q 11 + 1).toInt + 4 := by
    rcases g3 with g3 | g3 <;> omega
  have nsv : ∀ i, (Q 11).toInt.toNat ≤ i → i < (q1 Q 11 (Q 11 + 1) 11).toInt.toNat → B' 6 i = 0 → sV B M (B' 7 i) := by
    intro i k1 k2 k3
    have k2 : i < (Q 11 + 1).toInt.toNat := k2
    have ei : i = (Q 11).toInt.toNat := by omega
    subst ei
    rw [g6]
    exact hsv (by rw [← g5]; exact k3)
  rcases piece_i hq with ⟨y1, rfl⟩ | ⟨y1, ⟨y2, y3⟩, y4, y5⟩
  · refine ⟨z2, fun z => ?_, A', C', B', v, ?_, ?_, ad, W2, W3, W4⟩
    · have z : (1 : Int32) = 0 := z
      exact absurd z (by decide)
    · refine ⟨r1, r2, r3, r4, ⟨⟨p1, p2, p3⟩, p4⟩, ?_, ?_, op, ?_, ?_, ?_, ?_, capb, ?_⟩
      · rw [B0, B1, B2, C0]; exact nm
      · rw [B3, B4, B5, C1]; exact tr
      · refine ⟨⟨?_, ?_⟩, ?_, ?_⟩
        · show 0 ≤ (Q 11 + 1).toInt
          omega
        · show (Q 11 + 1).toInt ≤ (C' 2 : Int)
          omega
        · show pcW (M.1 15) (B' 6) (B' 7) (B' 8) (B' 9) (Q 11 + 1).toInt.toNat
          rw [adn]; exact W1
        · intro z
          have z : (1 : Int32) = 0 := z
          exact absurd z (by decide)
      · exact ⟨b1, b2, by show (Q 11 + 1).toInt ≤ w'; omega, hw2⟩
      · rw [C0]; exact c0
      · rw [C1]; exact c1'
      · rw [C3]; exact c3
    · refine ⟨fa, fc, fb, fun k _ d => if_neg d, fun k _ d _ => md_ij d, fun k _ => rfl, rfl, fun z => ?_, ?_, g4, Int.le_refl _, fun z hz => ?_, nsv⟩
      · have z : (1 : Int32) = 0 := z
        exact absurd z (by decide)
      · show (Q 11).toInt ≤ (Q 11 + 1).toInt
        omega
      · have hz : (Q 11 + 1).toInt ≤ 1000 := hz
        have x1 := (i4 z).1
        rw [← x1] at y1
        have y2 := congrArg Int32.toInt y1
        rw [show (1000 : Int32).toInt = 1000 by decide] at y2
        omega
  · obtain ⟨q1', q2'⟩ := q
    have y4 : q1' = md_i (md_a (md_a (md_a M 36 (M.1 28).toInt.toNat k) 37 (M.1 28).toInt.toNat p') 38 (M.1 28).toInt.toNat s') 28 (M.1 28 + 1) := y4
    have y5 : q2' = M.1 28 := y5
    subst y4 y5
    refine ⟨z2, fun z => ?_, A', C', B', v, ?_, ?_, ad, W2, W3, W4⟩
    · have z : M.1 12 = 0 := z
      exact (i4 z).1.symm
    · refine ⟨r1, r2, r3, r4, ⟨⟨p1, p2, p3⟩, p4⟩, ?_, ?_, op, ?_, ?_, ?_, ?_, capb, ?_⟩
      · rw [B0, B1, B2, C0]; exact nm
      · rw [B3, B4, B5, C1]; exact tr
      · refine ⟨⟨?_, ?_⟩, ?_, ?_⟩
        · show 0 ≤ (Q 11 + 1).toInt
          omega
        · show (Q 11 + 1).toInt ≤ (C' 2 : Int)
          omega
        · show pcW (M.1 15) (B' 6) (B' 7) (B' 8) (B' 9) (Q 11 + 1).toInt.toNat
          rw [adn]; exact W1
        · intro z
          have z : M.1 12 = 0 := z
          obtain ⟨x1, x2⟩ := i4 z
          obtain ⟨x3, x4⟩ := hg z
          refine ⟨congrArg (· + 1) x1, ?_⟩
          intro i hi
          have hi : i < (Q 11 + 1).toInt.toNat := hi
          show B' 6 i = upd (M.2.1 36) (M.1 28).toInt.toNat k i ∧ B' 7 i = upd (M.2.1 37) (M.1 28).toInt.toNat p' i ∧ B' 8 i = upd (M.2.1 38) (M.1 28).toInt.toNat s' i
          rw [← x1, x3, x4]
          by_cases ei : i = (Q 11).toInt.toNat
          · rw [ei, upd_s, upd_s, upd_s]
            exact ⟨g5, g6, g7⟩
          · rw [upd_n ei, upd_n ei, upd_n ei]
            obtain ⟨t1, t2, t3, -⟩ := g4 i (by omega)
            rw [t1, t2, t3]
            exact x2 i (by omega)
      · exact ⟨b1, b2, by show (Q 11 + 1).toInt ≤ w'; omega, hw2⟩
      · rw [C0]; exact c0
      · rw [C1]; exact c1'
      · rw [C3]; exact c3
    · refine ⟨fa, fc, fb, fun k _ d => if_neg d, fun k _ _ d => md_ij d, fun k d => ?_, rfl, id, ?_, g4, Int.le_refl _, fun z _ => z, nsv⟩
      · show (if k = 38 then _ else if k = 37 then _ else if k = 36 then _ else M.2.1 k) = M.2.1 k
        rw [if_neg (by omega), if_neg (by omega), if_neg (by omega)]
      · show (Q 11).toInt ≤ (Q 11 + 1).toInt
        omega
theorem RM_w (r : RM M C B n f Q j b u w) (h : w ≤ w') (h2 : w' ≤ (M.1 7).toInt) : RM M C B n f Q j b u w' := by
  obtain ⟨r1, r2, r3, r4, r5, r6, r7, r8, r9, ⟨b1, b2, b3, b4⟩, r10⟩ := r
  exact ⟨r1, r2, r3, r4, r5, r6, r7, r8, r9, ⟨b1, b2, by omega, h2⟩, r10⟩
end PCB
