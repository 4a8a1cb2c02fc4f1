/-! the reference's lay: a tree, whole -/
def lrow (G H : Prop) (pk pf xx : Nat → Int32) (R : Nat → Nat → Int32) (k : Nat) (x : lbT) (f s up : Int32) (w : Int) (t : Int32) (a c : Int) : Prop :=
  (R 51 k = x.1 ∧ R 52 k = f ∧ R 53 k = s ∧ R 56 k = x.2.1 ∧ (R 57 k).toInt = w ∧ R 58 k = up ∧ (R 62 k).toInt = a) ∧ (x.2.2.2.2.2 = -1 → (x.1 = 1 → (R 54 k).toInt = a) ∧ (¬ x.1 = 1 → (¬ (x.1 = 8 ∨ x.1 = 9) ∨ H) → R 54 k = rN x)) ∧ (¬ x.2.2.2.2.2 = -1 → G → (R 54 k).toInt = c ∧ PPr R pk pf xx (txx xx x.2.2.2.2.2).toNat x.2.2.2.2.2.toInt.toNat c.toNat ∧ (R 66 c.toNat).toInt = c + txx xx x.2.2.2.2.2) ∧ (H → R 60 k = t)
/-- a tree laid from row k on: who is above, weight, trap around, pauses ahead, pieces ahead -/
def LPr (G H : Prop) (pk pf xx : Nat → Int32) (R : Nat → Nat → Int32) : tT → Nat → Int32 → Int → Int32 → Int → Int → Prop
  | .const x, k, up, w, t, a, c => lrow G H pk pf xx R k (lT x) (-1) (-1) up w t a c
  | .unary x A, k, up, w, t, a, c => lrow G H pk pf xx R k (lT x) (Int32.ofNat (k + 1)) (-1) up w t a c ∧ LPr G H pk pf xx R A (k + 1) (Int32.ofNat k) (w + if (lT x).1 = 6 then 1 else 0) (if (lT x).1 = 8 then Int32.ofNat k else t) (a + if (lT x).1 = 1 then 1 else 0) (c + txx xx (lT x).2.2.2.2.2)
  | .binary x A B, k, up, w, t, a, c => lrow G H pk pf xx R k (lT x) (Int32.ofNat (k + 1)) (Int32.ofNat (k + 1 + tsz A)) up w t a c ∧ LPr G H pk pf xx R A (k + 1) (Int32.ofNat k) (w + if (lT x).1 = 6 then 1 else 0) (if (lT x).1 = 8 then Int32.ofNat k else t) (a + if (lT x).1 = 1 then 1 else 0) (c + txx xx (lT x).2.2.2.2.2) ∧ LPr G H pk pf xx R B (k + 1 + tsz A) (Int32.ofNat k) (w + if (lT x).1 = 5 then 1 else 0) (if (lT x).1 = 8 then Int32.ofNat k else t) ((a + if (lT x).1 = 1 then 1 else 0) + pas A) (c + txx xx (lT x).2.2.2.2.2 + tsm xx A)
  | _, _, _, _, _, _, _ => False
abbrev nRi (i : Nat) : Prop := (51 ≤ i ∧ i ≤ 54) ∨ (56 ≤ i ∧ i ≤ 58) ∨ i = 60 ∨ i = 62
theorem repR_fr {M M' : md_S} (e27 : M'.1 27 = M.1 27) (e : ∀ i, 30 ≤ i → i ≤ 35 → M'.2.1 i = M.2.1 i) : ∀ (T : tT) (s : Int32), repR M T s → repR M' T s
  | .const x, s, h => by
    refine ⟨by rw [e27]; exact h.1, ?_⟩
    unfold rRow
    rw [e 30 (by omega) (by omega), e 31 (by omega) (by omega), e 32 (by omega) (by omega), e 33 (by omega) (by omega), e 34 (by omega) (by omega), e 35 (by omega) (by omega)]
    exact h.2
  | .unary x a, s, ⟨h, s1, h1, h2, h3⟩ => by
    refine ⟨by rw [e27]; exact h, s1, h1, ?_, repR_fr e27 e a s1 h3⟩
    unfold rRow
    rw [e 30 (by omega) (by omega), e 31 (by omega) (by omega), e 32 (by omega) (by omega), e 33 (by omega) (by omega), e 34 (by omega) (by omega), e 35 (by omega) (by omega)]
    exact h2
  | .binary x a b, s, ⟨h, s1, s2, h1, h2, h3, h4, h5⟩ => by
    refine ⟨by rw [e27]; exact h, s1, s2, h1, h2, ?_, repR_fr e27 e a s1 h4, repR_fr e27 e b s2 h5⟩
    unfold rRow
    rw [e 30 (by omega) (by omega), e 31 (by omega) (by omega), e 32 (by omega) (by omega), e 33 (by omega) (by omega), e 34 (by omega) (by omega), e 35 (by omega) (by omega)]
    exact h3
section LAYT
variable {names : Int32} {pk pf ps xx : Nat → Int32} {m : Nat} {θ : (Int32 → Prop) → Int32 → Prop}
theorem tsm_0 (hθ : ∀ V e, θ V e → 0 ≤ e.toInt ∧ e.toInt < (m : Int) ∧ 1 ≤ (xx e.toInt.toNat).toInt ∧ (xx e.toInt.toNat).toInt ≤ 2000) : ∀ (T : tT) (V : Int32 → Prop), okT θ V T → 0 ≤ tsm xx T ∧ 1 ≤ tsz T ∧ 0 ≤ pas T ∧ pas T ≤ (tsz T : Int)
  | .const x, V, h => by
    have e : tsm xx (.const x) = 0 := if_pos h.2.1
    rw [e]
    refine ⟨by omega, Nat.le_refl _, ?_⟩
    show 0 ≤ (if (lT x).1 = 1 then (1 : Int) else 0) ∧ (if (lT x).1 = 1 then (1 : Int) else 0) ≤ ((1 : Nat) : Int)
    split <;> omega
  | .unary x a, V, h => by
    obtain ⟨q, q1, q2, q3⟩ := tsm_0 hθ a _ h.2
    have t : 0 ≤ txx xx (lT x).2.2.2.2.2 := by
      unfold txx
      rcases h.1.1 with ⟨-, z⟩ | ⟨-, z⟩
      · have := hθ _ _ z
        split <;> omega
      · rw [if_pos z]; omega
    refine ⟨?_, ?_, ?_⟩
    · show 0 ≤ txx xx (lT x).2.2.2.2.2 + tsm xx a
      omega
    · show 1 ≤ 1 + tsz a
      omega
    · show 0 ≤ (if (lT x).1 = 1 then (1 : Int) else 0) + pas a ∧ (if (lT x).1 = 1 then (1 : Int) else 0) + pas a ≤ ((1 + tsz a : Nat) : Int)
      split <;> omega
  | .binary x a b, V, h => by
    obtain ⟨q, q1, q2, q3⟩ := tsm_0 hθ a _ h.2.1
    obtain ⟨r, r1, r2, r3⟩ := tsm_0 hθ b _ h.2.2
    have t : 0 ≤ txx xx (lT x).2.2.2.2.2 := by
      unfold txx
      rcases h.1.1 with ⟨-, z⟩ | ⟨-, z⟩
      · have := hθ _ _ z
        split <;> omega
      · rw [if_pos z]; omega
    refine ⟨?_, ?_, ?_⟩
    · show 0 ≤ txx xx (lT x).2.2.2.2.2 + (tsm xx a + tsm xx b)
      omega
    · show 1 ≤ 1 + tsz a + tsz b
      omega
    · show 0 ≤ (if (lT x).1 = 1 then (1 : Int) else 0) + (pas a + pas b) ∧ (if (lT x).1 = 1 then (1 : Int) else 0) + (pas a + pas b) ≤ ((1 + tsz a + tsz b : Nat) : Int)
      split <;> omega
theorem txx_0 {x : lbT} (ht : x.2.2.2.2.2 = -1 ∨ (0 ≤ x.2.2.2.2.2.toInt ∧ x.2.2.2.2.2.toInt < (m : Int) ∧ 1 ≤ (xx x.2.2.2.2.2.toInt.toNat).toInt ∧ (xx x.2.2.2.2.2.toInt.toNat).toInt ≤ 2000)) : 0 ≤ txx xx x.2.2.2.2.2 ∧ txx xx x.2.2.2.2.2 ≤ 2000 := by
  unfold txx
  by_cases c : x.2.2.2.2.2 = -1
  · rw [if_pos c]; omega
  · have := ht.resolve_left c
    rw [if_neg c]; omega
theorem ok_t (hθ : ∀ V e, θ V e → 0 ≤ e.toInt ∧ e.toInt < (m : Int) ∧ 1 ≤ (xx e.toInt.toNat).toInt ∧ (xx e.toInt.toNat).toInt ≤ 2000) {V : Int32 → Prop} {x : lbT} (h : lb0 V x ∨ lb1 θ V x ∨ lb2 θ V x) : x.2.2.2.2.2 = -1 ∨ (0 ≤ x.2.2.2.2.2.toInt ∧ x.2.2.2.2.2.toInt < (m : Int) ∧ 1 ≤ (xx x.2.2.2.2.2.toInt.toNat).toInt ∧ (xx x.2.2.2.2.2.toInt.toNat).toInt ≤ 2000) := by
  rcases h with h | h | h
  · exact Or.inl h.2.1
  · rcases h.1 with ⟨-, z⟩ | ⟨-, z⟩
    · exact Or.inr (hθ _ _ z)
    · exact Or.inl z
  · rcases h.1 with ⟨-, z⟩ | ⟨-, z⟩
    · exact Or.inr (hθ _ _ z)
    · exact Or.inl z
/-- a row stays where nothing that it speaks of changes -/
theorem lrow_e (W : pcW names pk pf ps xx m) {G H : Prop} {R R' : Nat → Nat → Int32} {k : Nat} {x : lbT} {f s up : Int32} {w : Int} {t : Int32} {a c : Int} (h0 : 0 ≤ c) (ht : x.2.2.2.2.2 = -1 ∨ (0 ≤ x.2.2.2.2.2.toInt ∧ x.2.2.2.2.2.toInt < (m : Int) ∧ 1 ≤ (xx x.2.2.2.2.2.toInt.toNat).toInt ∧ (xx x.2.2.2.2.2.toInt.toNat).toInt ≤ 2000)) (e : ∀ i, nRi i → R' i k = R i k) (g : G → ∀ j : Nat, c ≤ (j : Int) → (j : Int) < c + txx xx x.2.2.2.2.2 → R' 63 j = R 63 j ∧ R' 64 j = R 64 j ∧ R' 65 j = R 65 j ∧ R' 66 j = R 66 j) (h : lrow G H pk pf xx R k x f s up w t a c) : lrow G H pk pf xx R' k x f s up w t a c := by
  unfold lrow at h ⊢
  rw [e 51 (by omega), e 52 (by omega), e 53 (by omega), e 54 (by omega), e 56 (by omega), e 57 (by omega), e 58 (by omega), e 60 (by omega), e 62 (by omega)]
  obtain ⟨h1, h2, h3, h4⟩ := h
  refine ⟨h1, h2, fun n y => ?_, h4⟩
  obtain ⟨u1, u2, u3⟩ := h3 n y
  have tt := ht.resolve_left n
  have et : txx xx x.2.2.2.2.2 = (xx x.2.2.2.2.2.toInt.toNat).toInt := if_neg n
  have g := g y
  refine ⟨u1, PPr_ext W _ _ _ (by omega) (by omega) (fun j j1 j2 => ?_) u2, ?_⟩
  · have := g j (by omega) (by omega)
    exact ⟨this.1, this.2.1, this.2.2.1⟩
  · rw [(g c.toNat (by omega) (by omega)).2.2.2]
    exact u3
theorem LPr_e (W : pcW names pk pf ps xx m) (hθ : ∀ V e, θ V e → 0 ≤ e.toInt ∧ e.toInt < (m : Int) ∧ 1 ≤ (xx e.toInt.toNat).toInt ∧ (xx e.toInt.toNat).toInt ≤ 2000) {G H : Prop} {R R' : Nat → Nat → Int32} : ∀ (T : tT) (V : Int32 → Prop) (k : Nat) (up : Int32) (w : Int) (t : Int32) (a c : Int), okT θ V T → 0 ≤ c → (∀ i j, nRi i → k ≤ j → j < k + tsz T → R' i j = R i j) → (G → ∀ j : Nat, c ≤ (j : Int) → (j : Int) < c + tsm xx T → R' 63 j = R 63 j ∧ R' 64 j = R 64 j ∧ R' 65 j = R 65 j ∧ R' 66 j = R 66 j) → LPr G H pk pf xx R T k up w t a c → LPr G H pk pf xx R' T k up w t a c
  | .const x, V, k, up, w, t, a, c, hO, h0, he, hg, h => by
    have he : ∀ i j, nRi i → k ≤ j → j < k + 1 → R' i j = R i j := he
    exact lrow_e W h0 (ok_t hθ (Or.inl hO)) (fun i hi => he i k hi (Nat.le_refl _) (by omega)) hg h
  | .unary x A, V, k, up, w, t, a, c, hO, h0, he, hg, ⟨h1, h2⟩ => by
    have he : ∀ i j, nRi i → k ≤ j → j < k + (1 + tsz A) → R' i j = R i j := he
    have hg : G → ∀ j : Nat, c ≤ (j : Int) → (j : Int) < c + (txx xx (lT x).2.2.2.2.2 + tsm xx A) → R' 63 j = R 63 j ∧ R' 64 j = R 64 j ∧ R' 65 j = R 65 j ∧ R' 66 j = R 66 j := hg
    have ot := ok_t hθ (Or.inr (Or.inl hO.1))
    have t0 := txx_0 ot
    have a0 := tsm_0 hθ A _ hO.2
    exact ⟨lrow_e W h0 ot (fun i hi => he i k hi (Nat.le_refl _) (by omega)) (fun y j j1 j2 => hg y j (by omega) (by omega)) h1, LPr_e W hθ A _ _ _ _ _ _ _ hO.2 (by omega) (fun i j hi j1 j2 => he i j hi (by omega) (by omega)) (fun y j j1 j2 => hg y j (by omega) (by omega)) h2⟩
  | .binary x A B, V, k, up, w, t, a, c, hO, h0, he, hg, ⟨h1, h2, h3⟩ => by
    have he : ∀ i j, nRi i → k ≤ j → j < k + (1 + tsz A + tsz B) → R' i j = R i j := he
    have hg : G → ∀ j : Nat, c ≤ (j : Int) → (j : Int) < c + (txx xx (lT x).2.2.2.2.2 + (tsm xx A + tsm xx B)) → R' 63 j = R 63 j ∧ R' 64 j = R 64 j ∧ R' 65 j = R 65 j ∧ R' 66 j = R 66 j := hg
    have ot := ok_t hθ (Or.inr (Or.inr hO.1))
    have t0 := txx_0 ot
    have a0 := tsm_0 hθ A _ hO.2.1
    have b0 := tsm_0 hθ B _ hO.2.2
    exact ⟨lrow_e W h0 ot (fun i hi => he i k hi (Nat.le_refl _) (by omega)) (fun y j j1 j2 => hg y j (by omega) (by omega)) h1, LPr_e W hθ A _ _ _ _ _ _ _ hO.2.1 (by omega) (fun i j hi j1 j2 => he i j hi (by omega) (by omega)) (fun y j j1 j2 => hg y j (by omega) (by omega)) h2, LPr_e W hθ B _ _ _ _ _ _ _ hO.2.2 (by omega) (fun i j hi j1 j2 => he i j hi (by omega) (by omega)) (fun y j j1 j2 => hg y j (by omega) (by omega)) h3⟩
end LAYT
