/-! the reference's reader beside the class's parser -/
def tln (j : Nat) : Nat := if j = 31 then 1 else (hk_tx.getD j []).length
def nmR (names scopes : Int32) (ra rs rc : Nat → Int32) (n c : Nat) (ff ee ss : Nat → Int32) : Prop :=
  (0 ≤ scopes.toInt ∧ scopes.toInt ≤ names.toInt ∧ names.toInt ≤ (c : Int)) ∧
  (∀ k, k < names.toInt.toNat → (ff k = ra k ∧ ee k = rs k) ∧ 0 ≤ (ff k).toInt ∧ 0 ≤ (ee k).toInt ∧ (ff k).toInt + (ee k).toInt ≤ (n : Int)) ∧
  (∀ k, k < scopes.toInt.toNat → ss k = rc k ∧ 0 ≤ (ss k).toInt ∧ (ss k).toInt < names.toInt)
def trR (tscopes op tm : Int32) (ra rs : Nat → Int32) (n c : Nat) (ff ee ss : Nat → Int32) : Prop :=
  (0 ≤ tscopes.toInt ∧ tscopes.toInt ≤ op.toInt ∧ tscopes.toInt ≤ tm.toInt ∧ tm.toInt ≤ (c : Int)) ∧
  (∀ k, k < tm.toInt.toNat → 0 ≤ (ff k).toInt ∧ 0 ≤ (ee k).toInt ∧ (ff k).toInt + (ee k).toInt ≤ (n : Int)) ∧
  (∀ k, k < tscopes.toInt.toNat → (0 ≤ (ss k).toInt ∧ (ss k).toInt < tm.toInt) ∧ ff (ss k).toInt.toNat = ra k ∧ ee (ss k).toInt.toNat = rs k)
/-- pieces: each behind those within it -/
def pcW (names : Int32) (kk ff ss xx : Nat → Int32) (m : Nat) : Prop := ∀ k, k < m → (1 ≤ (xx k).toInt ∧ (xx k).toInt ≤ (k : Int) + 1) ∧
  ((kk k = 0 ∧ ss k = -1 ∧ (xx k).toInt = 1 ∧ 0 ≤ (ff k).toInt ∧ (ff k).toInt < names.toInt) ∨
   (kk k = 1 ∧ ss k = -1 ∧ 1 ≤ k ∧ (ff k).toInt = (k : Int) - 1 ∧ (xx k).toInt = 1 + (xx (k - 1)).toInt) ∨
   ((kk k = 2 ∨ kk k = 3) ∧ 2 ≤ k ∧ (ss k).toInt = (k : Int) - 1 ∧ (ff k).toInt = (k : Int) - 1 - (xx (k - 1)).toInt ∧ 0 ≤ (ff k).toInt ∧ (xx k).toInt = 1 + (xx (ff k).toInt.toNat).toInt + (xx (k - 1)).toInt))
def piR (great pieced pm names : Int32) (rk rf rs : Nat → Int32) (c : Nat) (kk ff ss xx : Nat → Int32) : Prop :=
  (0 ≤ pm.toInt ∧ pm.toInt ≤ (c : Int)) ∧ pcW names kk ff ss xx pm.toInt.toNat ∧ (great = 0 → pm = pieced ∧ ∀ k, k < pm.toInt.toNat → kk k = rk k ∧ ff k = rf k ∧ ss k = rs k)
/-- b: what bounds the names; u: the nodes; w: the pieces -/
def RM (M : md_S) (C : Nat → Nat) (B : Nat → Nat → Int32) (n : Nat) (f : Nat → Int32) (Q : Nat → Int32) (j : Nat) (b u w : Int) : Prop :=
  txR M n f ∧ (j < 33 ∧ tokS (some j) (M.1 6) M.2.2.1 ∧ (tln j : Int) ≤ (M.1 4).toInt - (M.1 7).toInt) ∧ (Q 3 = M.1 7 ∧ Q 4 = M.1 4 ∧ Q 5 = M.1 8 ∧ Q 6 = 0) ∧ (M.1 5 = M.1 8 ∧ M.1 10 = 0) ∧
  ((0 ≤ (M.1 7).toInt ∧ (M.1 7).toInt ≤ (M.1 4).toInt ∧ (M.1 4).toInt ≤ (n : Int)) ∧ 1 ≤ (M.1 8).toInt ∧ (M.1 8).toInt ≤ (M.1 7).toInt + 1) ∧
  ((Q 7 = M.1 15 ∧ Q 8 = M.1 18) ∧ nmR (M.1 15) (M.1 18) (M.2.1 21) (M.2.1 22) (M.2.1 23) n (C 0) (B 0) (B 1) (B 2)) ∧
  (Q 10 = M.1 19 ∧ trR (M.1 19) (M.1 11) (Q 9) (M.2.1 24) (M.2.1 25) n (C 1) (B 3) (B 4) (B 5)) ∧
  (Q 2 = M.1 11 ∧ 0 ≤ (M.1 11).toInt ∧ (M.1 11).toInt ≤ 24) ∧
  piR (M.1 12) (M.1 28) (Q 11) (M.1 15) (M.2.1 36) (M.2.1 37) (M.2.1 38) (C 2) (B 6) (B 7) (B 8) (B 9) ∧
  ((b ≤ (M.1 4).toInt ∧ 2 * (M.1 15).toInt ≤ b + 1 ∧ (Q 9).toInt ≤ b) ∧ (0 ≤ (Q 12).toInt ∧ (Q 12).toInt ≤ u ∧ u ≤ 6 * (M.1 7).toInt) ∧ (Q 11).toInt ≤ w ∧ w ≤ (M.1 7).toInt) ∧
  (4 ≤ C 0 ∧ (C 0 : Int) ≤ 2 * (M.1 15).toInt + 4) ∧ (4 ≤ C 1 ∧ (C 1 : Int) ≤ 2 * (Q 9).toInt + 4) ∧ (4 ≤ C 2 ∧ (C 2 : Int) ≤ 2 * (Q 11).toInt + 4) ∧ ((Q 12).toInt ≤ (C 3 : Int) ∧ (C 3 : Int) ≤ 2 * (Q 12).toInt + 10)
/-- the class has thrown: what is left -/
def thr (t0 : Nat) (H0 : Nat → Option va_E) (K1 K2 n pa lx : Nat) (X : hg_X) (M : md_S) : Prop :=
  X.2.2 = true ∧ (hw X.1 ∧ t0 ≤ X.1.2.1 ∧ ∀ b, b < t0 → hg_at X.1.1 b = H0 b) ∧ (K1 ≤ X.1.2.2.1 + 40 * n + 70 ∧ K2 ≤ X.1.2.2.2 + 170 * n + 200) ∧ (∃ x1 x2 x3 x4 x5 x6, hg_at X.1.1 pa = some (.inr (4, [.ref lx, x1, x2, x3, x4, x5, x6]))) ∧ ∃ φ y0 y1 y2 y3 y4, ¬ φ = 0 ∧ stk φ M ∧ hg_at X.1.1 lx = some (.inr (2, [y0, y1, y2, y3, y4, .int φ]))
theorem thr.mono {t0 : Nat} {H0 : Nat → Option va_E} {K1 K2 n pa lx : Nat} {X : hg_X} {M M' : md_S} (h : thr t0 H0 K1 K2 n pa lx X M) (g : ∀ φ, ¬ φ = 0 → stk φ M → stk φ M') : thr t0 H0 K1 K2 n pa lx X M' := by
  obtain ⟨h1, h2, h3, h4, φ, y0, y1, y2, y3, y4, h5, h6, h7⟩ := h
  exact ⟨h1, h2, h3, h4, φ, y0, y1, y2, y3, y4, h5, g φ h5 h6, h7⟩
theorem ph_ne {k l : Int32} (hk : 1 ≤ k.toInt ∧ k.toInt ≤ 7) (hl : 1 ≤ l.toInt ∧ l.toInt ≤ 40000) : ¬ k + 8 * l = 0 := by
  intro z
  have e1 : (8 * l).toInt = 8 * l.toInt := by rw [i_mulS (by rw [il_8]; omega), il_8]
  have e2 : (k + 8 * l).toInt = k.toInt + 8 * l.toInt := by rw [i_addS (by rw [e1]; omega), e1]
  rw [z, il_0] at e2
  omega
/-- how far lines go -/
theorem gp_ln {f : Nat → Int32} {n : Nat} : ∀ (k p : Nat) (l : Int32) (c : Bool) (p' : Nat) (l' : Int32), gp f n k p l c = (p', l') → 0 ≤ l.toInt → l.toInt + (k : Int) ≤ 2000000 → l.toInt ≤ l'.toInt ∧ l'.toInt ≤ l.toInt + ((p' : Int) - (p : Int)) ∧ p ≤ p'
  | 0, p, l, c, p', l', h, _, _ => by
    have e1 : p = p' := congrArg Prod.fst h
    have e2 : l = l' := congrArg Prod.snd h
    subst e1 e2
    omega
  | k + 1, p, l, c, p', l', h, h0, h1 => by
    have a1 : (l + 1).toInt = l.toInt + 1 := by rw [i_addS (by rw [il_1]; omega), il_1]
    have st : p' = p ∧ l' = l → l.toInt ≤ l'.toInt ∧ l'.toInt ≤ l.toInt + ((p' : Int) - (p : Int)) ∧ p ≤ p' := by
      rintro ⟨rfl, rfl⟩
      omega
    have go : ∀ l2 c2, gp f n k (p + 1) l2 c2 = (p', l') → (l2 = l ∨ l2 = l + 1) → l.toInt ≤ l'.toInt ∧ l'.toInt ≤ l.toInt + ((p' : Int) - (p : Int)) ∧ p ≤ p' := by
      intro l2 c2 e hl
      have b2 : l.toInt ≤ l2.toInt ∧ l2.toInt ≤ l.toInt + 1 := by
        rcases hl with rfl | rfl
        · omega
        · omega
      have := gp_ln k (p + 1) l2 c2 p' l' e (by omega) (by omega)
      omega
    unfold gp at h
    split at h
    · split at h
      · exact go _ _ h (Or.inr rfl)
      · split at h
        · exact go _ _ h (Or.inl rfl)
        · split at h
          · exact st ⟨(congrArg Prod.fst h).symm, (congrArg Prod.snd h).symm⟩
          · exact go _ _ h (Or.inl rfl)
    · exact st ⟨(congrArg Prod.fst h).symm, (congrArg Prod.snd h).symm⟩
