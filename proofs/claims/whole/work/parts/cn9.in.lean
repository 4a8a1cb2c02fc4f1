/-! the class's instant beside the reference's -/
section INC
variable {G : hg_E} {S S1 : hg_S} {M : md_S} {T : tT} {t0 u n ps sg io pa o t : Nat} {R : Nat → Nat → Int32} {c : Nat → Int32} {X : Nat → Nat → Int32} {cn : Nat → Int32} {hf sf : Nat → Int32} {nn f st en rn ex la x1 : Int32} {ta tn : Value}
/-- the program, its reactor, what is held and shown: on both sides -/
def LDp (G : hg_E) (S : hg_S) (M : md_S) (u t0 : Nat) (T : tT) (n ps sg io pa : Nat) (R : Nat → Nat → Int32) (c : Nat → Int32) (X : Nat → Nat → Int32) (cn : Nat → Int32) (hf sf : Nat → Int32) : Prop :=
  (pgS G S M t0 u n ps sg io pa R c ∧ pgT M T n ps ∧ pgB M n) ∧ (REv G S (u + 18) u (reB (u + 19)) (reN sg (plc (R 0) (R 7) io n) ps n pa) X cn ∧ plP (R 0) (R 4) (R 7) io n (X 3) ∧ reP (X 3) io (X, cn)) ∧ (hg_at S.1 (u + 30) = some (.inl (G.1 2, pa, .inl hf)) ∧ ∀ p, p < pa → (hf p = 0 ↔ M.2.1 74 p = 0)) ∧ (hg_at S.1 (u + 31) = some (.inl (G.1 0, io, .inl sf)) ∧ ∀ i, i < io → sf i = M.2.1 84 i) ∧ ∀ i, v3 (M.2.1 70 i)
/-- started, ended, reactions; one that goes on holds a pause -/
def LDe (M : md_S) (pa : Nat) (st en rn : Int32) : Prop := ((st = 0 ∧ M.1 77 = 1) ∨ (st = 1 ∧ M.1 77 = 0)) ∧ ((en = 0 ∧ M.1 82 = 1) ∨ (en = 1 ∧ M.1 82 = 2)) ∧ rn = M.1 83 ∧ (M.1 77 = 0 → M.1 82 = 1 → ∃ p, p < pa ∧ ¬ M.2.1 74 p = 0) ∧ (M.1 82 = 2 → ∀ p, p < pa → M.2.1 74 p = 0) ∧ (M.1 77 = 1 → ∀ p, p < pa → M.2.1 74 p = 0)
/-- the engine's own cells, while an instant is noted -/
def enH (G : hg_E) (S1 Sx : hg_S) (o u io pa : Nat) (fs : List Value) (hf sf : Nat → Int32) : Prop := (hw Sx ∧ Sx.2 = S1.2) ∧ hg_at Sx.1 o = some (.inr (0, fs)) ∧ (∀ b, b ≠ o → b ≠ u + 30 → b ≠ u + 31 → hg_at Sx.1 b = hg_at S1.1 b) ∧ hg_at Sx.1 (u + 30) = some (.inl (G.1 2, pa, .inl hf)) ∧ hg_at Sx.1 (u + 31) = some (.inl (G.1 0, io, .inl sf))
theorem enH_f {Sx : hg_S} {fs fs' : List Value} (ho : o < u) (h : enH G S1 Sx o u io pa fs hf sf) : enH G S1 (hu Sx o (.inr (0, fs'))) o u io pa fs' hf sf := by
  obtain ⟨⟨h1, h2⟩, h3, h4, h5, h6⟩ := h
  exact ⟨⟨h1.hu, h2⟩, hu_self h3, fun b b1 b2 b3 => by rw [hu_ne b1]; exact h4 b b1 b2 b3, by rw [hu_ne (by omega)]; exact h5, by rw [hu_ne (by omega)]; exact h6⟩
theorem enH_h {Sx : hg_S} {fs : List Value} {hf' : Nat → Int32} (ho : o < u) (h : enH G S1 Sx o u io pa fs hf sf) : enH G S1 (hu Sx (u + 30) (.inl (G.1 2, pa, .inl hf'))) o u io pa fs hf' sf := by
  obtain ⟨⟨h1, h2⟩, h3, h4, h5, h6⟩ := h
  exact ⟨⟨h1.hu, h2⟩, by rw [hu_ne (by omega)]; exact h3, fun b b1 b2 b3 => by rw [hu_ne b2]; exact h4 b b1 b2 b3, hu_self h5, by rw [hu_ne (by omega)]; exact h6⟩
theorem enH_s {Sx : hg_S} {fs : List Value} {sf' : Nat → Int32} (ho : o < u) (h : enH G S1 Sx o u io pa fs hf sf) : enH G S1 (hu Sx (u + 31) (.inl (G.1 0, io, .inl sf'))) o u io pa fs hf sf' := by
  obtain ⟨⟨h1, h2⟩, h3, h4, h5, h6⟩ := h
  exact ⟨⟨h1.hu, h2⟩, by rw [hu_ne (by omega)]; exact h3, fun b b1 b2 b3 => by rw [hu_ne b3]; exact h4 b b1 b2 b3, by rw [hu_ne (by omega)]; exact h5, hu_self h6⟩
theorem cpy_v {g g' : Nat → Int32} {l i : Nat} : va_cpy g g' 0 0 l i = if i < l then g i else g' i := by
  unfold va_cpy
  by_cases c : i < l
  · rw [if_pos ⟨Nat.zero_le _, by omega⟩, if_pos c]
    congr 1
    omega
  · rw [if_neg (by omega), if_neg c]
/-- what an instant leaves, where it is no failure -/
def inL (G : hg_E) (S S' : hg_S) (M M' : md_S) (u t0 o t : Nat) (T : tT) (n ps sg io pa : Nat) (R : Nat → Nat → Int32) (c : Nat → Int32) (nn f : Int32) (ta tn : Value) (ex la : Int32) : Prop :=
  (hw S' ∧ S'.2 = S.2) ∧ (∀ b, b ≠ o → ¬ (u + 18 ≤ b ∧ b < u + 32) → hg_at S'.1 b = hg_at S.1 b) ∧ ((∀ i, ¬ (i = 0 ∨ (77 ≤ i ∧ i ≤ 83)) → M'.1 i = M.1 i) ∧ ∀ i, ¬ (i = 67 ∨ (70 ≤ i ∧ i ≤ 76) ∨ i = 84) → M'.2.1 i = M.2.1 i) ∧ M'.1 0 = 0 ∧ ∃ X' cn' hf' sf' st' en' rn', hg_at S'.1 o = some (.inr (0, enL t nn f (.ref u) (.ref (u + 18)) (.ref (u + 30)) (.ref (u + 31)) st' en' rn' ta tn ex la)) ∧ LDp G S' M' u t0 T n ps sg io pa R c X' cn' hf' sf' ∧ LDe M' pa st' en' rn'
theorem REv_c {S' : hg_S} {b Nb : Nat → Nat} (h : REv G S (u + 18) u b Nb X cn) (hb : ∀ i, 1 ≤ i → i < 12 → hg_at S'.1 (b i) = hg_at S.1 (b i)) (h0 : hg_at S'.1 (u + 18) = hg_at S.1 (u + 18)) : REv G S' (u + 18) u b Nb X cn := ⟨by rw [h0]; exact h.1, fun i i1 i2 => by rw [hb i i1 i2]; exact h.2 i i1 i2⟩
end INC
