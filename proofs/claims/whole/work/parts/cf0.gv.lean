/-! the class's program while it is made: its arrays, its pieces, the drafted pieces -/
/-- arrays: 0 kind, 1 first, 2 second, 3 parent, 4 number, 5 codes, 6 line, 7 weight, 8 pauseFrom, 9 pauseTo, 10 test; pieces: 11 kind, 12 first, 13 second, 14 extent, 15 place; drafted: 16 place, 17 kind, 18 first, 19 second, 20 extent -/
def GV (G : hg_E) (S0 S : hg_S) (o pc dp : Nat) (a N : Nat → Nat) (R : Nat → Nat → Int32) (made : Int32) : Prop :=
  (hw S ∧ S.2 = S0.2) ∧ (∀ i, i < 21 → hg_at S.1 (a i) = some (.inl (G.1 0, N i, .inl (R i))) ∧ ∃ f, hg_at S0.1 (a i) = some (.inl (G.1 0, N i, .inl f))) ∧ (∀ i j, i < 21 → j < 21 → ¬ i = j → a i ≠ a j) ∧
  (hg_at S.1 pc = some (.inr (5, [.ref (a 11), .ref (a 12), .ref (a 13), .ref (a 14), .ref (a 15), .int made])) ∧ ∃ y, hg_at S0.1 pc = some (.inr y)) ∧
  (∀ b, (∀ i, i < 21 → b ≠ a i) → b ≠ pc → hg_at S.1 b = hg_at S0.1 b) ∧
  (∃ fs, hg_at S0.1 o = some (.inr (9, fs)) ∧ fs[6]? = some (.ref pc) ∧ ∀ i, i < 10 → fs[7 + i]? = some (.ref (a i))) ∧
  (∃ y, hg_at S0.1 dp = some (.inr (5, [.ref (a 17), .ref (a 18), .ref (a 19), .ref (a 20), .ref (a 16), y])) ∧ dp ≠ pc)
theorem fU_ru {R : Nat → Nat → Int32} {i j : Nat} {v : Int32} : fU R i j v i = upd (R i) j v := by
  funext j'
  unfold fU upd
  by_cases c : j' = j
  · rw [if_pos ⟨rfl, c⟩, if_pos c]
  · rw [if_neg (fun z => c z.2), if_neg c]
theorem fU_r {R : Nat → Nat → Int32} {i j i' : Nat} {v : Int32} (h : ¬ i' = i) : fU R i j v i' = R i' := funext (fun _ => fU_i h)
section GVS
variable {G : hg_E} {S0 S : hg_S} {o pc dp : Nat} {a N : Nat → Nat} {R : Nat → Nat → Int32} {made : Int32}
/-- an object is as it was -/
theorem GV.ob (v : GV G S0 S o pc dp a N R made) {b ci : Nat} {fs : List Value} (h : hg_at S0.1 b = some (.inr (ci, fs))) (n : b ≠ pc) : hg_at S.1 b = some (.inr (ci, fs)) := by
  refine (v.2.2.2.2.1 b (fun i hi e => ?_) n).trans h
  obtain ⟨f, hf⟩ := (v.2.1 i hi).2
  rw [← e, h] at hf
  cases hf
variable {τ : Type} {Φ : τ → Prop}
theorem wg_ld (v : GV G S0 S o pc dp a N R made) {i : Nat} (hi : i < 21) {x : Int32} (h0 : 0 ≤ x.toInt) (h1 : x.toInt < (N i : Int)) {E : Int32 → Option τ} (kk : dc_wp (E (R i x.toInt.toNat)) Φ) : dc_wp ((hg_ld S (some (a i)) (G.1 0) x).bind E) Φ := wq_ld (v.2.1 i hi).1 h0 h1 kk
theorem wg_ln (v : GV G S0 S o pc dp a N R made) {i : Nat} (hi : i < 21) {E : Int32 → Option τ} (kk : dc_wp (E (Int32.ofNat (N i))) Φ) : dc_wp ((hg_ln S (some (a i)) (G.1 0)).bind E) Φ := wq_ln (v.2.1 i hi).1 kk
theorem GV_st (v : GV G S0 S o pc dp a N R made) {i : Nat} (hi : i < 21) {j : Nat} {y : Int32} : GV G S0 (hu S (a i) (.inl (G.1 0, N i, .inl (upd (R i) j y)))) o pc dp a N (fU R i j y) made := by
  have hs := (v.2.1 i hi).1
  obtain ⟨⟨w1, w2⟩, w3, w4, ⟨w5, w6⟩, w7, w8, w9⟩ := v
  refine ⟨⟨w1.hu, w2⟩, fun k hk => ⟨?_, (w3 k hk).2⟩, w4, ⟨?_, w6⟩, fun b h1 h2 => ?_, w8, w9⟩
  · by_cases e : k = i
    · subst e
      rw [fU_ru]
      exact hu_self hs
    · rw [fU_r e, hu_ne (w4 k i hk hi e)]
      exact (w3 k hk).1
  · rw [hu_ne (fun e => by rw [e, hs] at w5; cases w5)]
    exact w5
  · rw [hu_ne (h1 i hi)]
    exact w7 b h1 h2
theorem wg_st (v : GV G S0 S o pc dp a N R made) {i : Nat} (hi : i < 21) {x y : Int32} (h0 : 0 ≤ x.toInt) (h1 : x.toInt < (N i : Int)) {E : hg_S → Option τ} (kk : ∀ S', GV G S0 S' o pc dp a N (fU R i x.toInt.toNat y) made → dc_wp (E S') Φ) : dc_wp ((hg_st S (some (a i)) (G.1 0) x y).bind E) Φ := wq_st (v.2.1 i hi).1 h0 h1 (kk _ (GV_st v hi))
/-- arrays of the program, of its pieces, of the drafted ones -/
theorem wg_pg (v : GV G S0 S o pc dp a N R made) (no : o ≠ pc) {i : Nat} (hi : i < 10) {k : Nat} (hk : k = 7 + i) {E : Option Nat → Option τ} (kk : dc_wp (E (some (a i))) Φ) : dc_wp ((hg_gr S (some o) 9 k).bind E) Φ := by
  obtain ⟨fs, h1, h2, h3⟩ := v.2.2.2.2.2.1
  subst hk
  exact wq_gr (v.ob h1 no) (h3 i hi) kk
theorem wg_pp (v : GV G S0 S o pc dp a N R made) (no : o ≠ pc) {E : Option Nat → Option τ} (kk : dc_wp (E (some pc)) Φ) : dc_wp ((hg_gr S (some o) 9 6).bind E) Φ := by
  obtain ⟨fs, h1, h2, h3⟩ := v.2.2.2.2.2.1
  exact wq_gr (x := some pc) (v.ob h1 no) h2 kk
theorem wg_ok (v : GV G S0 S o pc dp a N R made) (no : o ≠ pc) {E : Nat → Option τ} (kk : dc_wp (E o) Φ) : dc_wp ((hg_chk S (some o) 9).bind E) Φ := by
  obtain ⟨fs, h1, h2, h3⟩ := v.2.2.2.2.2.1
  exact wq_chk (v.ob h1 no) kk
theorem wg_pk (v : GV G S0 S o pc dp a N R made) {E : Nat → Option τ} (kk : dc_wp (E pc) Φ) : dc_wp ((hg_chk S (some pc) 5).bind E) Φ := wq_chk v.2.2.2.1.1 kk
theorem wg_pi (v : GV G S0 S o pc dp a N R made) {i : Nat} (hi : i < 5) {E : Option Nat → Option τ} (kk : dc_wp (E (some (a (11 + i)))) Φ) : dc_wp ((hg_gr S (some pc) 5 i).bind E) Φ := by
  refine wq_gr v.2.2.2.1.1 ?_ kk
  have : i = 0 ∨ i = 1 ∨ i = 2 ∨ i = 3 ∨ i = 4 := by omega
  rcases this with e | e | e | e | e <;> subst e <;> rfl
theorem wg_mg (v : GV G S0 S o pc dp a N R made) {E : Int32 → Option τ} (kk : dc_wp (E made) Φ) : dc_wp ((hg_gi S (some pc) 5 5).bind E) Φ := wq_gi v.2.2.2.1.1 rfl kk
theorem wg_mp (v : GV G S0 S o pc dp a N R made) {x : Int32} {E : hg_S → Option τ} (kk : ∀ S', GV G S0 S' o pc dp a N R x → dc_wp (E S') Φ) : dc_wp ((hg_pf S (some pc) 5 5 (.int x)).bind E) Φ := by
  refine wq_pf v.2.2.2.1.1 (show 5 < 6 by decide) (kk _ ?_)
  obtain ⟨⟨w1, w2⟩, w3, w4, ⟨w5, w6⟩, w7, w8, w9⟩ := v
  refine ⟨⟨w1.hu, w2⟩, fun k hk => ⟨?_, (w3 k hk).2⟩, w4, ⟨hu_self w5, w6⟩, fun b h1 h2 => ?_, w8, w9⟩
  · rw [hu_ne (fun e => by have := (w3 k hk).1; rw [e, w5] at this; cases this)]
    exact (w3 k hk).1
  · rw [hu_ne h2]
    exact w7 b h1 h2
def drA (i : Nat) : Nat := if i = 4 then 16 else 17 + i
theorem wg_dr (v : GV G S0 S o pc dp a N R made) {i : Nat} (hi : i < 5) {E : Option Nat → Option τ} (kk : dc_wp (E (some (a (drA i)))) Φ) : dc_wp ((hg_gr S (some dp) 5 i).bind E) Φ := by
  obtain ⟨y, h1, h2⟩ := v.2.2.2.2.2.2
  refine wq_gr (v.ob h1 h2) ?_ kk
  have : i = 0 ∨ i = 1 ∨ i = 2 ∨ i = 3 ∨ i = 4 := by omega
  rcases this with e | e | e | e | e <;> subst e <;> rfl
end GVS
