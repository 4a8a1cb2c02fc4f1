/-! the class's atlas in its heap -/
/-- the heap before; the atlas; its arrays -/
abbrev awP : Type := hg_S × Nat × (Nat → Nat)
abbrev wS (E : awP) : hg_S := E.1
abbrev wO (E : awP) : Nat := E.2.1
abbrev wB (E : awP) : Nat → Nat := E.2.2
def wN (i : Nat) : Nat := if i < 2 then 4112 else 257
def ATv (G : hg_E) (S : hg_S) (o : Nat) (b : Nat → Nat) (X : Nat → Nat → Int32) (c : Nat → Int32) : Prop :=
  hg_at S.1 o = some (.inr (11, [.ref (b 0), .ref (b 1), .ref (b 2), .ref (b 3), .ref (b 4), .ref (b 5), .ref (b 6), .ref (b 7), .int (c 8), .int (c 9), .int (c 10), .int (c 11), .int (c 12), .int (c 13), .int (c 14)])) ∧ ∀ i, i < 8 → hg_at S.1 (b i) = some (.inl (G.1 0, wN i, .inl (X i)))
/-- the atlas at work: all else is as it was -/
def AW (G : hg_E) (E : awP) (S : hg_S) (q : rsT) : Prop := (hw S ∧ S.2 = (wS E).2 ∧ ∀ i j, i < 8 → j < 8 → wB E i = wB E j → i = j) ∧ ATv G S (wO E) (wB E) q.1 q.2 ∧ ∀ e, e ≠ wO E → (∀ i, i < 8 → e ≠ wB E i) → hg_at S.1 e = hg_at (wS E).1 e
section AWR
variable {G : hg_E} {E : awP} {S : hg_S} {q : rsT} {τ : Type} {Φ : τ → Prop}
theorem AW_st (h : AW G E S q) {i n : Nat} {v : Int32} (i2 : i < 8) : AW G E (hu S (wB E i) (.inl (G.1 0, wN i, .inl (upd (q.1 i) n v)))) (uX q i n v) := by
  obtain ⟨⟨h1, h2, h3⟩, ⟨h4, h5⟩, h9⟩ := h
  have hi := h5 i i2
  have no : wO E ≠ wB E i := at_ne h4 hi (fun z => by cases z)
  refine ⟨⟨h1.hu, h2, h3⟩, ⟨by rw [hu_ne no]; exact h4, fun j j2 => ?_⟩, fun e e1 e2 => ?_⟩
  · by_cases c : j = i
    · subst c
      rw [hu_self hi, uX_s]
    · rw [hu_ne (fun z => c (h3 j i j2 i2 z)), uX_n c]
      exact h5 j j2
  · rw [hu_ne (e2 i i2)]
    exact h9 e e1 e2
theorem AW_pf (h : AW G E S q) {fs : List Value} {j : Nat} {v : Int32} (e : fs = [.ref (wB E 0), .ref (wB E 1), .ref (wB E 2), .ref (wB E 3), .ref (wB E 4), .ref (wB E 5), .ref (wB E 6), .ref (wB E 7), .int ((uC q j v).2 8), .int ((uC q j v).2 9), .int ((uC q j v).2 10), .int ((uC q j v).2 11), .int ((uC q j v).2 12), .int ((uC q j v).2 13), .int ((uC q j v).2 14)]) : AW G E (hu S (wO E) (.inr (11, fs))) (uC q j v) := by
  obtain ⟨⟨h1, h2, h3⟩, ⟨h4, h5⟩, h9⟩ := h
  refine ⟨⟨h1.hu, h2, h3⟩, ⟨by rw [hu_self h4, e], fun j j2 => ?_⟩, fun e e1 e2 => ?_⟩
  · have hj := h5 j j2
    have nb : wB E j ≠ wO E := at_ne hj h4 (fun z => by cases z)
    rw [hu_ne nb]
    exact hj
  · rw [hu_ne e1]
    exact h9 e e1 e2
theorem aw_g (h : AW G E S q) {i : Nat} (i2 : i < 8) {F : Option Nat → Option τ} (kk : dc_wp (F (some (wB E i))) Φ) : dc_wp ((hg_gr S (some (wO E)) 11 i).bind F) Φ := by
  have : i = 0 ∨ i = 1 ∨ i = 2 ∨ i = 3 ∨ i = 4 ∨ i = 5 ∨ i = 6 ∨ i = 7 := by omega
  rcases this with e | e | e | e | e | e | e | e <;> subst e <;> exact wq_gr h.2.1.1 rfl kk
theorem aw_i (h : AW G E S q) {i : Nat} (i1 : 8 ≤ i) (i2 : i < 15) {F : Int32 → Option τ} (kk : dc_wp (F (q.2 i)) Φ) : dc_wp ((hg_gi S (some (wO E)) 11 i).bind F) Φ := by
  have : i = 8 ∨ i = 9 ∨ i = 10 ∨ i = 11 ∨ i = 12 ∨ i = 13 ∨ i = 14 := by omega
  rcases this with e | e | e | e | e | e | e <;> subst e <;> exact wq_gi h.2.1.1 rfl kk
theorem aw_c (h : AW G E S q) {F : Nat → Option τ} (kk : dc_wp (F (wO E)) Φ) : dc_wp ((hg_chk S (some (wO E)) 11).bind F) Φ := wq_chk h.2.1.1 kk
theorem aw_l (h : AW G E S q) {i : Nat} (i2 : i < 8) {x : Int32} (h0 : 0 ≤ x.toInt) (h1 : x.toInt < (wN i : Int)) {F : Int32 → Option τ} (kk : dc_wp (F (q.1 i x.toInt.toNat)) Φ) : dc_wp ((hg_ld S (some (wB E i)) (G.1 0) x).bind F) Φ := wq_ld (h.2.1.2 i i2) h0 h1 kk
theorem aw_s (h : AW G E S q) {i : Nat} (i2 : i < 8) {x v : Int32} (h0 : 0 ≤ x.toInt) (h1 : x.toInt < (wN i : Int)) {F : hg_S → Option τ} (kk : ∀ S', AW G E S' (uX q i x.toInt.toNat v) → dc_wp (F S') Φ) : dc_wp ((hg_st S (some (wB E i)) (G.1 0) x v).bind F) Φ := wq_st (h.2.1.2 i i2) h0 h1 (kk _ (AW_st h i2))
theorem aw_f (h : AW G E S q) {j : Nat} {v : Int32} (j1 : 8 ≤ j) (j2 : j < 15) {F : hg_S → Option τ} (kk : ∀ S', AW G E S' (uC q j v) → dc_wp (F S') Φ) : dc_wp ((hg_pf S (some (wO E)) 11 j (.int v)).bind F) Φ := by
  have : j = 8 ∨ j = 9 ∨ j = 10 ∨ j = 11 ∨ j = 12 ∨ j = 13 ∨ j = 14 := by omega
  rcases this with e | e | e | e | e | e | e <;> subst e <;> exact wq_pf h.2.1.1 (Nat.le_of_ble_eq_true rfl) (kk _ (AW_pf h rfl))
end AWR
section AWM
variable {G : hg_E} {E : awP} {S : hg_S} {q : rsT} {x y z : Int32}
/-- a state is reached -/
def awR (q : rsT) (x : Int32) : Prop := 0 ≤ x.toInt ∧ x.toInt < 257 ∧ ¬ q.1 2 x.toInt.toNat = -1
theorem rch_w (h : AW G E S q) : dc_wp (hm_AT_reaches G S (wO E) x) (fun v => (v = 1 ∧ awR q x) ∨ (v = 0 ∧ ¬ awR q x)) := by
  have no : ∀ h : ¬ awR q x, dc_wp (hm_AT_reaches_L25 G S (wO E)) (fun v => (v = 1 ∧ awR q x) ∨ (v = 0 ∧ ¬ awR q x)) := by
    intro h
    delta hm_AT_reaches_L25 hm_AT_reaches_L26
    exact zb_s (Or.inl rfl) ⟨_, rfl, Or.inr ⟨rfl, h⟩⟩
  have z0 : (0 : Int32).toInt = 0 := by decide
  have z1 : (257 : Int32).toInt = 257 := by decide
  delta hm_AT_reaches
  refine wq_if (fun a => no (fun g => ?_)) (fun a => ?_)
  · have a := i_lt.mp a
    rw [z0] at a
    have := g.1
    omega
  have a : 0 ≤ x.toInt := by
    have : ¬ x.toInt < (0 : Int32).toInt := fun z => a (i_lt.mpr z)
    omega
  refine wq_if (fun b => ?_) (fun b => no (fun g => b (i_lt.mpr (by rw [z1]; exact g.2.1))))
  have b := i_lt.mp b
  rw [z1] at b
  refine aw_g h (i := 2) (by decide) ?_
  refine aw_l h (i := 2) (by decide) a (by show x.toInt < ((257 : Nat) : Int); omega) ?_
  refine wq_if (fun c => no (fun g => g.2.2 c)) (fun c => ?_)
  delta hm_AT_reaches_L26
  exact zb_s (Or.inr rfl) ⟨_, rfl, Or.inl ⟨rfl, a, b, c⟩⟩
/-- a state is met -/
def awM (q : rsT) (x y z : Int32) : rsT := uC (uX (uX (uX (uX q 2 x.toInt.toNat (if y = -1 then 0 else q.1 2 y.toInt.toNat + 1)) 3 x.toInt.toNat y) 4 x.toInt.toNat z) 5 (q.2 9).toInt.toNat x) 9 (q.2 9 + 1)
theorem mt_w (h : AW G E S q) (hx : 0 ≤ x.toInt ∧ x.toInt < 257) (hy : y = -1 ∨ (0 ≤ y.toInt ∧ y.toInt < 257)) (h9 : 0 ≤ (q.2 9).toInt ∧ (q.2 9).toInt < 257) : dc_wp (hm_AT_meet G S (wO E) x y z) (fun S' => AW G E S' (awM q x y z)) := by
  have w5 : ∀ i, 2 ≤ i → (wN i : Int) = 257 := fun i hi => by
    unfold wN
    rw [if_neg (by omega)]
    rfl
  have core : ∀ v : Int32, v = (if y = -1 then 0 else q.1 2 y.toInt.toNat + 1) → dc_wp (hm_AT_meet_L22 G S (wO E) x y z v x (some (wB E 2))) (fun S' => AW G E S' (awM q x y z)) := by
    intro v ev
    delta hm_AT_meet_L22
    refine aw_s h (i := 2) (by decide) hx.1 (by rw [w5 2 (by omega)]; exact hx.2) (fun S1 g1 => ?_)
    refine aw_g g1 (i := 3) (by decide) ?_
    refine aw_s g1 (i := 3) (by decide) hx.1 (by rw [w5 3 (by omega)]; exact hx.2) (fun S3 g3 => ?_)
    refine aw_g g3 (i := 4) (by decide) ?_
    refine aw_s g3 (i := 4) (by decide) hx.1 (by rw [w5 4 (by omega)]; exact hx.2) (fun S5 g5 => ?_)
    refine aw_g g5 (i := 5) (by decide) ?_
    refine aw_i g5 (i := 9) (by decide) (by decide) ?_
    refine aw_s g5 (i := 5) (by decide) h9.1 (by rw [w5 5 (by omega)]; exact h9.2) (fun S8 g8 => ?_)
    refine aw_i g8 (i := 9) (by decide) (by decide) ?_
    refine aw_f g8 (j := 9) (by decide) (by decide) (fun S10 g10 => ?_)
    refine ⟨_, rfl, ?_⟩
    unfold awM
    rw [← ev]
    exact g10
  delta hm_AT_meet
  refine aw_g h (i := 2) (by decide) ?_
  refine wq_if (fun a => core 0 (by rw [if_pos a])) (fun a => ?_)
  have hy' := hy.elim (fun z => absurd z a) id
  refine aw_g h (i := 2) (by decide) ?_
  refine aw_l h (i := 2) (by decide) hy'.1 (by rw [w5 2 (by omega)]; exact hy'.2) ?_
  exact core _ (by rw [if_neg a])
end AWM
