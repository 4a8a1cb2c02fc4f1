/-! the class's net in its heap -/
def nN (cap i : Nat) : Nat := if i < 2 then 4096 else if i = 2 then 13 else if i = 3 then 64 else cap
def NTv (G : hg_E) (S : hg_S) (o : Nat) (b : Nat → Nat) (cap : Nat) (X : Nat → Nat → Int32) (c : Nat → Int32) : Prop :=
  hg_at S.1 o = some (.inr (12, [.ref (b 0), .ref (b 1), .ref (b 2), .ref (b 3), .ref (b 4), .ref (b 5), .ref (b 6), .ref (b 7), .ref (b 8), .int (c 9), .int (c 10), .int (c 11), .int (c 12), .int (c 13), .int (c 14)])) ∧ ∀ i, i < 9 → hg_at S.1 (b i) = some (.inl (G.1 0, nN cap i, .inl (X i)))
/-- where the net began: the heap, the net, its arrays, their length -/
abbrev nwE : Type := hg_S × Nat × (Nat → Nat) × Nat
/-- the net at work: all else is as it was -/
def NW (G : hg_E) (E : nwE) (S : hg_S) (b : Nat → Nat) (cap : Nat) (q : rsT) : Prop :=
  (hw S ∧ ∀ i j, i < 9 → j < 9 → b i = b j → i = j) ∧ NTv G S E.2.1 b cap q.1 q.2 ∧ (∀ e, e < E.1.2.1 → e ≠ E.2.1 → (∀ i, i < 9 → e ≠ E.2.2.1 i) → hg_at S.1 e = hg_at E.1.1 e) ∧ ((∀ i, i < 9 → b i = E.2.2.1 i ∨ E.1.2.1 ≤ b i) ∧ ∀ i, i < 4 → b i = E.2.2.1 i) ∧ ∃ j, cap = E.2.2.2 * 2 ^ j ∧ S.2 = (E.1.2.1 + 5 * j, E.1.2.2.1 - 5 * j, E.1.2.2.2 - 10 * (cap - E.2.2.2))
section NWR
variable {G : hg_E} {E : nwE} {S : hg_S} {b : Nat → Nat} {cap : Nat} {q : rsT} {τ : Type} {Φ : τ → Prop}
theorem NW_u (h : NW G E S b cap q) {S' : hg_S} {i : Nat} {f : Nat → Int32} (i2 : i < 9) (h0 : hw S') (h1 : S'.2 = S.2) (h2 : ∀ e, e ≠ b i → hg_at S'.1 e = hg_at S.1 e) (h3 : hg_at S'.1 (b i) = some (.inl (G.1 0, nN cap i, .inl f))) : NW G E S' b cap (fX q i f) := by
  obtain ⟨⟨g1, g3⟩, ⟨g4, g5⟩, g6, g7, g8⟩ := h
  have hi := g5 i i2
  have no : E.2.1 ≠ b i := at_ne g4 hi (fun z => by cases z)
  refine ⟨⟨h0, g3⟩, ⟨by rw [h2 _ no]; exact g4, fun j j2 => ?_⟩, fun e e0 e1 e2 => ?_, g7, by rw [h1]; exact g8⟩
  · by_cases c : j = i
    · subst c
      rw [h3, fX_s]
    · rw [h2 _ (fun z => c (g3 j i j2 i2 z)), fX_n c]
      exact g5 j j2
  · rw [h2 e (fun z => ?_)]
    · exact g6 e e0 e1 e2
    · rcases g7.1 i i2 with w | w
      · exact e2 i i2 (z.trans w)
      · rw [← z] at w; omega
theorem fX_u {i n : Nat} {v : Int32} : fX q i (upd (q.1 i) n v) = uX q i n v := rfl
theorem NW_st (h : NW G E S b cap q) {i n : Nat} {v : Int32} (i2 : i < 9) : NW G E (hu S (b i) (.inl (G.1 0, nN cap i, .inl (upd (q.1 i) n v)))) b cap (uX q i n v) := by
  rw [← fX_u]
  exact NW_u h i2 h.1.1.hu rfl (fun e he => hu_ne he) (hu_self (h.2.1.2 i i2))
theorem NW_pf (h : NW G E S b cap q) {fs : List Value} {j : Nat} {v : Int32} (e : fs = [.ref (b 0), .ref (b 1), .ref (b 2), .ref (b 3), .ref (b 4), .ref (b 5), .ref (b 6), .ref (b 7), .ref (b 8), .int ((uC q j v).2 9), .int ((uC q j v).2 10), .int ((uC q j v).2 11), .int ((uC q j v).2 12), .int ((uC q j v).2 13), .int ((uC q j v).2 14)]) : NW G E (hu S E.2.1 (.inr (12, fs))) b cap (uC q j v) := by
  obtain ⟨⟨g1, g3⟩, ⟨g4, g5⟩, g6, g7, g8⟩ := h
  refine ⟨⟨g1.hu, g3⟩, ⟨by rw [hu_self g4, e], fun j j2 => ?_⟩, fun e e0 e1 e2 => ?_, g7, g8⟩
  · have hj := g5 j j2
    have nb : b j ≠ E.2.1 := at_ne hj g4 (fun z => by cases z)
    rw [hu_ne nb]
    exact hj
  · rw [hu_ne e1]
    exact g6 e e0 e1 e2
theorem nw_g (h : NW G E S b cap q) {i : Nat} (i2 : i < 9) {F : Option Nat → Option τ} (kk : dc_wp (F (some (b i))) Φ) : dc_wp ((hg_gr S (some E.2.1) 12 i).bind F) Φ := by
  have : i = 0 ∨ i = 1 ∨ i = 2 ∨ i = 3 ∨ i = 4 ∨ i = 5 ∨ i = 6 ∨ i = 7 ∨ i = 8 := by omega
  rcases this with e | e | e | e | e | e | e | e | e <;> subst e <;> exact wq_gr h.2.1.1 rfl kk
theorem nw_i (h : NW G E S b cap q) {i : Nat} (i1 : 9 ≤ i) (i2 : i < 15) {F : Int32 → Option τ} (kk : dc_wp (F (q.2 i)) Φ) : dc_wp ((hg_gi S (some E.2.1) 12 i).bind F) Φ := by
  have : i = 9 ∨ i = 10 ∨ i = 11 ∨ i = 12 ∨ i = 13 ∨ i = 14 := by omega
  rcases this with e | e | e | e | e | e <;> subst e <;> exact wq_gi h.2.1.1 rfl kk
theorem nw_c (h : NW G E S b cap q) {F : Nat → Option τ} (kk : dc_wp (F E.2.1) Φ) : dc_wp ((hg_chk S (some E.2.1) 12).bind F) Φ := wq_chk h.2.1.1 kk
theorem nw_l (h : NW G E S b cap q) {i : Nat} (i2 : i < 9) {x : Int32} (h0 : 0 ≤ x.toInt) (h1 : x.toInt < (nN cap i : Int)) {F : Int32 → Option τ} (kk : dc_wp (F (q.1 i x.toInt.toNat)) Φ) : dc_wp ((hg_ld S (some (b i)) (G.1 0) x).bind F) Φ := wq_ld (h.2.1.2 i i2) h0 h1 kk
theorem nw_s (h : NW G E S b cap q) {i : Nat} (i2 : i < 9) {x v : Int32} (h0 : 0 ≤ x.toInt) (h1 : x.toInt < (nN cap i : Int)) {F : hg_S → Option τ} (kk : ∀ S', NW G E S' b cap (uX q i x.toInt.toNat v) → dc_wp (F S') Φ) : dc_wp ((hg_st S (some (b i)) (G.1 0) x v).bind F) Φ := wq_st (h.2.1.2 i i2) h0 h1 (kk _ (NW_st h i2))
theorem nw_f (h : NW G E S b cap q) {j : Nat} {v : Int32} (j1 : 9 ≤ j) (j2 : j < 15) {F : hg_S → Option τ} (kk : ∀ S', NW G E S' b cap (uC q j v) → dc_wp (F S') Φ) : dc_wp ((hg_pf S (some E.2.1) 12 j (.int v)).bind F) Φ := by
  have : j = 9 ∨ j = 10 ∨ j = 11 ∨ j = 12 ∨ j = 13 ∨ j = 14 := by omega
  rcases this with e | e | e | e | e | e <;> subst e <;> exact wq_pf h.2.1.1 (Nat.le_of_ble_eq_true rfl) (kk _ (NW_pf h rfl))
end NWR
section WDN
variable {G : hg_E} {S : hg_S}
/-- Arrays.copyOf, to a greater length -/
theorem cpo_w {a N P : Nat} {f : Nat → Int32} {x : Int32} (h0 : hw S) (ha : hg_at S.1 a = some (.inl (G.1 0, N, .inl f))) (hx : x.toInt = (P : Int)) (hNP : N < P) (hP : P ≤ 100000) (r1 : 1 ≤ S.2.2.1) (r2 : P ≤ S.2.2.2) : dc_wp (hm_JA_copyOf G S (some a) x) (fun z => z.2 = some S.2.1 ∧ (hw z.1 ∧ z.1.2 = (S.2.1 + 1, S.2.2.1 - 1, S.2.2.2 - P)) ∧ (∀ e, e ≠ S.2.1 → hg_at z.1.1 e = hg_at S.1 e) ∧ hg_at z.1.1 S.2.1 = some (.inl (G.1 0, P, .inl (fun i => if i < N then f i else 0)))) := by
  have tN : (Int32.ofNat N).toInt = (N : Int) := Int32.toInt_ofNat_of_lt (by omega)
  have al := h0.lt ha
  delta hm_JA_copyOf
  refine wq_ln ha ?_
  rw [if_neg (fun z => by rw [z, tN] at hx; omega)]
  refine wq_newa (N := P) hx r1 r2 (by omega) ?_
  generalize hS1 : hp S (.inl (G.1 0, P, .inl (fun _ => 0))) P = S1
  have s1w : hw S1 := by rw [← hS1]; exact h0.hp
  have s12 : S1.2 = (S.2.1 + 1, S.2.2.1 - 1, S.2.2.2 - P) := by rw [← hS1]; rfl
  have s1h : hg_at S1.1 S.2.1 = some (.inl (G.1 0, P, .inl (fun _ => 0))) := by rw [← hS1]; exact hp_self h0
  have s1n : ∀ e, e ≠ S.2.1 → hg_at S1.1 e = hg_at S.1 e := fun e he => by rw [← hS1]; exact hp_ne he
  refine wq_let (fun v ev => ?_)
  subst ev
  have ha1 : hg_at S1.1 a = some (.inl (G.1 0, N, .inl f)) := by rw [s1n a (by omega)]; exact ha
  refine wq_ln ha1 ?_
  have em : hg_min (Int32.ofNat N) x = Int32.ofNat N := by
    unfold hg_min
    rw [if_neg (by rw [i_lt, tN, hx]; omega)]
  rw [em]
  have t0 := il_0
  refine wq_cpy (ty := .int) ha1 s1h (by omega) (by omega) (by omega) (by omega) (by omega) (fun i hi => rfl) ?_
  refine ⟨_, rfl, rfl, ⟨s1w.hu, s12⟩, fun e he => by rw [hu_ne he]; exact s1n e he, ?_⟩
  rw [hu_self s1h]
  have ef : va_cpy f (fun _ => 0) (0 : Int32).toInt.toNat (0 : Int32).toInt.toNat (Int32.ofNat N).toInt.toNat = fun i => if i < N then f i else 0 := by
    funext i
    rw [show (Int32.ofNat N).toInt.toNat = N by omega]
    exact cpy_v
  rw [ef]
end WDN
