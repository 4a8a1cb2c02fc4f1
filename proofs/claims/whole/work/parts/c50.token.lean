/-! class's token and reference's token: the same -/
def sg : List Int64 := [59, 44, 40, 41, 256]
theorem sg_e : sg.getD 0 0 = Int32.toInt64 59 ∧ sg.getD 1 0 = Int32.toInt64 44 ∧ sg.getD 2 0 = Int32.toInt64 40 ∧ sg.getD 3 0 = Int32.toInt64 41 ∧ sg.getD 4 0 = Int32.toInt64 256 := by decide +kernel
theorem we_ge {f : Nat → Int32} {n : Nat} : ∀ (k p : Nat), p ≤ we f n k p
  | 0, p => Nat.le_refl p
  | k + 1, p => by
    show p ≤ (if p < n ∧ pln (f p) then we f n k (p + 1) else p)
    by_cases h : p < n ∧ pln (f p)
    · rw [if_pos h]
      have := we_ge (f := f) (n := n) k (p + 1)
      omega
    · rw [if_neg h]
      omega
theorem we_gt {f : Nat → Int32} {n p : Nat} (h : p < n ∧ pln (f p)) : p < we f n (n - p) p := by
  rw [we_go h]
  have := we_ge (f := f) (n := n) (n - (p + 1)) (p + 1)
  omega
theorem we_in {f : Nat → Int32} {n : Nat} : ∀ (k p i : Nat), p ≤ i → i < we f n k p → i < n ∧ pln (f i)
  | 0, p, i, h1, h2 => by
    have h2 : i < p := h2
    omega
  | k + 1, p, i, h1, h2 => by
    have h2 : i < (if p < n ∧ pln (f p) then we f n k (p + 1) else p) := h2
    by_cases h : p < n ∧ pln (f p)
    · rw [if_pos h] at h2
      by_cases c : i = p
      · rw [c]; exact h
      · exact we_in k (p + 1) i (by omega) h2
    · rw [if_neg h] at h2
      omega
theorem pln_rg {c : Int32} (h : pln c) : 1 ≤ c.toInt ∧ c.toInt ≤ 127 := by
  have k97 : (97 : Int32).toInt = 97 := by decide
  have k122 : (122 : Int32).toInt = 122 := by decide
  have k65 : (65 : Int32).toInt = 65 := by decide
  have k90 : (90 : Int32).toInt = 90 := by decide
  have k48 : (48 : Int32).toInt = 48 := by decide
  have k57 : (57 : Int32).toInt = 57 := by decide
  have k95 : (95 : Int32).toInt = 95 := by decide
  rcases h with (⟨a, b⟩ | ⟨a, b⟩) | ⟨a, b⟩ | a
  · rw [i_lt] at a b; omega
  · rw [i_lt] at a b; omega
  · rw [i_lt] at a b; omega
  · rw [a]; omega
theorem ltr_nm {c : Int32} (h : ltr c) : 57 < c ∧ ¬ c = 95 := by
  have k97 : (97 : Int32).toInt = 97 := by decide
  have k122 : (122 : Int32).toInt = 122 := by decide
  have k65 : (65 : Int32).toInt = 65 := by decide
  have k90 : (90 : Int32).toInt = 90 := by decide
  have k57 : (57 : Int32).toInt = 57 := by decide
  have k95 : (95 : Int32).toInt = 95 := by decide
  rcases h with ⟨a, b⟩ | ⟨a, b⟩
  · rw [i_lt] at a b
    rw [i_lt, i_eq]; omega
  · rw [i_lt] at a b
    rw [i_lt, i_eq]; omega
theorem nltr_nm {c : Int32} (h : ¬ ltr c) (g : pln c) : ¬ (57 < c ∧ ¬ c = 95) := by
  rcases g with g | g | g
  · exact absurd g h
  · exact fun z => g.2 z.1
  · exact fun z => z.2 g
set_option maxRecDepth 100000 in
/-- the first letters of Token's texts, and their lengths -/
theorem tx_f1 : ∀ j, j < 26 → ltr ((hk_tx.getD j []).getD 0 0) ∧ 1 ≤ (hk_tx.getD j []).length ∧ (hk_tx.getD j []).length ≤ 8 := by decide +kernel
set_option maxRecDepth 100000 in
theorem tx_f2 : ∀ j, j < 5 → ¬ pln ((hk_tx.getD (26 + j) []).getD 0 0) := by decide +kernel
theorem tx_f3 : hk_tx.getD 26 [] = [59] ∧ hk_tx.getD 27 [] = [44] ∧ hk_tx.getD 28 [] = [40] ∧ hk_tx.getD 29 [] = [41] ∧ hk_tx.getD 30 [] = [124, 124] := by decide +kernel
theorem tx_first : (∀ j, j < 26 → ltr ((hk_tx.getD j []).getD 0 0) ∧ 1 ≤ (hk_tx.getD j []).length ∧ (hk_tx.getD j []).length ≤ 8) ∧ (∀ j, j < 31 → 26 ≤ j → ¬ pln ((hk_tx.getD j []).getD 0 0)) ∧ (hk_tx.getD 26 [] = [59] ∧ hk_tx.getD 27 [] = [44] ∧ hk_tx.getD 28 [] = [40] ∧ hk_tx.getD 29 [] = [41] ∧ hk_tx.getD 30 [] = [124, 124]) := by
  refine ⟨tx_f1, fun j h1 h2 => ?_, tx_f3⟩
  have := tx_f2 (j - 26) (by omega)
  rw [show 26 + (j - 26) = j by omega] at this
  exact this
theorem w64_inj {a b : Int32} (h : Int32.toInt64 a = Int32.toInt64 b) : a = b := by
  have := congrArg Int64.toInt h
  rw [Int32.toInt_toInt64, Int32.toInt_toInt64] at this
  exact i_eq.mpr this
/-- r, the class's token, against sort and word of the reference -/
def tokS (r : Option Nat) (s : Int32) (w : Int64) : Prop :=
  match r with
  | some j => (j = 32 ∧ s = 0) ∨ (j = 31 ∧ s = 1 ∧ ∀ i, i < 26 → ¬ w = kw.getD i 0) ∨ (j < 26 ∧ s = 1 ∧ w = kw.getD j 0) ∨ (26 ≤ j ∧ j < 31 ∧ s = 2 ∧ w = sg.getD (j - 26) 0)
  | none => s = 3 ∨ (s = 2 ∧ ∀ i, i < 5 → ¬ w = sg.getD i 0)
theorem tok_same {f : Nat → Int32} {n p q q' : Nat} {r : Option Nat} {s : Int32} {w : Int64} (hf : (f p).toInt ≤ 127) (h : tokR f n p q r) (g : rtok f n p q' s w) : tokS r s w ∧ (¬ r = none → q' = q) := by
  obtain ⟨t1, t2, t3⟩ := tx_first
  rcases h with ⟨h1, h2, rfl⟩ | ⟨h1, h2, h3⟩
  · rcases g with ⟨-, g2, rfl, -⟩ | ⟨g1, -⟩ | ⟨g1, -⟩
    · exact ⟨Or.inl ⟨rfl, rfl⟩, fun _ => by omega⟩
    · omega
    · omega
  · rcases g with ⟨g1, -⟩ | ⟨-, g2, g3, g4, g5⟩ | ⟨-, g2, rfl, g4⟩
    · omega
    · -- a letter
      have hpl : pln (f p) := Or.inl g2
      have hgt := we_gt ⟨h1, hpl⟩
      have hq : we f n (n - p) p = q := by
        rcases h2 with ⟨e, -⟩ | ⟨e, -⟩
        · exact e
        · omega
      have hqq : q' = q := by omega
      subst hqq
      have hc : ∀ i, i < q' - p → 1 ≤ (f (p + i)).toInt ∧ (f (p + i)).toInt ≤ 127 := fun i hi => pln_rg (we_in (f := f) (n := n) (n - p) p (p + i) (by omega) (by omega)).2
      have nm := ltr_nm g2
      refine ⟨?_, fun _ => rfl⟩
      rcases h3 with ⟨j, j1, rfl, j2, -⟩ | ⟨j1, ⟨j2, rfl⟩ | ⟨j2, rfl⟩⟩
      · have j3 : j < 26 := by
          rcases Nat.lt_or_ge j 26 with c | c
          · exact c
          · exfalso
            refine t2 j j1 c ?_
            have hl : 0 < (hk_tx.getD j []).length := by have := j2.1; omega
            rw [j2.2 0 hl]
            exact hpl
        have l8 := (t1 j j3).2.2
        have := j2.1
        refine Or.inr (Or.inr (Or.inl ⟨j3, ?_, ?_⟩))
        · rcases g4 with ⟨e, -⟩ | ⟨-, e⟩
          · omega
          · exact e
        · rw [g5]
          exact (kw_sl j3 (by omega) hc).mpr j2
      · refine Or.inr (Or.inl ⟨rfl, ?_, fun i hi => ?_⟩)
        · rcases g4 with ⟨e, -⟩ | ⟨-, e⟩
          · have := j2.2.2.2; omega
          · exact e
        · rw [g5]
          exact fun z => j1 i (by omega) ((kw_sl hi (by omega) hc).mp z)
      · refine Or.inl ?_
        rcases g4 with ⟨-, e⟩ | ⟨e, -⟩
        · exact e
        · exact absurd ⟨by omega, nm.1, nm.2, e⟩ j2
    · -- no letter
      have nokw : ∀ j, j < 26 → ¬ sl f p q (hk_tx.getD j []) := by
        intro j hj z
        have a := t1 j hj
        have := z.2 0 (by omega)
        rw [Nat.add_zero] at this
        rw [this] at a
        exact g2 a.1
      by_cases hpl : pln (f p)
      · have hgt := we_gt ⟨h1, hpl⟩
        have n1 := nltr_nm g2 hpl
        have nosg : ∀ j, j < 31 → ¬ sl f p q (hk_tx.getD j []) := by
          intro j hj z
          rcases Nat.lt_or_ge j 26 with c | c
          · exact nokw j c z
          · refine t2 j hj c ?_
            have hl : 0 < (hk_tx.getD j []).length := by
              have := tx_ne j hj
              omega
            rw [z.2 0 hl]
            exact hpl
        rcases h3 with ⟨j, j1, rfl, j2, -⟩ | ⟨-, ⟨j2, rfl⟩ | ⟨-, rfl⟩⟩
        · exact absurd j2 (nosg j j1)
        · exact absurd ⟨j2.2.1, j2.2.2.1⟩ n1
        · refine ⟨Or.inr ⟨rfl, ?_⟩, fun z => absurd rfl z⟩
          have n124 : ¬ f p = 124 := by
            intro z
            rw [z] at hpl
            exact absurd hpl (by decide)
          rcases g4 with ⟨⟨e, -⟩, -⟩ | ⟨-, -, e⟩
          · exact absurd e n124
          · intro i hi z
            rw [e] at z
            have hi5 : i = 0 ∨ i = 1 ∨ i = 2 ∨ i = 3 ∨ i = 4 := by omega
            rcases hi5 with c | c | c | c | c <;> subst c
            · have := w64_inj (z.trans sg_e.1); rw [this] at hpl; exact absurd hpl (by decide)
            · have := w64_inj (z.trans sg_e.2.1); rw [this] at hpl; exact absurd hpl (by decide)
            · have := w64_inj (z.trans sg_e.2.2.1); rw [this] at hpl; exact absurd hpl (by decide)
            · have := w64_inj (z.trans sg_e.2.2.2.1); rw [this] at hpl; exact absurd hpl (by decide)
            · have := w64_inj (z.trans sg_e.2.2.2.2)
              rw [this] at hf
              exact absurd hf (by decide)
      · have hwe : we f n (n - p) p = p := we_stop (fun z => hpl z.2) _
        have hq : q = p + (if f p = 124 ∧ p + 1 < n ∧ f (p + 1) = 124 then 2 else 1) := by
          rcases h2 with ⟨e1, e2⟩ | ⟨-, e⟩
          · omega
          · exact e
        rcases g4 with ⟨b1, b2, b3⟩ | ⟨b1, b2, b3⟩
        · rw [if_pos b1] at hq
          have s30 : sl f p q (hk_tx.getD 30 []) := by
            rw [t3.2.2.2.2]
            refine ⟨by rw [hq]; rfl, fun i hi => ?_⟩
            have hi : i < 2 := hi
            have : i = 0 ∨ i = 1 := by omega
            rcases this with c | c <;> subst c
            · exact b1.1.symm
            · exact b1.2.2.symm
          have only : ∀ j, j < 31 → sl f p q (hk_tx.getD j []) → j = 30 := by
            intro j hj z
            rcases Nat.lt_or_ge j 26 with c | c
            · exact absurd z (nokw j c)
            · have z1 := z.1
              have : j = 26 ∨ j = 27 ∨ j = 28 ∨ j = 29 ∨ j = 30 := by omega
              rcases this with e | e | e | e | e
              · rw [e, t3.1] at z1; have z1 : p + 1 = q := z1; omega
              · rw [e, t3.2.1] at z1; have z1 : p + 1 = q := z1; omega
              · rw [e, t3.2.2.1] at z1; have z1 : p + 1 = q := z1; omega
              · rw [e, t3.2.2.2.1] at z1; have z1 : p + 1 = q := z1; omega
              · exact e
          rcases h3 with ⟨j, j1, rfl, j2, -⟩ | ⟨j1, -⟩
          · have e := only j j1 j2
            subst e
            exact ⟨Or.inr (Or.inr (Or.inr ⟨by omega, by omega, rfl, b3⟩)), fun _ => by omega⟩
          · exact absurd s30 (j1 30 (by omega))
        · rw [if_neg b1] at hq
          have one : ∀ (j : Nat) (c : Int32), hk_tx.getD j [] = [c] → (sl f p q (hk_tx.getD j []) ↔ f p = c) := by
            intro j c e
            rw [e]
            constructor
            · intro z
              exact (z.2 0 Nat.zero_lt_one).symm
            · intro z
              refine ⟨by rw [hq]; rfl, fun i hi => ?_⟩
              have hi : i < 1 := hi
              have : i = 0 := by omega
              subst this
              exact z.symm
          have n30 : ¬ sl f p q (hk_tx.getD 30 []) := by
            rw [t3.2.2.2.2]
            intro z
            have z1 : p + 2 = q := z.1
            omega
          rcases h3 with ⟨j, j1, rfl, j2, -⟩ | ⟨j1, ⟨j2, rfl⟩ | ⟨-, rfl⟩⟩
          · have hj : ¬ j < 26 := fun c => nokw j c j2
            refine ⟨Or.inr (Or.inr (Or.inr ⟨by omega, j1, rfl, ?_⟩)), fun _ => by omega⟩
            rw [b3]
            have : j = 26 ∨ j = 27 ∨ j = 28 ∨ j = 29 ∨ j = 30 := by omega
            rcases this with e | e | e | e | e <;> subst e
            · rw [(one 26 59 t3.1).mp j2]; decide +kernel
            · rw [(one 27 44 t3.2.1).mp j2]; decide +kernel
            · rw [(one 28 40 t3.2.2.1).mp j2]; decide +kernel
            · rw [(one 29 41 t3.2.2.2.1).mp j2]; decide +kernel
            · exact absurd j2 n30
          · have := j2.1
            omega
          · refine ⟨Or.inr ⟨rfl, fun i hi z => ?_⟩, fun z => absurd rfl z⟩
            rw [b3] at z
            have hi5 : i = 0 ∨ i = 1 ∨ i = 2 ∨ i = 3 ∨ i = 4 := by omega
            rcases hi5 with c | c | c | c | c <;> subst c
            · exact j1 26 (by omega) ((one 26 59 t3.1).mpr (w64_inj (z.trans sg_e.1)))
            · exact j1 27 (by omega) ((one 27 44 t3.2.1).mpr (w64_inj (z.trans sg_e.2.1)))
            · exact j1 28 (by omega) ((one 28 40 t3.2.2.1).mpr (w64_inj (z.trans sg_e.2.2.1)))
            · exact j1 29 (by omega) ((one 29 41 t3.2.2.2.1).mpr (w64_inj (z.trans sg_e.2.2.2.1)))
            · have := w64_inj (z.trans sg_e.2.2.2.2)
              rw [this] at hf
              exact absurd hf (by decide)
