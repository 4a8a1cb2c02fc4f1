/-! the class's atlas: states that act alike, the least one alike -/
/-- a state, by its number, is reached -/
def rcd (q : rsT) (x : Nat) : Prop := x < 257 ∧ ¬ q.1 2 x = -1
/-- they show the same and lead to the same, as far as groups tell -/
def acA (q : rsT) (W x y : Nat) : Prop := ∀ i, i < W → (q.1 0 (16 * x + i) = q.1 0 (16 * y + i) ∨ (awR q (q.1 0 (16 * x + i)) ∧ awR q (q.1 0 (16 * y + i)) ∧ q.1 6 (q.1 0 (16 * x + i)).toInt.toNat = q.1 6 (q.1 0 (16 * y + i)).toInt.toNat)) ∧ q.1 1 (16 * x + i) = q.1 1 (16 * y + i)
section ACA
variable {q : rsT} {W x y z : Nat}
theorem acA_r : acA q W x x := fun _ _ => ⟨Or.inl rfl, rfl⟩
theorem acA_s (h : acA q W x y) : acA q W y x := fun i hi => by
  obtain ⟨h1, h2⟩ := h i hi
  refine ⟨?_, h2.symm⟩
  rcases h1 with e | ⟨a, b, e⟩
  · exact Or.inl e.symm
  · exact Or.inr ⟨b, a, e.symm⟩
theorem acA_t (h : acA q W x y) (g : acA q W y z) : acA q W x z := fun i hi => by
  obtain ⟨h1, h2⟩ := h i hi
  obtain ⟨g1, g2⟩ := g i hi
  refine ⟨?_, h2.trans g2⟩
  rcases h1 with e | ⟨a, b, e⟩
  · rw [e]; exact g1
  · rcases g1 with e' | ⟨a', b', e'⟩
    · rw [← e']; exact Or.inr ⟨a, b, e⟩
    · exact Or.inr ⟨a, b', e.trans e'⟩
theorem rcd_R (h : x < 257) : awR q (Int32.ofNat x) ↔ rcd q x := by
  have t : (Int32.ofNat x).toInt = (x : Int) := Int32.toInt_ofNat_of_lt (by omega)
  have tn : (Int32.ofNat x).toInt.toNat = x := by omega
  unfold awR rcd
  rw [tn]
  exact ⟨fun z => ⟨h, z.2.2⟩, fun z => ⟨by omega, by omega, z.2⟩⟩
variable {G : hg_E} {E : awP} {S : hg_S}
theorem cel_n {i : Nat} : Int32.ofNat x * 16 + Int32.ofNat i = Int32.ofNat (16 * x + i) := by
  have e : Int32.ofNat x * 16 = Int32.ofNat (16 * x) := by
    rw [Int32.ofNat_mul, Int32.mul_comm]
    rfl
  rw [e, ← Int32.ofNat_add]
/-- the class's actAlike -/
theorem act_w (h : AW G E S q) (h8 : q.2 8 = Int32.ofNat W) (hW : W ≤ 16) (hx : x < 257) (hy : y < 257) : dc_wp (hm_AT_actAlike G S (wO E) (Int32.ofNat x) (Int32.ofNat y)) (fun v => (v = 1 ∧ acA q W x y) ∨ (v = 0 ∧ ¬ acA q W x y)) := by
  have w0 : (wN 0 : Int) = 4112 := rfl
  have w1 : (wN 1 : Int) = 4112 := rfl
  have w6 : (wN 6 : Int) = 257 := rfl
  have tW : (Int32.ofNat W).toInt = (W : Int) := Int32.toInt_ofNat_of_lt (by omega)
  have key := dc_itK (step := hm_AT_actAlike_s2 G S (wO E) (Int32.ofNat x) (Int32.ofNat y)) (fun d (v : Int32) => ∃ j, v = Int32.ofNat j ∧ j ≤ W ∧ d = W - j ∧ acA q j x y) (F := fun r => match r with | .inl _ => ¬ acA q W x y | .inr _ => acA q W x y) (by
    rintro d v ⟨j, ev, j1, ed, g⟩
    subst ev
    have tj : (Int32.ofNat j).toInt = (j : Int) := Int32.toInt_ofNat_of_lt (by omega)
    show dc_wp (hm_AT_actAlike_b2 G S (wO E) (Int32.ofNat x) (Int32.ofNat y) (Int32.ofNat j)) _
    delta hm_AT_actAlike_b2
    refine aw_i h (i := 8) (by decide) (by decide) ?_
    rw [h8]
    refine wq_if (fun c => ?_) (fun c => ?_)
    · have c := i_lt.mp c
      rw [tj, tW] at c
      have cx : (Int32.ofNat (16 * x + j)).toInt = ((16 * x + j : Nat) : Int) := Int32.toInt_ofNat_of_lt (by omega)
      have cy : (Int32.ofNat (16 * y + j)).toInt = ((16 * y + j : Nat) : Int) := Int32.toInt_ofNat_of_lt (by omega)
      have cxn : (Int32.ofNat (16 * x + j)).toInt.toNat = 16 * x + j := by omega
      have cyn : (Int32.ofNat (16 * y + j)).toInt.toNat = 16 * y + j := by omega
      delta hm_AT_cell
      rw [cel_n, cel_n]
      refine aw_g h (i := 0) (by decide) ?_
      refine (show dc_wp ((hg_ld S (some (wB E 0)) (G.1 0) (Int32.ofNat (16 * x + j))).bind _) _ from ?_)
      refine aw_l h (i := 0) (by decide) (by omega) (by omega) ?_
      refine aw_g h (i := 0) (by decide) ?_
      refine (show dc_wp ((hg_ld S (some (wB E 0)) (G.1 0) (Int32.ofNat (16 * y + j))).bind _) _ from ?_)
      refine aw_l h (i := 0) (by decide) (by omega) (by omega) ?_
      rw [cxn, cyn]
      -- the end of a step
      have fin : ∀ v : Int32, ((v = 0 ∧ ¬ (q.1 0 (16 * x + j) = q.1 0 (16 * y + j) ∨ (awR q (q.1 0 (16 * x + j)) ∧ awR q (q.1 0 (16 * y + j)) ∧ q.1 6 (q.1 0 (16 * x + j)).toInt.toNat = q.1 6 (q.1 0 (16 * y + j)).toInt.toNat))) ∨ (v = 1 ∧ (q.1 0 (16 * x + j) = q.1 0 (16 * y + j) ∨ (awR q (q.1 0 (16 * x + j)) ∧ awR q (q.1 0 (16 * y + j)) ∧ q.1 6 (q.1 0 (16 * x + j)).toInt.toNat = q.1 6 (q.1 0 (16 * y + j)).toInt.toNat)))) → dc_wp (hm_AT_actAlike_L95 G S (wO E) (Int32.ofNat x) (Int32.ofNat y) (Int32.ofNat j) v) (Sum.elim (fun v => ∃ k', k' < d ∧ ∃ j, v = Int32.ofNat j ∧ j ≤ W ∧ k' = W - j ∧ acA q j x y) (fun r => match r with | .inl _ => ¬ acA q W x y | .inr _ => acA q W x y)) := by
        intro v hv
        delta hm_AT_actAlike_L95
        rcases hv with ⟨e, no⟩ | ⟨e, yes⟩
        · rw [if_pos e]
          exact ⟨_, rfl, fun z => no (z j (by omega)).1⟩
        · rw [if_neg (by rw [e]; decide)]
          refine aw_g h (i := 1) (by decide) ?_
          delta hm_AT_cell
          rw [cel_n, cel_n]
          refine (show dc_wp ((hg_ld S (some (wB E 1)) (G.1 0) (Int32.ofNat (16 * x + j))).bind _) _ from ?_)
          refine aw_l h (i := 1) (by decide) (by omega) (by omega) ?_
          refine aw_g h (i := 1) (by decide) ?_
          refine (show dc_wp ((hg_ld S (some (wB E 1)) (G.1 0) (Int32.ofNat (16 * y + j))).bind _) _ from ?_)
          refine aw_l h (i := 1) (by decide) (by omega) (by omega) ?_
          rw [cxn, cyn]
          refine wq_if (fun c2 => ?_) (fun c2 => ?_)
          · refine ⟨_, rfl, W - (j + 1), by omega, j + 1, ad_m (by omega), by omega, rfl, fun i hi => ?_⟩
            by_cases ei : i = j
            · rw [ei]; exact ⟨yes, c2⟩
            · exact g i (by omega)
          · exact ⟨_, rfl, fun z => c2 (z j (by omega)).2⟩
      refine wq_if (fun c2 => ?_) (fun c2 => ?_)
      · delta hm_AT_actAlike_L46
        rw [if_neg (by decide)]
        exact fin 1 (Or.inr ⟨rfl, Or.inl c2⟩)
      · delta hm_AT_actAlike_L46
        rw [if_pos rfl]
        refine aw_c h ?_
        refine wq_call (rch_w h) (fun v hv => ?_)
        rcases hv with ⟨v1, v2⟩ | ⟨v1, v2⟩
        · rw [if_neg (by rw [v1]; decide)]
          refine aw_c h ?_
          refine wq_call (rch_w h) (fun v' hv' => ?_)
          rcases hv' with ⟨v3, v4⟩ | ⟨v3, v4⟩
          · rw [if_neg (by rw [v3]; decide)]
            refine aw_g h (i := 6) (by decide) ?_
            refine aw_l h (i := 6) (by decide) v2.1 (by rw [w6]; exact v2.2.1) ?_
            refine aw_g h (i := 6) (by decide) ?_
            refine aw_l h (i := 6) (by decide) v4.1 (by rw [w6]; exact v4.2.1) ?_
            refine wq_if (fun c3 => ?_) (fun c3 => ?_)
            · delta hm_AT_actAlike_L93
              exact fin 1 (Or.inr ⟨rfl, Or.inr ⟨v2, v4, c3⟩⟩)
            · delta hm_AT_actAlike_L93
              exact fin 0 (Or.inl ⟨rfl, fun z => z.elim c2 (fun w => c3 w.2.2)⟩)
          · rw [if_pos v3]
            exact fin 0 (Or.inl ⟨rfl, fun z => z.elim c2 (fun w => v4 w.2.1)⟩)
        · rw [if_pos v1]
          exact fin 0 (Or.inl ⟨rfl, fun z => z.elim c2 (fun w => v2 w.1)⟩)
    · have c : ¬ (Int32.ofNat j).toInt < (Int32.ofNat W).toInt := fun z => c (i_lt.mpr z)
      rw [tj, tW] at c
      have ej : j = W := by omega
      rw [ej] at g
      exact ⟨_, rfl, g⟩)
  delta hm_AT_actAlike hm_AT_actAlike_L2
  refine wq_call (key W 0 ⟨0, rfl, Nat.zero_le _, rfl, fun i hi => absurd hi (by omega)⟩) ?_
  intro r hr
  cases r with
  | inl r => exact ⟨_, rfl, Or.inr ⟨rfl, hr⟩⟩
  | inr r => exact ⟨_, rfl, Or.inl ⟨rfl, hr⟩⟩
/-- one ahead that leads its group and acts alike -/
def ldP (q : rsT) (W x k : Nat) : Prop := k < x ∧ rcd q k ∧ q.1 7 k = Int32.ofNat k ∧ q.1 6 k = q.1 6 x ∧ acA q W k x
/-- the class's leastAlike -/
theorem lst_w (h : AW G E S q) (h8 : q.2 8 = Int32.ofNat W) (hW : W ≤ 16) (hx : x < 257) : dc_wp (hm_AT_leastAlike G S (wO E) (Int32.ofNat x)) (fun v => ∃ r, v = Int32.ofNat r ∧ r ≤ x ∧ (∀ k, k < r → ¬ ldP q W x k) ∧ (r = x ∨ ldP q W x r)) := by
  have w6 : (wN 6 : Int) = 257 := rfl
  have w7 : (wN 7 : Int) = 257 := rfl
  have tx : (Int32.ofNat x).toInt = (x : Int) := Int32.toInt_ofNat_of_lt (by omega)
  have txn : (Int32.ofNat x).toInt.toNat = x := by omega
  have key := dc_itK (step := hm_AT_leastAlike_s2 G S (wO E) (Int32.ofNat x)) (fun d (v : Int32) => ∃ j, v = Int32.ofNat j ∧ j ≤ x ∧ d = x - j ∧ ∀ k, k < j → ¬ ldP q W x k) (F := fun r => match r with | .inl v => ∃ j, v = Int32.ofNat j ∧ j < x ∧ ldP q W x j ∧ ∀ k, k < j → ¬ ldP q W x k | .inr _ => ∀ k, k < x → ¬ ldP q W x k) (by
    rintro d v ⟨j, ev, j1, ed, g⟩
    subst ev
    have tj : (Int32.ofNat j).toInt = (j : Int) := Int32.toInt_ofNat_of_lt (by omega)
    have tjn : (Int32.ofNat j).toInt.toNat = j := by omega
    show dc_wp (hm_AT_leastAlike_b2 G S (wO E) (Int32.ofNat x) (Int32.ofNat j)) _
    delta hm_AT_leastAlike_b2
    refine wq_if (fun c => ?_) (fun c => ?_)
    · have c := i_lt.mp c
      rw [tj, tx] at c
      have no : ¬ ldP q W x j → dc_wp (hm_AT_leastAlike_L61 G S (wO E) (Int32.ofNat x) (Int32.ofNat j)) (Sum.elim (fun v => ∃ k', k' < d ∧ ∃ j, v = Int32.ofNat j ∧ j ≤ x ∧ k' = x - j ∧ ∀ k, k < j → ¬ ldP q W x k) (fun r => match r with | .inl v => ∃ j, v = Int32.ofNat j ∧ j < x ∧ ldP q W x j ∧ ∀ k, k < j → ¬ ldP q W x k | .inr _ => ∀ k, k < x → ¬ ldP q W x k)) := by
        intro nl
        delta hm_AT_leastAlike_L61
        refine ⟨_, rfl, x - (j + 1), by omega, j + 1, ad_m (by omega), by omega, rfl, fun k hk => ?_⟩
        by_cases ek : k = j
        · rw [ek]; exact nl
        · exact g k (by omega)
      refine aw_c h ?_
      refine wq_call (rch_w h) (fun v hv => ?_)
      rw [rcd_R (by omega)] at hv
      rcases hv with ⟨v1, v2⟩ | ⟨v1, v2⟩
      · rw [if_neg (by rw [v1]; decide)]
        refine aw_g h (i := 7) (by decide) ?_
        refine aw_l h (i := 7) (by decide) (by omega) (by omega) ?_
        rw [tjn]
        refine wq_if (fun c2 => ?_) (fun c2 => ?_)
        · delta hm_AT_leastAlike_L30
          rw [if_neg (by decide)]
          refine aw_g h (i := 6) (by decide) ?_
          refine aw_l h (i := 6) (by decide) (by omega) (by omega) ?_
          refine aw_g h (i := 6) (by decide) ?_
          refine aw_l h (i := 6) (by decide) (by omega) (by omega) ?_
          rw [tjn, txn]
          refine wq_if (fun c3 => ?_) (fun c3 => no (fun z => c3 z.2.2.2.1))
          refine aw_c h ?_
          refine wq_call (act_w h h8 hW (by omega) hx) (fun v' hv' => ?_)
          rcases hv' with ⟨v3, v4⟩ | ⟨v3, v4⟩
          · rw [if_neg (by rw [v3]; decide)]
            exact ⟨_, rfl, j, rfl, by omega, ⟨by omega, v2, c2, c3, v4⟩, g⟩
          · rw [if_pos v3]
            exact no (fun z => v4 z.2.2.2.2)
        · delta hm_AT_leastAlike_L29 hm_AT_leastAlike_L30
          rw [if_pos rfl]
          exact no (fun z => c2 z.2.2.1)
      · rw [if_pos v1]
        delta hm_AT_leastAlike_L29 hm_AT_leastAlike_L30
        rw [if_pos rfl]
        exact no (fun z => v2 z.2.1)
    · have c : ¬ (Int32.ofNat j).toInt < (Int32.ofNat x).toInt := fun z => c (i_lt.mpr z)
      rw [tj, tx] at c
      have ej : j = x := by omega
      rw [ej] at g
      exact ⟨_, rfl, g⟩)
  delta hm_AT_leastAlike hm_AT_leastAlike_L2
  refine wq_call (key x 0 ⟨0, rfl, Nat.zero_le _, rfl, fun i hi => absurd hi (by omega)⟩) ?_
  intro r hr
  cases r with
  | inl v =>
    obtain ⟨j, e, j1, j2, j3⟩ := hr
    exact ⟨v, rfl, j, e, by omega, j3, Or.inr j2⟩
  | inr r =>
    have hr : ∀ k, k < x → ¬ ldP q W x k := hr
    exact ⟨_, rfl, x, rfl, Nat.le_refl _, hr, Or.inl rfl⟩
end ACA
