/-! pairs of codes, and codes below one trap more -/
theorem sh_e : ∀ i, i < 32 → ((Int32.ofNat i &&& 31).toBitVec.smod 32).toNat = i := by decide +kernel
theorem mk_e : ∀ i, i < 30 → ∀ k, k < 32 → gb (((2 : Int32) <<< (Int32.ofNat i &&& (31 : Int32))) - 1) k = decide (k ≤ i) := by decide +kernel
theorem on_e : ∀ i, i < 30 → ∀ k, k < 32 → gb ((1 : Int32) <<< (Int32.ofNat i &&& (31 : Int32))) k = decide (k = i) := by decide +kernel
theorem nx_e : ∀ i, i < 30 → Int32.ofNat i + 1 = Int32.ofNat (i + 1) := by decide +kernel
theorem lt_e : ∀ i, i < 31 → (Int32.ofNat i < 30 ↔ i < 30) := by decide +kernel
section PRS
variable {c c1 c2 d : Int32} {X Y : Nat → Prop}
theorem sr_b {i : Nat} (hi : i < 30) (h : cB c X) : ((c >>> (Int32.ofNat i &&& (31 : Int32))) &&& 1) = 1 ↔ X i := by
  rw [bit1]
  have e : gb (c >>> (Int32.ofNat i &&& (31 : Int32))) 0 = gb c (i + 0) := by
    show (c.toBitVec.sshiftRight ((Int32.ofNat i &&& 31).toBitVec.smod 32).toNat).getLsbD 0 = _
    rw [sh_e i (by omega)]
    exact gb_sr (h.hi (by omega))
  rw [e]
  exact h.1 i
theorem mask_b {i : Nat} (hi : i < 30) (h : cB c X) : (c &&& (((2 : Int32) <<< (Int32.ofNat i &&& (31 : Int32))) - 1)) = 0 ↔ ∀ k, k ≤ i → ¬ X k := by
  constructor
  · intro z k hk hX
    have z2 : gb (c &&& (((2 : Int32) <<< (Int32.ofNat i &&& (31 : Int32))) - 1)) k = gb 0 k := congrArg (fun z => gb z k) z
    rw [gb_and, mk_e i hi k (by omega), gb_0, decide_eq_true hk, Bool.and_true] at z2
    have z3 : gb c k = true := (h.1 k).mpr hX
    rw [z2] at z3
    cases z3
  · intro z
    refine gb_eq (fun k hk => ?_)
    rw [gb_and, mk_e i hi k hk, gb_0]
    by_cases e : k ≤ i
    · have : gb c k = false := by
        cases e2 : gb c k
        · rfl
        · exact absurd ((h.1 k).mp e2) (z k e)
      rw [this]
      rfl
    · rw [decide_eq_false e, Bool.and_false]
theorem pairs_b (h1 : cB c1 X) (h2 : cB c2 Y) (hq : mm_pairs c1 c2 = some c) : cB c (xPa X Y) := by
  have main : dc_pw (mm_pairs_L4 c1 c2 0 0) (fun q => ∀ k, gb q k = true ↔ (k < 30 ∧ xPa X Y k)) := by
    delta mm_pairs_L4
    refine pw_loop (fun (x : Int32 × Int32) => ∃ i : Nat, i ≤ 30 ∧ x.2 = Int32.ofNat i ∧ ∀ k, gb x.1 k = true ↔ (k < i ∧ xPa X Y k)) (fun (z : Int32) => ∀ k, gb z k = true ↔ (k < 30 ∧ xPa X Y k)) ⟨0, by omega, rfl, fun k => by
      show gb 0 k = true ↔ _
      rw [gb_0]
      exact ⟨fun z => Bool.noConfusion z, fun z => by omega⟩⟩ ?_ ?_
    · rintro ⟨x, x3⟩ ⟨i, i1, i2, i3⟩ q hq
      have i2 : x3 = Int32.ofNat i := i2
      subst i2
      have i3 : ∀ k, gb x k = true ↔ (k < i ∧ xPa X Y k) := i3
      have hq : mm_pairs_b4 c1 c2 x (Int32.ofNat i) = some q := hq
      have stay : i < 30 → ¬ xPa X Y i → mm_pairs_L68 c1 c2 x (Int32.ofNat i) = some q → Sum.elim (fun (x : Int32 × Int32) => ∃ i : Nat, i ≤ 30 ∧ x.2 = Int32.ofNat i ∧ ∀ k, gb x.1 k = true ↔ (k < i ∧ xPa X Y k)) (fun (z : Int32) => ∀ k, gb z k = true ↔ (k < 30 ∧ xPa X Y k)) q := by
        intro hi hn hq
        have hq := (Option.some.inj hq).symm
        subst hq
        refine ⟨i + 1, by omega, nx_e i hi, fun k => (i3 k).trans ⟨fun z => ⟨by omega, z.2⟩, fun z => ⟨?_, z.2⟩⟩⟩
        have : ¬ k = i := fun e => hn (by rw [← e]; exact z.2)
        omega
      have set : i < 30 → xPa X Y i → mm_pairs_L60 c1 c2 x (Int32.ofNat i) = some q → Sum.elim (fun (x : Int32 × Int32) => ∃ i : Nat, i ≤ 30 ∧ x.2 = Int32.ofNat i ∧ ∀ k, gb x.1 k = true ↔ (k < i ∧ xPa X Y k)) (fun (z : Int32) => ∀ k, gb z k = true ↔ (k < 30 ∧ xPa X Y k)) q := by
        intro hi hn hq
        have hq := (Option.some.inj hq).symm
        subst hq
        refine ⟨i + 1, by omega, nx_e i hi, fun k => ?_⟩
        show gb (x ||| ((1 : Int32) <<< (Int32.ofNat i &&& (31 : Int32)))) k = true ↔ _
        rw [gb_or, Bool.or_eq_true, i3 k]
        by_cases hk : k < 32
        · rw [on_e i hi k hk, decide_eq_true_iff]
          constructor
          · rintro (z | rfl)
            · exact ⟨by omega, z.2⟩
            · exact ⟨by omega, hn⟩
          · rintro ⟨z1, z2⟩
            by_cases e : k = i
            · exact Or.inr e
            · exact Or.inl ⟨by omega, z2⟩
        · rw [gb_ge (a := (1 : Int32) <<< (Int32.ofNat i &&& (31 : Int32))) (by omega)]
          exact ⟨fun z => z.elim (fun y => by omega) (fun y => Bool.noConfusion y), fun z => by omega⟩
      delta mm_pairs_b4 at hq
      rcases iv_if hq with ⟨d1, hq⟩ | ⟨d1, hq⟩
      · have hi : i < 30 := (lt_e i (by omega)).mp d1
        have l33 : ¬ (X i ∧ ∃ k, k ≤ i ∧ Y k) → mm_pairs_L33 c1 c2 x (Int32.ofNat i) = some q → Sum.elim (fun (x : Int32 × Int32) => ∃ i : Nat, i ≤ 30 ∧ x.2 = Int32.ofNat i ∧ ∀ k, gb x.1 k = true ↔ (k < i ∧ xPa X Y k)) (fun (z : Int32) => ∀ k, gb z k = true ↔ (k < 30 ∧ xPa X Y k)) q := by
          intro hn hq
          delta mm_pairs_L33 mm_pairs_L34 at hq
          rw [if_pos rfl] at hq
          rcases iv_if hq with ⟨d2, hq⟩ | ⟨d2, hq⟩
          · rw [sr_b hi h2] at d2
            rcases iv_if hq with ⟨d3, hq⟩ | ⟨d3, hq⟩
            · rw [mask_b hi h1] at d3
              refine stay hi ?_ hq
              rintro (z | ⟨-, k, k1, k2⟩)
              · exact hn z
              · exact d3 k k1 k2
            · rw [mask_b hi h1] at d3
              refine set hi (Or.inr ⟨d2, ?_⟩) hq
              exact Classical.byContradiction (fun z => d3 (fun k hk hX => z ⟨k, hk, hX⟩))
          · rw [sr_b hi h2] at d2
            refine stay hi ?_ hq
            rintro (z | ⟨z, -⟩)
            · exact hn z
            · exact d2 z
        rcases iv_if hq with ⟨d2, hq⟩ | ⟨d2, hq⟩
        · rw [sr_b hi h1] at d2
          rcases iv_if hq with ⟨d3, hq⟩ | ⟨d3, hq⟩
          · rw [mask_b hi h2] at d3
            exact l33 (fun z => by obtain ⟨-, k, k1, k2⟩ := z; exact d3 k k1 k2) hq
          · rw [mask_b hi h2] at d3
            delta mm_pairs_L34 at hq
            rw [if_neg (by decide)] at hq
            refine set hi (Or.inl ⟨d2, ?_⟩) hq
            exact Classical.byContradiction (fun z => d3 (fun k hk hX => z ⟨k, hk, hX⟩))
        · rw [sr_b hi h1] at d2
          exact l33 (fun z => d2 z.1) hq
      · have hi : ¬ i < 30 := fun z => d1 ((lt_e i (by omega)).mpr z)
        have e : i = 30 := by omega
        subst e
        have hq := (Option.some.inj hq).symm
        subst hq
        exact i3
    · intro z hz q hq
      have hq := (Option.some.inj hq).symm
      subst hq
      exact hz
  have m := main c hq
  have lt : ∀ k, xPa X Y k → k < 28 := by
    rintro k (⟨z, -⟩ | ⟨z, -⟩)
    · exact h1.2 k z
    · exact h2.2 k z
  exact ⟨fun k => (m k).trans ⟨fun z => z.2, fun z => ⟨by have := lt k z; omega, z⟩⟩, lt⟩
/-- one trap more around: what it catches is free -/
def xIn (X : Nat → Prop) (k : Nat) : Prop := (k < 2 ∧ X k) ∨ (3 ≤ k ∧ X (k - 1))
theorem cAb_b (h : cB c X) (hX : ∀ k, X k → k < 27) : cB (cAb c) (xIn X) := by
  have h31 := h.hi (k := 31) (by omega)
  have s2 : ∀ k, gb (c >>> (2 &&& (31 : Int32))) k = gb c (2 + k) := fun k => gb_sr (s := 2) h31
  refine ⟨fun k => ?_, ?_⟩
  · show gb ((c &&& 3) ||| ((c >>> (2 &&& (31 : Int32))) <<< (3 &&& (31 : Int32)))) k = true ↔ _
    rw [gb_or, gb_and, gb_3, gb_sl3, s2]
    simp only [Bool.or_eq_true, Bool.and_eq_true, decide_eq_true_iff, Bool.not_eq_true', decide_eq_false_iff_not]
    rw [h.1 k, h.1 (2 + (k - 3))]
    constructor
    · rintro (⟨z1, z2⟩ | ⟨⟨z1, z2⟩, z3⟩)
      · exact Or.inl ⟨z2, z1⟩
      · refine Or.inr ⟨by omega, ?_⟩
        rw [show k - 1 = 2 + (k - 3) by omega]
        exact z3
    · rintro (⟨z1, z2⟩ | ⟨z1, z2⟩)
      · exact Or.inl ⟨z2, z1⟩
      · have := hX _ z2
        refine Or.inr ⟨⟨by omega, by omega⟩, ?_⟩
        rw [show 2 + (k - 3) = k - 1 by omega]
        exact z2
  · rintro k (⟨z1, z2⟩ | ⟨z1, z2⟩)
    · omega
    · have := hX _ z2
      omega
theorem cAb2_b (h : cB c X) : cB (cAb2 c) (fun k => (¬ X 0 ∧ X k) ∨ (X 0 ∧ ((¬ k = 0 ∧ X k) ∨ k = 2))) := by
  delta cAb2
  by_cases d : (c &&& 1) = 0
  · rw [if_pos d]
    have n0 : ¬ X 0 := fun z => by
      have z2 : gb c 0 = true := (h.1 0).mpr z
      rw [bit0.mp d] at z2
      cases z2
    exact cB_congr h (fun k => ⟨fun z => Or.inl ⟨n0, z⟩, fun z => by
      rcases z with ⟨-, z⟩ | ⟨z, -⟩
      · exact z
      · exact absurd z n0⟩)
  · rw [if_neg d]
    have y0 : X 0 := (h.1 0).mp (by
      cases e : c.toBitVec.getLsbD 0
      · exact absurd (bit0.mpr e) d
      · rfl)
    refine ⟨fun k => ?_, ?_⟩
    · show gb ((c &&& (-2)) ||| 4) k = true ↔ _
      rw [gb_or, gb_and, gb_m2, gb_4, Bool.or_eq_true, Bool.and_eq_true, decide_eq_true_iff, decide_eq_true_iff]
      constructor
      · rintro (⟨z1, z2⟩ | z)
        · exact Or.inr ⟨y0, Or.inl ⟨z2.1, (h.1 k).mp z1⟩⟩
        · exact Or.inr ⟨y0, Or.inr z⟩
      · rintro (⟨z, -⟩ | ⟨-, ⟨z1, z2⟩ | z⟩)
        · exact absurd y0 z
        · exact Or.inl ⟨(h.1 k).mpr z2, z1, by have := h.2 k z2; omega⟩
        · exact Or.inr z
    · rintro k (⟨-, z⟩ | ⟨-, ⟨-, z⟩ | z⟩)
      · exact h.2 k z
      · exact h.2 k z
      · omega
end PRS
