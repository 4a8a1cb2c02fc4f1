/-! the class's atlas: the pauses held are set out of a state's bits -/
def hdO (G : hg_E) (S S' : hg_S) (hA pa : Nat) (x1 : Int32) (k : Nat) : Prop := hw S' ∧ S'.2 = S.2 ∧ (∀ e, e ≠ hA → hg_at S'.1 e = hg_at S.1 e) ∧ ∃ hf', hg_at S'.1 hA = some (.inl (G.1 2, pa, .inl hf')) ∧ ∀ p, p < k → hf' p = if inB x1 p = 0 then 0 else 1
section HLD
variable {G : hg_E} {S : hg_S} {o hA pa : Nat} {x1 : Int32} {x2 x3 : Option Nat} {hf : Nat → Int32}
theorem hdt_w {τ : hg_S → Prop} (h0 : hw S) (hh : hg_at S.1 hA = some (.inl (G.1 2, pa, .inl hf))) (hpa : pa ≤ 200) (kk : ∀ S', hdO G S S' hA pa x1 pa → dc_wp (hm_AT_tryAll_L36 G S' o x1 x2 x3 (some hA)) τ) : dc_wp (hm_AT_tryAll G S o x1 x2 x3 (some hA)) τ := by
  have tp : (Int32.ofNat pa).toInt = (pa : Int) := Int32.toInt_ofNat_of_lt (by omega)
  have key := dc_itK (step := hm_AT_tryAll_s3 G o x1 x2 x3 (some hA)) (fun d (z : hg_S × Int32) => ∃ j, z.2 = Int32.ofNat j ∧ j ≤ pa ∧ d = pa - j ∧ hdO G S z.1 hA pa x1 j) (F := fun S' => hdO G S S' hA pa x1 pa) (by
    rintro d ⟨Y, z⟩ ⟨j, ev, j1, ed, g⟩
    have ev' : z = Int32.ofNat j := ev
    obtain ⟨y0, y1, y2, hf', y3, y4⟩ : hdO G S Y hA pa x1 j := g
    have tj : (Int32.ofNat j).toInt = (j : Int) := Int32.toInt_ofNat_of_lt (by omega)
    have tjn : (Int32.ofNat j).toInt.toNat = j := by omega
    show dc_wp (hm_AT_tryAll_b3 G Y o x1 x2 x3 (some hA) z) _
    rw [ev']
    delta hm_AT_tryAll_b3
    refine wq_ln y3 ?_
    refine wq_if (fun c => ?_) (fun c => ?_)
    · have c := i_lt.mp c
      rw [tj, tp] at c
      have last : ∀ v : Int32, (v = 0 ∨ v = 1) → v = (if inB x1 j = 0 then 0 else 1) → dc_wp (hm_AT_tryAll_L29 G Y o x1 x2 x3 (some hA) (Int32.ofNat j) v (Int32.ofNat j) (some hA)) (Sum.elim (fun z => ∃ k', k' < d ∧ ∃ j, z.2 = Int32.ofNat j ∧ j ≤ pa ∧ k' = pa - j ∧ hdO G S z.1 hA pa x1 j) (fun S' => hdO G S S' hA pa x1 pa)) := by
        intro v v1 v2
        delta hm_AT_tryAll_L29
        refine zb_s v1 ?_
        refine wq_st y3 (by omega) (by omega) ?_
        rw [tjn]
        refine ⟨_, rfl, pa - (j + 1), by omega, j + 1, ad_m (by omega), by omega, rfl, y0.hu, y1, fun e he => ?_, _, hu_self y3, fun p hp => ?_⟩
        · rw [hu_ne he]; exact y2 e he
        · by_cases ep : p = j
          · subst ep
            rw [upd_s]; exact v2
          · rw [upd_n ep]
            exact y4 p (by omega)
      refine wq_if (fun c2 => ?_) (fun c2 => ?_)
      · have c2 : inB x1 j = 0 := c2
        exact last 0 (Or.inl rfl) (by rw [if_pos c2])
      · have c2 : ¬ inB x1 j = 0 := c2
        exact last 1 (Or.inr rfl) (by rw [if_neg c2])
    · have c : ¬ (Int32.ofNat j).toInt < (Int32.ofNat pa).toInt := fun z => c (i_lt.mpr z)
      rw [tj, tp] at c
      have ej : j = pa := by omega
      rw [ej] at y4
      exact ⟨_, rfl, y0, y1, y2, hf', y3, y4⟩)
  delta hm_AT_tryAll hm_AT_tryAll_L3
  refine wq_call (key pa (S, 0) ⟨0, rfl, Nat.zero_le _, rfl, h0, rfl, fun _ _ => rfl, hf, hh, fun p hp => absurd hp (by omega)⟩) ?_
  exact fun S' h => kk S' h
end HLD
