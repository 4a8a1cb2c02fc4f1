/-! the class's program: pauses bounded -/
def bpF (R : Nat → Nat → Int32) (g : Nat → Int32) (j : Nat) : Int32 := if R 2 j = -1 then (if R 1 j = -1 then R 8 j + (if R 0 j = 1 then 1 else 0) else g (R 1 j).toInt.toNat) else g (R 2 j).toInt.toNat
section BP
variable {G : hg_E} {S0 : hg_S} {o pc dp : Nat} {a N : Nat → Nat} {M : Nat} {made : Int32}
theorem bp_w (hM : ∀ i, i < 11 → N i = M) (hM0 : M ≤ 5000) (no : o ≠ pc) {S : hg_S} {R : Nat → Nat → Int32} (v : GV G S0 S o pc dp a N R made) (h1 : ∀ j, j < M → R 1 j = -1 ∨ ((j : Int) < (R 1 j).toInt ∧ (R 1 j).toInt < (M : Int))) (h2 : ∀ j, j < M → R 2 j = -1 ∨ ((j : Int) < (R 2 j).toInt ∧ (R 2 j).toInt < (M : Int))) : dc_wp (hm_PG_boundPauses G S o) (fun S' => ∃ R', GV G S0 S' o pc dp a N R' made ∧ (∀ i, ¬ i = 9 → R' i = R i) ∧ ∀ j, j < M → R' 9 j = bpF R (R' 9) j) := by
  have N0 := hM 0 (by omega)
  have N1 := hM 1 (by omega)
  have N2 := hM 2 (by omega)
  have N8 := hM 8 (by omega)
  have N9 := hM 9 (by omega)
  delta hm_PG_boundPauses
  refine wg_pg v no (i := 0) (by omega) rfl ?_
  refine wg_ln v (i := 0) (by omega) ?_
  rw [N0]
  show dc_wp (hm_PG_boundPauses_L8 G S o (Int32.ofNat M - 1)) _
  delta hm_PG_boundPauses_L8
  refine wq_call (P := fun S' => ∃ R', GV G S0 S' o pc dp a N R' made ∧ (∀ i, ¬ i = 9 → R' i = R i) ∧ ∀ j, j < M → R' 9 j = bpF R (R' 9) j) ?_ (fun S' h => ⟨S', rfl, h⟩)
  have tM : (Int32.ofNat M - 1 : Int32).toInt = (M : Int) - 1 := by
    rw [i_subS (by rw [Int32.toInt_ofNat_of_lt (by omega), il_1]; omega), Int32.toInt_ofNat_of_lt (by omega), il_1]
  refine dc_itK (I := fun n (q : hg_S × Int32) => ∃ R', n ≤ M ∧ q.2.toInt = (n : Int) - 1 ∧ GV G S0 q.1 o pc dp a N R' made ∧ (∀ i, ¬ i = 9 → R' i = R i) ∧ ∀ j, n ≤ j → j < M → R' 9 j = bpF R (R' 9) j) ?_ M _ ⟨R, Nat.le_refl _, tM, v, fun _ _ => rfl, fun j _ _ => by omega⟩
  rintro n ⟨S1, x1⟩ ⟨R1, hn, ex, v1, i1, i2⟩
  have ex : x1.toInt = (n : Int) - 1 := ex
  have v1 : GV G S0 S1 o pc dp a N R1 made := v1
  show dc_wp (hm_PG_boundPauses_b8 G S1 o x1) _
  delta hm_PG_boundPauses_b8
  refine wq_if (fun c => ?_) (fun c => ?_)
  · have c := i_lt.mp c
    rw [il_0] at c
    exact ⟨_, rfl, R1, v1, i1, fun j hj => i2 j (by omega) hj⟩
  · have c : ¬ x1.toInt < 0 := fun t => c (i_lt.mpr (by rw [il_0]; exact t))
    obtain ⟨r, er⟩ : ∃ r : Nat, n = r + 1 := ⟨n - 1, by omega⟩
    subst er
    have ex' : x1.toInt = (r : Int) := by omega
    have e1 : x1 = Int32.ofNat r := ofN_i ex' (by omega)
    clear ex c
    subst e1
    have trn : (Int32.ofNat r).toInt.toNat = r := by omega
    have hr : r < M := by omega
    have lt9 : (Int32.ofNat r).toInt < (N 9 : Int) := by rw [ex', N9]; omega
    -- the end of a step
    have l94 : ∀ (S2 : hg_S) (R2 : Nat → Nat → Int32), GV G S0 S2 o pc dp a N R2 made → (∀ i, ¬ i = 9 → R2 i = R1 i) → (∀ j, ¬ j = r → R2 9 j = R1 9 j) → R2 9 r = bpF R (R1 9) r → dc_wp (hm_PG_boundPauses_L94 G S2 o (Int32.ofNat r)) (Sum.elim (fun (y : hg_S × Int32) => ∃ k', k' < r + 1 ∧ ∃ R', k' ≤ M ∧ y.2.toInt = (k' : Int) - 1 ∧ GV G S0 y.1 o pc dp a N R' made ∧ (∀ i, ¬ i = 9 → R' i = R i) ∧ ∀ j, k' ≤ j → j < M → R' 9 j = bpF R (R' 9) j) (fun S' => ∃ R', GV G S0 S' o pc dp a N R' made ∧ (∀ i, ¬ i = 9 → R' i = R i) ∧ ∀ j, j < M → R' 9 j = bpF R (R' 9) j)) := by
      intro S2 R2 v2 o2 n2 e2
      refine ⟨_, rfl, r, by omega, R2, by omega, (i_dec (by omega)).trans (by rw [ex']), v2, fun i hi => (o2 i hi).trans (i1 i hi), fun j j1 j2 => ?_⟩
      have up : ∀ j, r ≤ j → j < M → bpF R (R2 9) j = bpF R (R1 9) j := by
        intro j j1 j2
        unfold bpF
        by_cases c2 : R 2 j = -1
        · rw [if_pos c2, if_pos c2]
          by_cases c1 : R 1 j = -1
          · rw [if_pos c1, if_pos c1]
          · rw [if_neg c1, if_neg c1]
            have := (h1 j j2).resolve_left c1
            exact n2 _ (by omega)
        · rw [if_neg c2, if_neg c2]
          have := (h2 j j2).resolve_left c2
          exact n2 _ (by omega)
      rw [up j j1 j2]
      by_cases ej : j = r
      · subst ej
        exact e2
      · rw [n2 j ej]
        exact i2 j (by omega) j2
    have l67 : ∀ (S2 : hg_S) (R2 : Nat → Nat → Int32), GV G S0 S2 o pc dp a N R2 made → (∀ i, ¬ i = 9 → R2 i = R1 i) → (∀ j, ¬ j = r → R2 9 j = R1 9 j) → R2 9 r = (if R 1 r = -1 then R 8 r + (if R 0 r = 1 then 1 else 0) else R1 9 (R 1 r).toInt.toNat) → dc_wp (hm_PG_boundPauses_L67 G S2 o (Int32.ofNat r)) (Sum.elim (fun (y : hg_S × Int32) => ∃ k', k' < r + 1 ∧ ∃ R', k' ≤ M ∧ y.2.toInt = (k' : Int) - 1 ∧ GV G S0 y.1 o pc dp a N R' made ∧ (∀ i, ¬ i = 9 → R' i = R i) ∧ ∀ j, k' ≤ j → j < M → R' 9 j = bpF R (R' 9) j) (fun S' => ∃ R', GV G S0 S' o pc dp a N R' made ∧ (∀ i, ¬ i = 9 → R' i = R i) ∧ ∀ j, j < M → R' 9 j = bpF R (R' 9) j)) := by
      intro S2 R2 v2 o2 n2 e2
      have q2 : R2 2 = R 2 := (o2 2 (by omega)).trans (i1 2 (by omega))
      delta hm_PG_boundPauses_L67
      refine wg_pg v2 no (i := 2) (by omega) rfl ?_
      refine wg_ld v2 (i := 2) (by omega) (by omega) (by rw [ex', N2]; omega) ?_
      rw [trn, q2]
      refine wq_if (fun d => ?_) (fun d => ?_)
      · refine l94 S2 R2 v2 o2 n2 ?_
        rw [e2]
        unfold bpF
        rw [if_pos d]
      · have hd := (h2 r hr).resolve_left d
        refine wg_pg v2 no (i := 9) (by omega) rfl ?_
        refine wg_pg v2 no (i := 9) (by omega) rfl ?_
        refine wg_pg v2 no (i := 2) (by omega) rfl ?_
        refine wg_ld v2 (i := 2) (by omega) (by omega) (by rw [ex', N2]; omega) ?_
        rw [trn, q2]
        refine wg_ld v2 (i := 9) (by omega) (by omega) (by rw [N9]; omega) ?_
        refine wg_st v2 (i := 9) (by omega) (by omega) lt9 (fun S3 v3 => ?_)
        rw [trn] at v3
        refine l94 S3 _ v3 (fun i hi => by rw [fU_r hi]; exact o2 i hi) (fun j hj => by rw [fU_k hj]; exact n2 j hj) ?_
        rw [fU_s]
        unfold bpF
        rw [if_neg d]
        exact n2 _ (by omega)
    have l38 : ∀ y0 : Int32, y0 = (if R 0 r = 1 then 1 else 0) → dc_wp (hm_PG_boundPauses_L38 G S1 o (Int32.ofNat r) y0 (R 8 r) (Int32.ofNat r) (some (a 9))) (Sum.elim (fun (y : hg_S × Int32) => ∃ k', k' < r + 1 ∧ ∃ R', k' ≤ M ∧ y.2.toInt = (k' : Int) - 1 ∧ GV G S0 y.1 o pc dp a N R' made ∧ (∀ i, ¬ i = 9 → R' i = R i) ∧ ∀ j, k' ≤ j → j < M → R' 9 j = bpF R (R' 9) j) (fun S' => ∃ R', GV G S0 S' o pc dp a N R' made ∧ (∀ i, ¬ i = 9 → R' i = R i) ∧ ∀ j, j < M → R' 9 j = bpF R (R' 9) j)) := by
      intro y0 ey
      delta hm_PG_boundPauses_L38
      refine wg_st v1 (i := 9) (by omega) (by omega) lt9 (fun S2 v2 => ?_)
      rw [trn] at v2
      refine wg_pg v2 no (i := 1) (by omega) rfl ?_
      refine wg_ld v2 (i := 1) (by omega) (by omega) (by rw [ex', N1]; omega) ?_
      rw [trn, fU_i (by omega), i1 1 (by omega)]
      refine wq_if (fun d => ?_) (fun d => ?_)
      · refine l67 S2 _ v2 (fun i hi => by rw [fU_r hi]) (fun j hj => by rw [fU_k hj]) ?_
        rw [fU_s, if_pos d, ey]
      · have hd := (h1 r hr).resolve_left d
        refine wg_pg v2 no (i := 9) (by omega) rfl ?_
        refine wg_pg v2 no (i := 9) (by omega) rfl ?_
        refine wg_pg v2 no (i := 1) (by omega) rfl ?_
        refine wg_ld v2 (i := 1) (by omega) (by omega) (by rw [ex', N1]; omega) ?_
        rw [trn, fU_i (by omega), i1 1 (by omega)]
        refine wg_ld v2 (i := 9) (by omega) (by omega) (by rw [N9]; omega) ?_
        rw [fU_k (by omega)]
        refine wg_st v2 (i := 9) (by omega) (by omega) lt9 (fun S3 v3 => ?_)
        rw [trn] at v3
        refine l67 S3 _ v3 (fun i hi => by rw [fU_r hi, fU_r hi]) (fun j hj => by rw [fU_k hj, fU_k hj]) ?_
        rw [fU_s, if_neg d]
    refine wg_pg v1 no (i := 9) (by omega) rfl ?_
    refine wg_pg v1 no (i := 8) (by omega) rfl ?_
    refine wg_ld v1 (i := 8) (by omega) (by omega) (by rw [ex', N8]; omega) ?_
    rw [trn, i1 8 (by omega)]
    refine wg_pg v1 no (i := 0) (by omega) rfl ?_
    refine wg_ld v1 (i := 0) (by omega) (by omega) (by rw [ex', N0]; omega) ?_
    rw [trn, i1 0 (by omega)]
    refine wq_if (fun d => ?_) (fun d => ?_)
    · exact l38 1 (by rw [if_pos d])
    · exact l38 0 (by rw [if_neg d])
end BP
