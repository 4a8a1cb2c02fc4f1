theorem ng1 {i : Nat} {x : Int} (h : (i : Int) < 2 * (x - 1)) (hx : 1 ≤ x) : ¬ i = (2 * (x - 1) + 1).toNat ∧ ¬ i = (2 * (x - 1)).toNat ∧ ¬ i = (2 * x + 1).toNat ∧ ¬ i = (2 * x).toNat := by omega
theorem ng2 {x : Int} (hx : 1 ≤ x) : ¬ (2 * (x - 1)).toNat = (2 * (x - 1) + 1).toNat ∧ ¬ (2 * (x - 1)).toNat = (2 * x + 1).toNat ∧ ¬ (2 * (x - 1)).toNat = (2 * x).toNat ∧ ¬ (2 * (x - 1) + 1).toNat = (2 * x + 1).toNat ∧ ¬ (2 * (x - 1) + 1).toNat = (2 * x).toNat ∧ ¬ (2 * x).toNat = (2 * x + 1).toNat := by omega
theorem ng3 {i : Nat} {n : Int} (h : (i : Int) < n) : ¬ i = n.toNat := by omega
def sb_AO (S q : md_S) (up : Int) (r : Nat) (y : Int) : Prop :=
  md_fr [43] [63, 64, 65, 99] false false S q ∧ (q.1 43).toInt = (S.1 43).toInt + 1 ∧
  (∀ i : Nat, (i : Int) < (S.1 43).toInt → q.2.1 63 i = S.2.1 63 i ∧ (¬ up = 2 * (i : Int) → q.2.1 64 i = S.2.1 64 i) ∧ (¬ up = 2 * (i : Int) + 1 → q.2.1 65 i = S.2.1 65 i)) ∧
  ((S.1 43).toInt < 1000 → (∀ i : Nat, (i : Int) < (S.1 43).toInt → (up = 2 * (i : Int) → q.2.1 64 i = S.1 43) ∧ (up = 2 * (i : Int) + 1 → q.2.1 65 i = S.1 43)) ∧ (q.2.1 63 (S.1 43).toInt.toNat = S.2.1 36 r ∧ q.2.1 64 (S.1 43).toInt.toNat = S.2.1 37 r ∧ q.2.1 65 (S.1 43).toInt.toNat = -1)) ∧
  (∀ i : Nat, (i : Int) < 2 * y → q.2.1 99 i = S.2.1 99 i)
theorem ask_step {S : md_S} {x2 x3 r up : Int32} {F : (md_S × Int32) ⊕ md_S → Prop} (h43 : 0 ≤ (S.1 43).toInt) (h43' : (S.1 43).toInt < 2000000) (hx : 1 ≤ x3.toInt) (hx2 : x3.toInt ≤ 4000) (e1 : S.2.1 99 (2 * (x3.toInt - 1)).toNat = r) (e2 : S.2.1 99 (2 * (x3.toInt - 1) + 1).toNat = up) (hu : up = -1 ∨ (0 ≤ up.toInt ∧ up.toInt < 2 * (S.1 43).toInt)) (hr : 0 ≤ r.toInt ∧ r.toInt < 1000) (h0 : S.2.1 36 r.toInt.toNat = 0 → S.2.1 38 r.toInt.toNat = -1) (hk : 0 ≤ (S.2.1 36 r.toInt.toNat).toInt)
    (kB : ¬ (S.1 43).toInt < 1000 → ∀ q, sb_AO S q up.toInt r.toInt.toNat (x3.toInt - 1) → F (.inl (q, x3 + (-1))))
    (kL : (S.1 43).toInt < 1000 → S.2.1 36 r.toInt.toNat = 0 → ∀ q, sb_AO S q up.toInt r.toInt.toNat (x3.toInt - 1) → F (.inl (q, x3 + (-1))))
    (kN : (S.1 43).toInt < 1000 → S.2.1 38 r.toInt.toNat = -1 → ¬ S.2.1 36 r.toInt.toNat = 0 → ∀ q, sb_AO S q up.toInt r.toInt.toNat (x3.toInt - 1) → q.2.1 99 (2 * (x3.toInt - 1)).toNat = S.2.1 37 r.toInt.toNat → (q.2.1 99 (2 * (x3.toInt - 1) + 1).toNat).toInt = 2 * (S.1 43).toInt → F (.inl (q, x3 + (-1) + 1)))
    (kT : (S.1 43).toInt < 1000 → ¬ S.2.1 38 r.toInt.toNat = -1 → ¬ S.2.1 36 r.toInt.toNat = 0 → ∀ q, sb_AO S q up.toInt r.toInt.toNat (x3.toInt - 1) → q.2.1 99 (2 * (x3.toInt - 1)).toNat = S.2.1 38 r.toInt.toNat → (q.2.1 99 (2 * (x3.toInt - 1) + 1).toNat).toInt = 2 * (S.1 43).toInt + 1 → q.2.1 99 (2 * x3.toInt).toNat = S.2.1 37 r.toInt.toNat → (q.2.1 99 (2 * x3.toInt + 1).toNat).toInt = 2 * (S.1 43).toInt → F (.inl (q, x3 + (-1) + 1 + 1))) : dc_wp (mm_ask_b23 S x2 x3) F := by
  have a1 : (x3 + (-1)).toInt = x3.toInt - 1 := by rw [a_add, il_m1]; omega
  have a2 : (2 * (x3 + (-1))).toInt = 2 * (x3.toInt - 1) := by rw [a_mul, il_2, a1]; omega
  have a3 : (2 * (x3 + (-1)) + 1).toInt = 2 * (x3.toInt - 1) + 1 := by rw [a_add, il_1, a2]; omega
  have a4 : (x3 + (-1) + 1).toInt = x3.toInt := by rw [a_add, il_1, a1]; omega
  have a5 : (2 * (x3 + (-1) + 1)).toInt = 2 * x3.toInt := by rw [a_mul, il_2, a4]; omega
  have a6 : (2 * (x3 + (-1) + 1) + 1).toInt = 2 * x3.toInt + 1 := by rw [a_add, il_1, a5]; omega
  have p1 : (S.1 43 + 1).toInt = (S.1 43).toInt + 1 := by rw [a_add, il_1]; omega
  refine ask_link h43 hx hx2 e1 e2 hu (fun S1 f1 l1 l2 => ?_)
  have e43 : S1.1 43 = S.1 43 := f1.1 43 (by decide)
  have e36 : S1.2.1 36 = S.2.1 36 := f1.2.1 36 (by decide)
  have e37 : S1.2.1 37 = S.2.1 37 := f1.2.1 37 (by decide)
  have e38 : S1.2.1 38 = S.2.1 38 := f1.2.1 38 (by decide)
  have e99 : S1.2.1 99 = S.2.1 99 := f1.2.1 99 (by decide)
  have e63 : S1.2.1 63 = S.2.1 63 := f1.2.1 63 (by decide)
  unfold mm_ask_L117
  refine dc_letB ?_; rintro _ rfl
  refine dc_letB ?_; rintro _ rfl
  rw [e43]
  have fr : ∀ q : md_S, (∀ k, k ∉ [43] → q.1 k = S1.1 k) → (∀ k, k ∉ [63, 64, 65, 99] → q.2.1 k = S1.2.1 k) → q.2.2 = S1.2.2 → md_fr [43] [63, 64, 65, 99] false false S q := by
    intro q c1 c2 c3
    refine ⟨fun k hk => (c1 k hk).trans (f1.1 k (by simp)), fun k hk => (c2 k hk).trans (f1.2.1 k (fun h => hk ?_)), fun _ => by rw [c3]; exact f1.2.2.1 rfl, fun _ => by rw [c3]; exact f1.2.2.2 rfl⟩
    revert h; simp only [List.mem_cons, List.mem_nil_iff, or_false]; omega
  refine dc_ifI (fun h => ?_) (fun h => ?_)
  · have h' := i_lt.mp h
    rw [il_1000] at h'
    have l2 := l2 h'
    refine dc_ixT hr.1 hr.2 ?_
    refine dc_ixT h43 h' ?_
    refine dc_letB ?_; intro S13 h13
    refine dc_ixT hr.1 hr.2 ?_
    refine dc_ixT h43 h' ?_
    refine dc_letB ?_; intro S16 h16
    refine dc_ixT h43 h' ?_
    refine dc_letB ?_; intro S18 h18
    refine dc_ixT hr.1 hr.2 ?_
    have t1 : S18.1 = (md_i S1 43 (S.1 43 + 1)).1 := by rw [h18, h16, h13]; rfl
    have t2 : S18.2.1 63 = upd (S1.2.1 63) (S.1 43).toInt.toNat (S1.2.1 36 r.toInt.toNat) := by rw [h18, h16, h13]; rfl
    have t3 : S18.2.1 64 = upd (S1.2.1 64) (S.1 43).toInt.toNat (S1.2.1 37 r.toInt.toNat) := by rw [h18, h16, h13]; rfl
    have t4 : S18.2.1 65 = upd (S1.2.1 65) (S.1 43).toInt.toNat (-1) := by rw [h18, h16, h13]; rfl
    have t5 : ∀ k, k ∉ [63, 64, 65] → S18.2.1 k = S1.2.1 k := by
      intro k hk
      simp only [List.mem_cons, List.mem_nil_iff, or_false, not_or] at hk
      rw [h18, h16, h13, md_a2, if_neg hk.2.2, md_a2, if_neg hk.2.1, md_a2, if_neg hk.1]; rfl
    have t6 : S18.2.2 = S1.2.2 := by rw [h18, h16, h13]; rfl
    clear h18 h16 h13
    -- the piece itself
    have m1 : ∀ q : md_S, q.1 = (md_i S1 43 (S.1 43 + 1)).1 → q.2.1 63 = upd (S1.2.1 63) (S.1 43).toInt.toNat (S1.2.1 36 r.toInt.toNat) → q.2.1 64 = upd (S1.2.1 64) (S.1 43).toInt.toNat (S1.2.1 37 r.toInt.toNat) → q.2.1 65 = upd (S1.2.1 65) (S.1 43).toInt.toNat (-1) → (∀ k, k ∉ [63, 64, 65, 99] → q.2.1 k = S1.2.1 k) → q.2.2 = S1.2.2 → (∀ i : Nat, (i : Int) < 2 * (x3.toInt - 1) → q.2.1 99 i = S1.2.1 99 i) → sb_AO S q up.toInt r.toInt.toNat (x3.toInt - 1) := by
      intro q c1 c2 c3 c4 c5 c6 c7
      refine ⟨fr q (fun k hk => ?_) c5 c6, ?_, fun i hi => ?_, fun _ => ⟨fun i hi => ?_, ?_, ?_, ?_⟩, fun i hi => ?_⟩
      · rw [c1, md_i1]; exact if_neg (fun h => hk (by rw [h]; decide))
      · rw [c1]; exact p1
      · have hn : ¬ i = (S.1 43).toInt.toNat := ng3 hi
        rw [c2, c3, c4, e63, sb_dn _ _ hn, sb_dn _ _ hn, sb_dn _ _ hn]
        exact ⟨rfl, (l1 i).1, (l1 i).2⟩
      · have hn : ¬ i = (S.1 43).toInt.toNat := ng3 hi
        rw [c3, c4, sb_dn _ _ hn, sb_dn _ _ hn]
        exact l2 i
      · rw [c2, sb_up, e36]
      · rw [c3, sb_up, e37]
      · rw [c4, sb_up]
      · rw [c7 i hi, e99]
    have L221 : ∀ (q : md_S) (y : Int32), q.2.1 36 = S.2.1 36 → q.2.1 37 = S.2.1 37 → (0 ≤ y.toInt ∧ y.toInt ≤ 4000) → (S.2.1 36 r.toInt.toNat = 0 → F (.inl (q, y))) → (¬ S.2.1 36 r.toInt.toNat = 0 → ∀ q' : md_S, q'.1 = q.1 → q'.2.2 = q.2.2 → (∀ k, ¬ k = 99 → q'.2.1 k = q.2.1 k) → q'.2.1 99 = upd (upd (q.2.1 99) (2 * y.toInt).toNat (S.2.1 37 r.toInt.toNat)) (2 * y.toInt + 1).toNat (2 * S.1 43) → F (.inl (q', y + 1))) → dc_wp (mm_ask_L221 q x2 y r (S.1 43)) F := by
      intro q y q36 q37 hy c1 c2
      have b2 : (2 * y).toInt = 2 * y.toInt := by rw [a_mul, il_2]; omega
      have b3 : (2 * y + 1).toInt = 2 * y.toInt + 1 := by rw [a_add, il_1, b2]; omega
      unfold mm_ask_L221
      refine dc_ixT hr.1 hr.2 ?_
      rw [q36]
      refine dc_ifI (fun hp => ?_) (fun hp => ?_)
      · refine dc_ixT hr.1 hr.2 ?_
        refine dc_ixT (by omega) (by omega) ?_
        refine dc_letB ?_; rintro _ rfl
        refine dc_ixT (by omega) (by omega) ?_
        refine dc_letB ?_; rintro _ rfl
        rw [b2, b3, q37]
        refine dc_ret (c2 (sb_pos hp) _ rfl rfl (fun k hk => ?_) rfl)
        rw [md_a2, if_neg hk, md_a2, if_neg hk]
      · refine dc_ret (c1 (i_eq.mpr ?_))
        have : ¬ 0 < (S.2.1 36 r.toInt.toNat).toInt := fun h => hp (i_lt.mpr (by rw [il_0]; exact h))
        rw [il_0]; omega
    have g43 : (2 * S.1 43).toInt = 2 * (S.1 43).toInt := by rw [a_mul, il_2]; omega
    have g44 : (2 * S.1 43 + 1).toInt = 2 * (S.1 43).toInt + 1 := by rw [a_add, il_1, g43]; omega
    -- the state behind the piece
    have main : ∀ q : md_S, q.1 = (md_i S1 43 (S.1 43 + 1)).1 → q.2.1 63 = upd (S1.2.1 63) (S.1 43).toInt.toNat (S1.2.1 36 r.toInt.toNat) → q.2.1 64 = upd (S1.2.1 64) (S.1 43).toInt.toNat (S1.2.1 37 r.toInt.toNat) → q.2.1 65 = upd (S1.2.1 65) (S.1 43).toInt.toNat (-1) → (∀ k, k ∉ [63, 64, 65] → q.2.1 k = S1.2.1 k) → q.2.2 = S1.2.2 → dc_wp (if (q.2.1 38 r.toInt.toNat) = (-1) then (mm_ask_L221 q x2 (x3 + (-1)) r (S.1 43)) else ((dc_ix r 1000).bind fun j20 => (dc_ix (2 * (x3 + (-1))) 8192).bind fun j21 => dc_let (md_a q 99 j21 (q.2.1 38 j20)) fun S22 => (dc_ix ((2 * (x3 + (-1))) + 1) 8192).bind fun j23 => dc_let (md_a S22 99 j23 ((2 * S.1 43) + 1)) fun S24 => mm_ask_L221 S24 x2 (x3 + (-1) + 1) r (S.1 43))) F := by
      intro q c1 c2 c3 c4 c5 c6
      have q38 : q.2.1 38 = S.2.1 38 := (c5 38 (by decide)).trans e38
      have q36 : q.2.1 36 = S.2.1 36 := (c5 36 (by decide)).trans e36
      have q37 : q.2.1 37 = S.2.1 37 := (c5 37 (by decide)).trans e37
      have q99 : q.2.1 99 = S1.2.1 99 := c5 99 (by decide)
      have nin : ∀ k, k ∉ [63, 64, 65, 99] → k ∉ [63, 64, 65] ∧ ¬ k = 99 := by
        intro k hk
        simp only [List.mem_cons, List.mem_nil_iff, or_false, not_or] at hk ⊢
        exact ⟨⟨hk.1, hk.2.1, hk.2.2.1⟩, hk.2.2.2⟩
      rw [q38]
      refine dc_ifI (fun hs => ?_) (fun hs => ?_)
      · refine L221 _ _ q36 q37 (by omega) (fun hz => ?_) (fun hz q' d1 d2 d3 d4 => ?_)
        · exact kL h' hz _ (m1 _ c1 c2 c3 c4 (fun k hk => c5 k (nin k hk).1) c6 (fun i _ => by rw [q99]))
        · have n1 : ∀ i : Nat, (i : Int) < 2 * (x3.toInt - 1) → q'.2.1 99 i = S1.2.1 99 i := by
            intro i hi
            have z := ng1 hi hx
            rw [d4, q99, a1, sb_dn _ _ z.1, sb_dn _ _ z.2.1]
          refine kN h' hs hz _ (m1 _ (d1.trans c1) ((d3 63 (by decide)).trans c2) ((d3 64 (by decide)).trans c3) ((d3 65 (by decide)).trans c4) (fun k hk => (d3 k (nin k hk).2).trans (c5 k (nin k hk).1)) (d2.trans c6) n1) ?_ ?_
          · rw [d4, a1, sb_dn _ _ (ng2 hx).1, sb_up]
          · rw [d4, a1, sb_up, g43]
      · have hz : ¬ S.2.1 36 r.toInt.toNat = 0 := fun h => hs (h0 h)
        refine dc_ixT hr.1 hr.2 ?_
        refine dc_ixT (by omega) (by omega) ?_
        refine dc_letB ?_; intro S22 h22
        refine dc_ixT (by omega) (by omega) ?_
        refine dc_letB ?_; intro S24 h24
        have k1 : S24.1 = q.1 := by rw [h24, h22]; rfl
        have k2 : S24.2.2 = q.2.2 := by rw [h24, h22]; rfl
        have k3 : ∀ k, ¬ k = 99 → S24.2.1 k = q.2.1 k := fun k hk => by rw [h24, h22, md_a2, if_neg hk, md_a2, if_neg hk]
        have k4 : S24.2.1 99 = upd (upd (q.2.1 99) (2 * (x3.toInt - 1)).toNat (S.2.1 38 r.toInt.toNat)) (2 * (x3.toInt - 1) + 1).toNat (2 * S.1 43 + 1) := by
          rw [h24, h22, md_a2, if_pos rfl, md_a2, if_pos rfl, a2, a3]
        clear h24 h22
        refine L221 _ _ ((k3 36 (by decide)).trans q36) ((k3 37 (by decide)).trans q37) (by omega) (fun hz2 => absurd hz2 hz) (fun _ q' d1 d2 d3 d4 => ?_)
        rw [a4] at d4
        have n1 : ∀ i : Nat, (i : Int) < 2 * (x3.toInt - 1) → q'.2.1 99 i = S1.2.1 99 i := by
          intro i hi
          have z := ng1 hi hx
          rw [d4, sb_dn _ _ z.2.2.1, sb_dn _ _ z.2.2.2, k4, q99, sb_dn _ _ z.1, sb_dn _ _ z.2.1]
        refine kT h' hs hz _ (m1 _ (d1.trans (k1.trans c1)) ((d3 63 (by decide)).trans ((k3 63 (by decide)).trans c2)) ((d3 64 (by decide)).trans ((k3 64 (by decide)).trans c3)) ((d3 65 (by decide)).trans ((k3 65 (by decide)).trans c4)) (fun k hk => (d3 k (nin k hk).2).trans ((k3 k (nin k hk).2).trans (c5 k (nin k hk).1))) (d2.trans (k2.trans c6)) n1) ?_ ?_ ?_ ?_
        · rw [d4, sb_dn _ _ (ng2 hx).2.1, sb_dn _ _ (ng2 hx).2.2.1, k4, sb_dn _ _ (ng2 hx).1, sb_up]
        · rw [d4, sb_dn _ _ (ng2 hx).2.2.2.1, sb_dn _ _ (ng2 hx).2.2.2.2.1, k4, sb_up, g44]
        · rw [d4, sb_dn _ _ (ng2 hx).2.2.2.2.2, sb_up]
        · rw [d4, sb_up, g43]
    exact main S18 t1 t2 t3 t4 t5 t6
  · have h' : ¬ (S.1 43).toInt < 1000 := fun hz => h (i_lt.mpr (by rw [il_1000]; exact hz))
    refine dc_ret (kB h' _ ⟨fr _ (fun k hk => ?_) (fun _ _ => rfl) rfl, p1, fun i hi => ⟨by show S1.2.1 63 i = _; rw [e63], (l1 i).1, (l1 i).2⟩, fun hz => absurd hz h', fun i hi => ?_⟩)
    · rw [md_i1]; exact if_neg (fun h => hk (by rw [h]; decide))
    · show S1.2.1 99 i = _
      rw [e99]
