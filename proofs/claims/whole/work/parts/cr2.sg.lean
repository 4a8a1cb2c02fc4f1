/-! the class's atlas: groups are split -/
/-- in one group, and they act alike; the least such -/
def nAl (q : rsT) (W x y : Nat) : Prop := q.1 6 x = q.1 6 y ∧ acA q W x y
def isL (q : rsT) (W r y : Nat) : Prop := rcd q r ∧ nAl q W r y ∧ ∀ k, k < r → rcd q k → ¬ nAl q W k y
section SPG
variable {q q' : rsT} {W x y z r : Nat} {G : hg_E} {E : awP} {S : hg_S}
theorem nAl_r : nAl q W x x := ⟨rfl, acA_r⟩
theorem nAl_s (h : nAl q W x y) : nAl q W y x := ⟨h.1.symm, acA_s h.2⟩
theorem nAl_t (h : nAl q W x y) (g : nAl q W y z) : nAl q W x z := ⟨h.1.trans g.1, acA_t h.2 g.2⟩
theorem isL_le (hy : rcd q y) (h : isL q W r y) : r ≤ y := by
  apply Classical.byContradiction
  intro c
  exact h.2.2 y (by omega) hy nAl_r
theorem isL_n (h : isL q W r y) (g : nAl q W y z) : isL q W r z := ⟨h.1, nAl_t h.2.1 g, fun k h1 h2 h3 => h.2.2 k h1 h2 (nAl_t h3 (nAl_s g))⟩
theorem isL_u {r' : Nat} (h : isL q W r y) (g : isL q W r' y) : r = r' := by
  have a1 : ¬ r < r' := fun c => g.2.2 r c h.1 h.2.1
  have a2 : ¬ r' < r := fun c => h.2.2 r' c g.1 g.2.1
  omega
/-- the other arrays are the same -/
def sm7 (q q' : rsT) : Prop := (∀ i, ¬ i = 7 → q'.1 i = q.1 i) ∧ ∀ i, ¬ i = 12 → q'.2 i = q.2 i
theorem sm7_r (h : sm7 q q') : rcd q' x ↔ rcd q x := by unfold rcd; rw [h.1 2 (by omega)]
theorem sm7_a (h : sm7 q q') : acA q' W x y ↔ acA q W x y := by
  unfold acA awR
  rw [h.1 0 (by omega), h.1 1 (by omega), h.1 2 (by omega), h.1 6 (by omega)]
/-- groups behind a split -/
def spO (q q' : rsT) (W : Nat) : Prop := (∀ i, ¬ i = 6 → ¬ i = 7 → q'.1 i = q.1 i) ∧ (∀ i, ¬ i = 12 → q'.2 i = q.2 i) ∧ (∀ y, rcd q y → ∃ r, isL q W r y ∧ q'.1 6 y = Int32.ofNat r) ∧ q'.2 12 = Int32.ofNat (ctP (fun y => rcd q y ∧ q'.1 6 y = Int32.ofNat y) 257)
theorem ofN_j {a b : Nat} (ha : a ≤ 100000) (hb : b ≤ 100000) (e : Int32.ofNat a = Int32.ofNat b) : a = b := by
  have t1 : (Int32.ofNat a).toInt = (a : Int) := Int32.toInt_ofNat_of_lt (by omega)
  have t2 : (Int32.ofNat b).toInt = (b : Int) := Int32.toInt_ofNat_of_lt (by omega)
  rw [e] at t1
  omega
theorem AW_fX (h : AW G E S q) {i : Nat} {f : Nat → Int32} (i2 : i < 8) : AW G E (hu S (wB E i) (.inl (G.1 0, wN i, .inl f))) (fX q i f) := by
  obtain ⟨⟨h1, h2, h3⟩, ⟨h4, h5⟩, h9⟩ := h
  have hi := h5 i i2
  have no : wO E ≠ wB E i := at_ne h4 hi (fun z => by cases z)
  refine ⟨⟨h1.hu, h2, h3⟩, ⟨by rw [hu_ne no]; exact h4, fun j j2 => ?_⟩, fun e e1 e2 => ?_⟩
  · by_cases c : j = i
    · subst c
      rw [hu_self hi, fX_s]
    · rw [hu_ne (fun z => c (h3 j i j2 i2 z)), fX_n c]
      exact h5 j j2
  · rw [hu_ne (e2 i i2)]
    exact h9 e e1 e2
theorem spl_w (h : AW G E S q) (h8 : q.2 8 = Int32.ofNat W) (hW : W ≤ 16) : dc_wp (hm_AT_splitGroups G S (wO E)) (fun S' => ∃ q', AW G E S' q' ∧ spO q q' W) := by
  have w6 : (wN 6 : Int) = 257 := rfl
  have w7 : (wN 7 : Int) = 257 := rfl
  delta hm_AT_splitGroups
  refine aw_f h (j := 12) (by decide) (by decide) (fun S0 g0 => ?_)
  have key := dc_itK (step := hm_AT_splitGroups_s7 G (wO E)) (fun d (v : hg_S × Int32) => ∃ x q', v.2 = Int32.ofNat x ∧ x ≤ 257 ∧ d = 257 - x ∧ AW G E v.1 q' ∧ sm7 q q' ∧ (∀ y, y < x → rcd q y → ∃ r, isL q W r y ∧ q'.1 7 y = Int32.ofNat r) ∧ q'.2 12 = Int32.ofNat (ctP (fun y => rcd q y ∧ q'.1 7 y = Int32.ofNat y) x)) (F := fun S' => ∃ q', AW G E S' q' ∧ sm7 q q' ∧ (∀ y, y < 257 → rcd q y → ∃ r, isL q W r y ∧ q'.1 7 y = Int32.ofNat r) ∧ q'.2 12 = Int32.ofNat (ctP (fun y => rcd q y ∧ q'.1 7 y = Int32.ofNat y) 257)) (by
    rintro d ⟨Y, v⟩ ⟨x, q', ev, x1, ed, aw, sm, inv, cn⟩
    have ev : v = Int32.ofNat x := ev
    have aw : AW G E Y q' := aw
    subst ev
    have tx : (Int32.ofNat x).toInt = (x : Int) := Int32.toInt_ofNat_of_lt (by omega)
    have txn : (Int32.ofNat x).toInt.toNat = x := by omega
    have cl := ctP_le (P := fun y => rcd q y ∧ q'.1 7 y = Int32.ofNat y) x
    show dc_wp (hm_AT_splitGroups_b7 G Y (wO E) (Int32.ofNat x)) _
    delta hm_AT_splitGroups_b7
    refine wq_if (fun c => ?_) (fun c => ?_)
    · have c := i_lt.mp c
      rw [tx, il_257] at c
      refine aw_c aw ?_
      refine wq_call (rch_w aw) (fun v hv => ?_)
      rw [rcd_R (by omega), sm7_r sm] at hv
      rcases hv with ⟨v1, v2⟩ | ⟨v1, v2⟩
      · rw [if_neg (by rw [v1]; decide)]
        refine aw_g aw (i := 7) (by decide) ?_
        refine aw_c aw ?_
        refine wq_call (lst_w aw (by rw [sm.2 8 (by omega)]; exact h8) hW (by omega)) ?_
        rintro v' ⟨r, er, r1, r2, r3⟩
        subst er
        -- r is the least one alike
        have hr : isL q W r x := by
          have none : ∀ k, k < r → rcd q k → ¬ nAl q W k x := by
            intro k hk h1 h2
            obtain ⟨r0, s1, s2⟩ := inv k (by omega) h1
            have s3 := isL_le h1 s1
            obtain ⟨r1', s4, s5⟩ := inv r0 (by omega) s1.1
            have s6 : r1' = r0 := isL_u (isL_n s4 s1.2.1) s1
            rw [s6] at s5
            have s7 := nAl_t s1.2.1 h2
            refine r2 r0 (by omega) ⟨by omega, (sm7_r sm).mpr s1.1, s5, ?_, (sm7_a sm).mpr s7.2⟩
            rw [sm.1 6 (by omega)]
            exact s7.1
          rcases r3 with e | ⟨l1, l2, l3, l4, l5⟩
          · rw [e] at none ⊢
            exact ⟨v2, nAl_r, none⟩
          · rw [sm.1 6 (by omega)] at l4
            exact ⟨(sm7_r sm).mp l2, ⟨l4, (sm7_a sm).mp l5⟩, none⟩
        refine aw_s aw (i := 7) (by decide) (by omega) (by omega) (fun S1 g1 => ?_)
        rw [txn] at g1
        refine aw_i g1 (i := 12) (by decide) (by decide) ?_
        refine aw_g g1 (i := 7) (by decide) ?_
        refine aw_l g1 (i := 7) (by decide) (by omega) (by omega) ?_
        rw [txn]
        have e7 : (uX q' 7 x (Int32.ofNat r)).1 7 x = Int32.ofNat r := by rw [uX_s, upd_s]
        rw [e7]
        have e12 : (uX q' 7 x (Int32.ofNat r)).2 12 = q'.2 12 := rfl
        rw [e12]
        have fin : ∀ v : Int32, ((v = 1 ∧ r = x) ∨ (v = 0 ∧ ¬ r = x)) → dc_wp (hm_AT_splitGroups_L53 G S1 (wO E) (Int32.ofNat x) v (q'.2 12)) (Sum.elim (fun v => ∃ k', k' < d ∧ ∃ x q', v.2 = Int32.ofNat x ∧ x ≤ 257 ∧ k' = 257 - x ∧ AW G E v.1 q' ∧ sm7 q q' ∧ (∀ y, y < x → rcd q y → ∃ r, isL q W r y ∧ q'.1 7 y = Int32.ofNat r) ∧ q'.2 12 = Int32.ofNat (ctP (fun y => rcd q y ∧ q'.1 7 y = Int32.ofNat y) x)) (fun S' => ∃ q', AW G E S' q' ∧ sm7 q q' ∧ (∀ y, y < 257 → rcd q y → ∃ r, isL q W r y ∧ q'.1 7 y = Int32.ofNat r) ∧ q'.2 12 = Int32.ofNat (ctP (fun y => rcd q y ∧ q'.1 7 y = Int32.ofNat y) 257))) := by
          intro v hv
          delta hm_AT_splitGroups_L53
          refine aw_f g1 (j := 12) (by decide) (by decide) (fun S2 g2 => ?_)
          delta hm_AT_splitGroups_L57
          have e2 : ∀ y, ¬ y = x → (uC (uX q' 7 x (Int32.ofNat r)) 12 (q'.2 12 + v)).1 7 y = q'.1 7 y := fun y hy => by rw [uC_1, uX_s, upd_n hy]
          have e3 : (uC (uX q' 7 x (Int32.ofNat r)) 12 (q'.2 12 + v)).1 7 x = Int32.ofNat r := e7
          refine ⟨_, rfl, 257 - (x + 1), by omega, x + 1, _, ad_m (by omega), by omega, rfl, g2, ⟨fun i hi => ?_, fun i hi => ?_⟩, fun y hy hr' => ?_, ?_⟩
          · rw [uC_1, uX_n hi]; exact sm.1 i hi
          · rw [uC_n hi]; exact sm.2 i hi
          · by_cases ey : y = x
            · rw [ey, e3]; exact ⟨r, hr, rfl⟩
            · rw [e2 y ey]; exact inv y (by omega) hr'
          · have e4 := ctP_cg (P := fun y => rcd q y ∧ (uC (uX q' 7 x (Int32.ofNat r)) 12 (q'.2 12 + v)).1 7 y = Int32.ofNat y) (Q := fun y => rcd q y ∧ q'.1 7 y = Int32.ofNat y) x (fun k hk => by
              show rcd q k ∧ _ ↔ _
              rw [e2 k (by omega)])
            rcases hv with ⟨v1, v3⟩ | ⟨v1, v3⟩
            · have e5 := ctP_y (P := fun y => rcd q y ∧ (uC (uX q' 7 x (Int32.ofNat r)) 12 (q'.2 12 + v)).1 7 y = Int32.ofNat y) (n := x) ⟨v2, by rw [e3, v3]⟩
              rw [e5, e4, uC_s, cn, v1, ad_m (by omega)]
            · have no : ¬ (rcd q x ∧ (uC (uX q' 7 x (Int32.ofNat r)) 12 (q'.2 12 + v)).1 7 x = Int32.ofNat x) := fun z => by
                have z2 := z.2
                rw [e3] at z2
                exact v3 (ofN_j (by omega) (by omega) z2)
              have e5 := ctP_n (P := fun y => rcd q y ∧ (uC (uX q' 7 x (Int32.ofNat r)) 12 (q'.2 12 + v)).1 7 y = Int32.ofNat y) no
              rw [e5, e4, uC_s, cn, v1, Int32.add_zero]
        refine wq_if (fun c2 => ?_) (fun c2 => ?_)
        · exact fin 1 (Or.inl ⟨rfl, ofN_j (by omega) (by omega) c2⟩)
        · exact fin 0 (Or.inr ⟨rfl, fun z => c2 (by rw [z])⟩)
      · rw [if_pos v1]
        delta hm_AT_splitGroups_L57
        refine ⟨_, rfl, 257 - (x + 1), by omega, x + 1, q', ad_m (by omega), by omega, rfl, aw, sm, fun y hy hr' => ?_, ?_⟩
        · by_cases ey : y = x
          · rw [ey] at hr'; exact absurd hr' v2
          · exact inv y (by omega) hr'
        · have no : ¬ (rcd q x ∧ q'.1 7 x = Int32.ofNat x) := fun z => v2 z.1
          have e5 := ctP_n (P := fun y => rcd q y ∧ q'.1 7 y = Int32.ofNat y) no
          rw [e5, cn]
    · have c : ¬ (Int32.ofNat x).toInt < (257 : Int32).toInt := fun z => c (i_lt.mpr z)
      rw [tx, il_257] at c
      have ex : x = 257 := by omega
      rw [ex] at inv cn
      exact ⟨_, rfl, q', aw, sm, inv, cn⟩)
  delta hm_AT_splitGroups_L7
  refine wq_call (key 257 (S0, 0) ⟨0, _, rfl, by omega, rfl, g0, ⟨fun _ _ => rfl, fun i hi => uC_n hi⟩, fun y hy => absurd hy (by omega), uC_s⟩) ?_
  rintro S1 ⟨q1, g1, sm, inv, cn⟩
  delta hm_AT_splitGroups_L63
  refine aw_g g1 (i := 7) (by decide) ?_
  refine aw_g g1 (i := 6) (by decide) ?_
  have b7 := g1.2.1.2 7 (by omega)
  have b6 := g1.2.1.2 6 (by omega)
  have t0 := il_0
  have t257 := il_257
  refine wq_cpy (ty := .int) b7 b6 (by omega) (by omega) (by omega) (by omega) (by omega) (fun i hi => rfl) ?_
  have g2 := AW_fX g1 (i := 6) (f := va_cpy (q1.1 7) (q1.1 6) (0 : Int32).toInt.toNat (0 : Int32).toInt.toNat (257 : Int32).toInt.toNat) (by omega)
  have ef : ∀ y, y < 257 → (fX q1 6 (va_cpy (q1.1 7) (q1.1 6) (0 : Int32).toInt.toNat (0 : Int32).toInt.toNat (257 : Int32).toInt.toNat)).1 6 y = q1.1 7 y := fun y hy => by
    rw [fX_s]
    show va_cpy (q1.1 7) (q1.1 6) 0 0 257 y = _
    rw [cpy_v, if_pos hy]
  refine ⟨_, rfl, _, g2, fun i h6 h7 => ?_, fun i hi => sm.2 i hi, fun y hy => ?_, ?_⟩
  · rw [fX_n h6]; exact sm.1 i h7
  · obtain ⟨r, r1, r2⟩ := inv y hy.1 hy
    exact ⟨r, r1, by rw [ef y hy.1, r2]⟩
  · show q1.2 12 = _
    rw [cn]
    exact congrArg Int32.ofNat (ctP_cg 257 (fun k hk => by rw [ef k hk]))
end SPG
