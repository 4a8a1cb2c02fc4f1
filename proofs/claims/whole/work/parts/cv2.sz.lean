/-! size: what hangs on a root, counted by the class and by the reference -/
theorem ofN_d (k : Nat) : Int32.ofNat (k + 1) + (-1) = Int32.ofNat k := by
  rw [Int32.ofNat_add, ← Int32.sub_eq_add_neg]
  exact Int32.add_sub_cancel _ _
/-- j stands right above k -/
def chN (q : rsT) (made j k : Nat) : Prop := (2 ≤ j ∧ j < made ∧ k < made) ∧ (q.1 5 j = Int32.ofNat k ∨ q.1 6 j = Int32.ofNat k)
def rcS (q : rsT) (made k0 : Nat) : Nat → Nat → Prop
  | 0, k => k = k0
  | s + 1, k => ∃ j, rcS q made k0 s j ∧ chN q made j k
/-- k hangs on k0 -/
def rcC (q : rsT) (made k0 k : Nat) : Prop := ∃ s, rcS q made k0 s k
section SZP
variable {p : rsT} {r : md_S} {n made cap k0 F : Nat} {ph : Nat → Nat}
theorem rcC_iff {k : Nat} : rcC p made k0 k ↔ (k = k0 ∨ ∃ j, rcC p made k0 j ∧ chN p made j k) := by
  constructor
  · rintro ⟨s, h⟩
    cases s with
    | zero => exact Or.inl h
    | succ s =>
      obtain ⟨j, h1, h2⟩ := h
      exact Or.inr ⟨j, ⟨s, h1⟩, h2⟩
  · rintro (h | ⟨j, ⟨s, h1⟩, h2⟩)
    · exact ⟨0, h⟩
    · exact ⟨s + 1, j, h1, h2⟩
theorem ch_lt (hI : ncI p r n made ph cap) {j k : Nat} (h : chN p made j k) : k < j := by
  obtain ⟨⟨h1, h2, h3⟩, h4⟩ := h
  obtain ⟨p1, l, a, c, l1, l2, l3, l4, l5, l6, l7, l8, l9⟩ := hI.2.1 j h1 h2
  have mc := hI.1.2.2
  rcases h4 with e | e
  · rw [l6] at e
    have := ofN_j (by omega) (by omega) e
    omega
  · rw [l8] at e
    have := ofN_j (by omega) (by omega) e
    omega
theorem ch_ph (hI : ncI p r n made ph cap) (hn : n ≤ 24000) (hl : mxL r n) {j k : Nat} (k2 : 2 ≤ k) (h : chN p made j k) : ph k < ph j := by
  have hlt := ch_lt hI h
  obtain ⟨⟨h1, h2, h3⟩, h4⟩ := h
  obtain ⟨p1, l, a, c, l1, l2, l3, l4, l5, l6, l7, l8, l9⟩ := hI.2.1 j h1 h2
  have mc := hI.1.2.2
  have pk := (hI.2.1 k k2 h3).1
  have nv : nvC ph k = Int32.ofNat (ph k) := by
    unfold nvC
    rw [if_neg (by omega), if_neg (by omega)]
  have tk : (Int32.ofNat (ph k)).toInt = (ph k : Int) := Int32.toInt_ofNat_of_lt (by omega)
  obtain ⟨l', -, -, v1, v2, -⟩ := hl (ph j) p1
  have fin : vl r (ph j) (12 - l') (Int32.ofNat (ph k)) → ph k < ph j := by
    rintro (z | z | ⟨m, m1, m2, -⟩)
    · have z := i_eq.mp z; rw [tk, il_m1] at z; omega
    · have z := i_eq.mp z; rw [tk, il_m2] at z; omega
    · have := ofN_j (by omega) (by omega) m2
      omega
  rcases h4 with e | e
  · rw [l6] at e
    have e := ofN_j (by omega) (by omega) e
    rw [l7, e, nv] at v1
    exact fin v1
  · rw [l8] at e
    have e := ofN_j (by omega) (by omega) e
    rw [l9, e, nv] at v2
    exact fin v2
theorem rcC_le (hI : ncI p r n made ph cap) : ∀ s k, rcS p made k0 s k → k ≤ k0
  | 0, k, h => Nat.le_of_eq h
  | s + 1, k, h => by
    obtain ⟨j, h1, h2⟩ := h
    have := rcC_le hI s j h1
    have := ch_lt hI h2
    omega
/-- both counts are the same -/
theorem cnt_rc (hL : LYn r n F) (hI : ncI p r n made ph cap) (hR : ntR p r n made ph F) (hk : k0 < made) : ctP (fun k => 2 ≤ k ∧ rcC p made k0 k) (k0 + 1) = ctP (fun m => ∃ k, (2 ≤ k ∧ k < made) ∧ ph k = m ∧ rcC p made k0 k) n := by
  obtain ⟨g, hg⟩ := sur_w hL hI hR
  refine Nat.le_antisymm ?_ ?_
  · refine ctP_inj (f := ph) (k0 + 1) _ (fun k hk' hP => ?_) (fun i j hi hj hP hQ e => hI.2.2.1 i j hP.1 (by omega) hQ.1 (by omega) e)
    exact ⟨(hI.2.1 k hP.1 (by omega)).1, k, ⟨hP.1, by omega⟩, rfl, hP.2⟩
  · refine ctP_inj (f := g) n _ (fun m hm hP => ?_) (fun i j hi hj _ _ e => by rw [← (hg i hi).2.2, ← (hg j hj).2.2, e])
    obtain ⟨g1, g2, g3⟩ := hg m hm
    obtain ⟨k, ⟨k2, km⟩, ek, ⟨s, hs⟩⟩ := hP
    have e : k = g m := hI.2.2.1 k (g m) k2 km g1 g2 (by rw [ek, g3])
    rw [← e]
    have := rcC_le hI s k hs
    exact ⟨by omega, k2, s, hs⟩
end SZP
section SZC
variable {G : hg_E} {E : nwE} {S : hg_S} {M : md_S} {n cap made k0 L : Nat} {bN : Nat → Nat} {q p : rsT} {ph : Nat → Nat}
/-- the class's looks while it counts -/
def szK (G : hg_E) (E : nwE) (bN : Nat → Nat) (cap : Nat) (q p : rsT) (made k0 L : Nat) (d : Nat) (y : hg_S × Int32 × Int32) : Prop := ∃ kk c q', y.2.1 = Int32.ofNat c ∧ y.2.2 = Int32.ofNat kk ∧ d = kk ∧ kk ≤ k0 ∧ NW G E y.1 bN cap q' ∧ (∀ i, ¬ i = 8 → q'.1 i = q.1 i) ∧ q'.2 = (uC q 14 (Int32.ofNat (L + 1))).2 ∧ (∀ k, k < cap → 0 ≤ (q'.1 8 k).toInt ∧ (q'.1 8 k).toInt ≤ ((L + 1 : Nat) : Int)) ∧ (∀ k, 2 ≤ k → k < made → (q'.1 8 k = Int32.ofNat (L + 1) ↔ (k = k0 ∨ ∃ j, rcC p made k0 j ∧ chN p made j k ∧ kk < j))) ∧ c + ctP (fun k => 2 ≤ k ∧ rcC p made k0 k) (kk + 1) = ctP (fun k => 2 ≤ k ∧ rcC p made k0 k) (k0 + 1)
theorem sz_s (hI : ncI p M n made ph cap) (hp : ∀ i, ¬ i = 8 → p.1 i = q.1 i) (hk : k0 < made) (hl : L + 1 ≤ 100000) : ∀ d y, szK G E bN cap q p made k0 L d y → dc_wp (hm_NT_multiplexersOf_s34 G E.2.1 y) (Sum.elim (fun y' => ∃ d', d' < d ∧ szK G E bN cap q p made k0 L d' y') (fun z => ∃ q', z.2 = Int32.ofNat (ctP (fun k => 2 ≤ k ∧ rcC p made k0 k) (k0 + 1)) ∧ NW G E z.1 bN cap q' ∧ (∀ i, ¬ i = 8 → q'.1 i = q.1 i) ∧ q'.2 = (uC q 14 (Int32.ofNat (L + 1))).2 ∧ ∀ k, k < cap → 0 ≤ (q'.1 8 k).toInt ∧ (q'.1 8 k).toInt ≤ ((L + 1 : Nat) : Int))) := by
  rintro d ⟨Y, y2, y3⟩ ⟨kk, c, q', e2, e3, ed, kl, hN, h8, hc, hb, hm, ht⟩
  have f2 : y2 = Int32.ofNat c := e2
  have f3 : y3 = Int32.ofNat kk := e3
  subst f2 f3
  clear e2 e3
  have hN : NW G E Y bN cap q' := hN
  have mc := hI.1.2.2
  have cl := ctP_le (P := fun k => 2 ≤ k ∧ rcC p made k0 k) (k0 + 1)
  have tk : (Int32.ofNat kk).toInt = (kk : Int) := Int32.toInt_ofNat_of_lt (by omega)
  have tkn : (Int32.ofNat kk).toInt.toNat = kk := by omega
  have tL : (Int32.ofNat (L + 1)).toInt = ((L + 1 : Nat) : Int) := Int32.toInt_ofNat_of_lt (by omega)
  have c14 : q'.2 14 = Int32.ofNat (L + 1) := by rw [hc]; exact uC_s
  show dc_wp (hm_NT_multiplexersOf_b34 G Y E.2.1 (Int32.ofNat c) (Int32.ofNat kk)) _
  delta hm_NT_multiplexersOf_b34
  refine wq_if (fun a => ?_) (fun a => ?_)
  · have a := i_lt.mp a
    rw [tk, il_2] at a
    refine ⟨_, rfl, q', ?_, hN, h8, hc, hb⟩
    have z : ctP (fun k => 2 ≤ k ∧ rcC p made k0 k) (kk + 1) = 0 := by
      have n0 : ¬ (2 ≤ 0 ∧ rcC p made k0 0) := fun z => by omega
      have n1 : ¬ (2 ≤ 1 ∧ rcC p made k0 1) := fun z => by omega
      have : kk = 0 ∨ kk = 1 := by omega
      rcases this with e | e
      · rw [e, ctP_n (P := fun k => 2 ≤ k ∧ rcC p made k0 k) n0]; rfl
      · rw [e, ctP_n (P := fun k => 2 ≤ k ∧ rcC p made k0 k) n1, ctP_n (P := fun k => 2 ≤ k ∧ rcC p made k0 k) n0]; rfl
    rw [z] at ht
    show Int32.ofNat c = _
    rw [← ht]; rfl
  · have a : ¬ (Int32.ofNat kk).toInt < (2 : Int32).toInt := fun z => a (i_lt.mpr z)
    rw [tk, il_2] at a
    have k2 : 2 ≤ kk := by omega
    have km : kk < made := by omega
    obtain ⟨k', ek'⟩ : ∃ k', kk = k' + 1 := ⟨kk - 1, by omega⟩
    have dn : Int32.ofNat kk + (-1) = Int32.ofNat k' := by rw [ek']; exact ofN_d k'
    have rk : q'.1 8 kk = Int32.ofNat (L + 1) ↔ rcC p made k0 kk := by
      rw [hm kk k2 km, rcC_iff (k := kk)]
      constructor
      · rintro (h | ⟨j, h1, h2, -⟩)
        · exact Or.inl h
        · exact Or.inr ⟨j, h1, h2⟩
      · rintro (h | ⟨j, h1, h2⟩)
        · exact Or.inl h
        · exact Or.inr ⟨j, h1, h2, ch_lt hI h2⟩
    refine nw_g hN (i := 8) (by decide) ?_
    refine nw_l hN (i := 8) (by decide) (by omega) (by show (Int32.ofNat kk).toInt < (cap : Int); omega) ?_
    rw [tkn]
    refine nw_i hN (i := 14) (by decide) (by decide) ?_
    rw [c14]
    refine wq_if (fun b => ?_) (fun b => ?_)
    · have hR := rk.mp b
      obtain ⟨p1, l, x, z, l1, l2, l3, l4, l5, l6, l7, l8, l9⟩ := hI.2.1 kk k2 km
      have q5 : q'.1 5 kk = Int32.ofNat x := by rw [h8 5 (by decide), ← hp 5 (by decide)]; exact l6
      have q6 : q'.1 6 kk = Int32.ofNat z := by rw [h8 6 (by decide), ← hp 6 (by decide)]; exact l8
      have tx : (Int32.ofNat x).toInt = (x : Int) := Int32.toInt_ofNat_of_lt (by omega)
      have tz : (Int32.ofNat z).toInt = (z : Int) := Int32.toInt_ofNat_of_lt (by omega)
      refine nw_g hN (i := 8) (by decide) ?_
      refine nw_g hN (i := 5) (by decide) ?_
      refine nw_l hN (i := 5) (by decide) (by omega) (by show (Int32.ofNat kk).toInt < (cap : Int); omega) ?_
      rw [tkn, q5]
      refine nw_i hN (i := 14) (by decide) (by decide) ?_
      rw [c14]
      refine nw_s hN (i := 8) (by decide) (by omega) (by show (Int32.ofNat x).toInt < (cap : Int); omega) (fun S1 N1 => ?_)
      rw [show (Int32.ofNat x).toInt.toNat = x by omega] at N1
      refine nw_g N1 (i := 8) (by decide) ?_
      refine nw_g N1 (i := 6) (by decide) ?_
      refine nw_l N1 (i := 6) (by decide) (by omega) (by show (Int32.ofNat kk).toInt < (cap : Int); omega) ?_
      rw [tkn, uX_n (by decide), q6]
      refine nw_i N1 (i := 14) (by decide) (by decide) ?_
      rw [show (uX q' 8 x (Int32.ofNat (L + 1))).2 14 = q'.2 14 from rfl, c14]
      refine nw_s N1 (i := 8) (by decide) (by omega) (by show (Int32.ofNat z).toInt < (cap : Int); omega) (fun S2 N2 => ?_)
      rw [show (Int32.ofNat z).toInt.toNat = z by omega] at N2
      delta hm_NT_multiplexersOf_L85
      have e8 : ∀ k, (uX (uX q' 8 x (Int32.ofNat (L + 1))) 8 z (Int32.ofNat (L + 1))).1 8 k = if k = z then Int32.ofNat (L + 1) else if k = x then Int32.ofNat (L + 1) else q'.1 8 k := fun k => by
        rw [uX_s]
        by_cases c1 : k = z
        · rw [if_pos c1, c1, upd_s]
        · rw [if_neg c1, upd_n c1, uX_s]
          by_cases c2 : k = x
          · rw [if_pos c2, c2, upd_s]
          · rw [if_neg c2, upd_n c2]
      refine ⟨_, rfl, k', by omega, k', c + 1, _, ad_m (by omega), dn, rfl, by omega, N2, fun i hi => ?_, hc, fun k hk' => ?_, fun k kk2 kkm => ?_, ?_⟩
      · rw [uX_n hi, uX_n hi]; exact h8 i hi
      · rw [e8]
        by_cases c1 : k = z
        · rw [if_pos c1, tL]; omega
        · rw [if_neg c1]
          by_cases c2 : k = x
          · rw [if_pos c2, tL]; omega
          · rw [if_neg c2]; exact hb k hk'
      · rw [e8]
        have cx : chN p made kk k ↔ (k = x ∨ k = z) := by
          constructor
          · rintro ⟨-, e | e⟩
            · rw [l6] at e
              exact Or.inl (ofN_j (by omega) (by omega) e).symm
            · rw [l8] at e
              exact Or.inr (ofN_j (by omega) (by omega) e).symm
          · rintro (e | e)
            · exact ⟨⟨k2, km, kkm⟩, Or.inl (by rw [e]; exact l6)⟩
            · exact ⟨⟨k2, km, kkm⟩, Or.inr (by rw [e]; exact l8)⟩
        have up : (k = k0 ∨ ∃ j, rcC p made k0 j ∧ chN p made j k ∧ k' < j) ↔ ((k = k0 ∨ ∃ j, rcC p made k0 j ∧ chN p made j k ∧ kk < j) ∨ (k = x ∨ k = z)) := by
          rw [← cx]
          constructor
          · rintro (h | ⟨j, h1, h2, h3⟩)
            · exact Or.inl (Or.inl h)
            · by_cases ej : j = kk
              · rw [ej] at h2; exact Or.inr h2
              · exact Or.inl (Or.inr ⟨j, h1, h2, by omega⟩)
          · rintro ((h | ⟨j, h1, h2, h3⟩) | h)
            · exact Or.inl h
            · exact Or.inr ⟨j, h1, h2, by omega⟩
            · exact Or.inr ⟨kk, hR, h, by omega⟩
        rw [up, ← hm k kk2 kkm]
        by_cases c1 : k = z
        · rw [if_pos c1]; exact ⟨fun _ => Or.inr (Or.inr c1), fun _ => rfl⟩
        · rw [if_neg c1]
          by_cases c2 : k = x
          · rw [if_pos c2]; exact ⟨fun _ => Or.inr (Or.inl c2), fun _ => rfl⟩
          · rw [if_neg c2]
            exact ⟨Or.inl, fun h => h.elim id (fun h => absurd h (fun h => h.elim c2 c1))⟩
      · rw [ctP_y (P := fun k => 2 ≤ k ∧ rcC p made k0 k) ⟨k2, hR⟩, ek'] at ht
        omega
    · have hR : ¬ rcC p made k0 kk := fun z => b (rk.mpr z)
      delta hm_NT_multiplexersOf_L85
      refine ⟨_, rfl, k', by omega, k', c, q', rfl, dn, rfl, by omega, hN, h8, hc, hb, fun k kk2 kkm => ?_, ?_⟩
      · rw [hm k kk2 kkm]
        constructor
        · rintro (h | ⟨j, h1, h2, h3⟩)
          · exact Or.inl h
          · exact Or.inr ⟨j, h1, h2, by omega⟩
        · rintro (h | ⟨j, h1, h2, h3⟩)
          · exact Or.inl h
          · by_cases ej : j = kk
            · rw [ej] at h1; exact absurd h1 hR
            · exact Or.inr ⟨j, h1, h2, by omega⟩
      · rw [ctP_n (P := fun k => 2 ≤ k ∧ rcC p made k0 k) (fun z => hR z.2), ek'] at ht
        exact ht
end SZC
