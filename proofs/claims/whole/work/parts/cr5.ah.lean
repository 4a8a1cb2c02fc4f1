/-! the reference's ahead: from where states are met -/
/-- heads and links: the last that leads there, and the ones before it -/
def ahO (M r : md_S) (cnt ins : Nat) : Prop := (r.1 = M.1 ∧ ∀ i, ¬ (i = 96 ∨ i = 97) → r.2.1 i = M.2.1 i) ∧ ∀ k i, k < cnt → i < 2 ^ ins → isP (prE M k i) cnt (r.2.1 96 (16 * k + i)) ∧ ∀ p, p < cnt → prE M k i p → isP (prE M k i) p (r.2.1 97 (16 * p + i))
section AHD
variable {M : md_S} {cnt ins : Nat}
/-- under way: states before a are done, and a on inputs below j -/
def ahI (M Y : md_S) (cnt ins a j : Nat) : Prop := (Y.1 = M.1 ∧ ∀ i, ¬ (i = 96 ∨ i = 97) → Y.2.1 i = M.2.1 i) ∧ ∀ k i, k < cnt → i < 2 ^ ins → isP (prE M k i) (if i < j then a + 1 else a) (Y.2.1 96 (16 * k + i)) ∧ ∀ p, p < (if i < j then a + 1 else a) → prE M k i p → isP (prE M k i) p (Y.2.1 97 (16 * p + i))
theorem ahI_k {Y : md_S} {a j : Nat} (h : ahI M Y cnt ins a j) (n : ∀ k, k < cnt → ¬ prE M k j a) : ahI M Y cnt ins a (j + 1) := by
  refine ⟨h.1, fun k i hk hi => ?_⟩
  obtain ⟨h1, h2⟩ := h.2 k i hk hi
  by_cases c : i = j
  · subst c
    rw [if_neg (by omega)] at h1 h2
    rw [if_pos (by omega)]
    refine ⟨isP_k h1 (n k hk), fun p hp hP => ?_⟩
    by_cases d : p = a
    · rw [d] at hP; exact absurd hP (n k hk)
    · exact h2 p (by omega) hP
  · have e : (if i < j + 1 then a + 1 else a) = if i < j then a + 1 else a := by
      by_cases d : i < j
      · rw [if_pos (by omega), if_pos d]
      · rw [if_neg (by omega), if_neg d]
    rw [e]
    exact ⟨h1, h2⟩
theorem ahI_p {Y Z : md_S} {a j m : Nat} (hc : cnt ≤ 257) (hj : j < 2 ^ ins) (hins : 2 ^ ins ≤ 16) (ha : a < cnt) (hm : m < cnt) (h : ahI M Y cnt ins a j) (hp : prE M m j a) (un : ∀ k, k < cnt → prE M k j a → k = m) (z1 : Z.1 = Y.1) (z2 : ∀ i, ¬ (i = 96 ∨ i = 97) → Z.2.1 i = Y.2.1 i) (z6 : Z.2.1 96 = upd (Y.2.1 96) (16 * m + j) (Int32.ofNat a)) (z7 : Z.2.1 97 = upd (Y.2.1 97) (16 * a + j) (Y.2.1 96 (16 * m + j))) : ahI M Z cnt ins a (j + 1) := by
  refine ⟨⟨by rw [z1]; exact h.1.1, fun i hi => by rw [z2 i hi]; exact h.1.2 i hi⟩, fun k i hk hi => ?_⟩
  obtain ⟨h1, h2⟩ := h.2 k i hk hi
  by_cases c : i = j
  · subst c
    rw [if_neg (by omega)] at h1 h2
    rw [if_pos (by omega)]
    by_cases d : k = m
    · subst d
      rw [z6, z7, upd_s]
      refine ⟨Or.inr ⟨a, rfl, by omega, hp, fun k' h1 h2 => by omega⟩, fun p hp' hP => ?_⟩
      by_cases e : p = a
      · subst e
        rw [upd_s]; exact h1
      · rw [upd_n (by omega)]
        exact h2 p (by omega) hP
    · have nk : ¬ prE M k i a := fun z => d (un k hk z)
      rw [z6, z7, upd_n (by omega)]
      refine ⟨isP_k h1 nk, fun p hp' hP => ?_⟩
      by_cases e : p = a
      · rw [e] at hP; exact absurd hP nk
      · rw [upd_n (by omega)]
        exact h2 p (by omega) hP
  · have e : (if i < j + 1 then a + 1 else a) = if i < j then a + 1 else a := by
      by_cases d : i < j
      · rw [if_pos (by omega), if_pos d]
      · rw [if_neg (by omega), if_neg d]
    rw [e, z6, z7, upd_n (by omega)]
    refine ⟨h1, fun p hp' hP => ?_⟩
    rw [upd_n (by omega)]
    exact h2 p hp' hP
theorem ah_t (h : rfS M cnt ins) : dc_wp (mm_ahead M) (fun r => ahO M r cnt ins) := by
  obtain ⟨⟨e87, c257, e45, i4⟩, hr, hd, hcell⟩ := h
  obtain ⟨sh1, sh2, sh3⟩ := sh_ins ins i4
  have tW : (Int32.ofNat (2 ^ ins)).toInt = ((2 ^ ins : Nat) : Int) := Int32.toInt_ofNat_of_lt (by omega)
  have tc : (Int32.ofNat cnt).toInt = (cnt : Int) := Int32.toInt_ofNat_of_lt (by omega)
  have m16 : (16 : Int32) * Int32.ofNat cnt = Int32.ofNat (16 * cnt) := by rw [show (16 : Int32) = Int32.ofNat 16 from rfl, ← Int32.ofNat_mul]
  have t16 : (Int32.ofNat (16 * cnt)).toInt = ((16 * cnt : Nat) : Int) := Int32.toInt_ofNat_of_lt (by omega)
  -- heads are cleared
  have key := dc_itK (step := mm_ahead_s2) (fun d (y : md_S × Int32) => ∃ k, y.2 = Int32.ofNat k ∧ k ≤ 16 * cnt ∧ d = 16 * cnt - k ∧ (y.1.1 = M.1 ∧ ∀ i, ¬ i = 96 → y.1.2.1 i = M.2.1 i) ∧ ∀ i, i < k → y.1.2.1 96 i = -1) (F := fun Y => (Y.1 = M.1 ∧ ∀ i, ¬ i = 96 → Y.2.1 i = M.2.1 i) ∧ ∀ i, i < 16 * cnt → Y.2.1 96 i = -1) (by
    rintro d ⟨Y, v⟩ ⟨k, ev, k1, ed, ⟨f1, f2⟩, f3⟩
    have ev : v = Int32.ofNat k := ev
    have f1 : Y.1 = M.1 := f1
    have f2 : ∀ i, ¬ i = 96 → Y.2.1 i = M.2.1 i := f2
    have f3 : ∀ i, i < k → Y.2.1 96 i = -1 := f3
    subst ev
    have tk : (Int32.ofNat k).toInt = (k : Int) := Int32.toInt_ofNat_of_lt (by omega)
    have tkn : (Int32.ofNat k).toInt.toNat = k := by omega
    show dc_wp (mm_ahead_b2 Y (Int32.ofNat k)) _
    delta mm_ahead_b2
    rw [f1, e87, m16]
    refine wq_if (fun c => ?_) (fun c => ?_)
    · have c := i_lt.mp c
      rw [tk, t16] at c
      refine wq_ix (by omega) (by omega) ?_
      rw [tkn]
      refine ⟨_, rfl, 16 * cnt - (k + 1), by omega, k + 1, ad_m (by omega), by omega, rfl, ⟨f1, fun i hi => ?_⟩, fun i hi => ?_⟩
      · show (md_a Y 96 k (-1)).2.1 i = _
        rw [md_a2, if_neg hi]; exact f2 i hi
      · show (md_a Y 96 k (-1)).2.1 96 i = _
        rw [md_a2, if_pos rfl]
        by_cases e : i = k
        · rw [e, upd_s]
        · rw [upd_n e]; exact f3 i (by omega)
    · have c : ¬ (Int32.ofNat k).toInt < (Int32.ofNat (16 * cnt)).toInt := fun z => c (i_lt.mpr z)
      rw [tk, t16] at c
      exact ⟨_, rfl, ⟨f1, f2⟩, fun i hi => f3 i (by omega)⟩)
  delta mm_ahead mm_ahead_L2
  refine wq_call (key (16 * cnt) (M, 0) ⟨0, rfl, by omega, rfl, ⟨rfl, fun _ _ => rfl⟩, fun i hi => absurd hi (by omega)⟩) ?_
  rintro Y0 ⟨⟨y1, y2⟩, y3⟩
  -- one state on all inputs
  have inner : ∀ (a : Nat) (Y : md_S), a < cnt → ahI M Y cnt ins a 0 → dc_wp (mm_ahead_L38 Y (Int32.ofNat a) 0) (fun z => ∃ Z, z = .inl (Z, Int32.ofNat (a + 1)) ∧ ahI M Z cnt ins (a + 1) 0) := by
    intro a Y ha hY
    have key2 := dc_itK (step := mm_ahead_s38 (Int32.ofNat a)) (fun d (y : md_S × Int32) => ∃ j, y.2 = Int32.ofNat j ∧ j ≤ 2 ^ ins ∧ d = 2 ^ ins - j ∧ ahI M y.1 cnt ins a j) (F := fun Z => ahI M Z cnt ins a (2 ^ ins)) (by
      rintro d ⟨Y, v⟩ ⟨j, ev, j1, ed, g⟩
      have ev : v = Int32.ofNat j := ev
      have g : ahI M Y cnt ins a j := g
      subst ev
      have tj : (Int32.ofNat j).toInt = (j : Int) := Int32.toInt_ofNat_of_lt (by omega)
      show dc_wp (mm_ahead_b38 Y (Int32.ofNat a) (Int32.ofNat j)) _
      delta mm_ahead_b38
      rw [g.1.1, e45, sh1]
      refine wq_if (fun c => ?_) (fun c => ?_)
      · have c := i_lt.mp c
        rw [tj, tW] at c
        have cx : (Int32.ofNat (16 * a + j)).toInt = ((16 * a + j : Nat) : Int) := Int32.toInt_ofNat_of_lt (by omega)
        have cxn : (Int32.ofNat (16 * a + j)).toInt.toNat = 16 * a + j := by omega
        rw [cel_m]
        refine wq_ix (by omega) (by omega) ?_
        refine wq_let (fun x ex => ?_)
        rw [cxn, g.1.2 92 (by omega)] at ex
        have step : ∀ Z, ahI M Z cnt ins a (j + 1) → dc_wp (mm_ahead_L112 Z (Int32.ofNat a) (Int32.ofNat j)) (Sum.elim (fun y => ∃ k', k' < d ∧ ∃ j, y.2 = Int32.ofNat j ∧ j ≤ 2 ^ ins ∧ k' = 2 ^ ins - j ∧ ahI M y.1 cnt ins a j) (fun Z => ahI M Z cnt ins a (2 ^ ins))) := by
          intro Z hZ
          delta mm_ahead_L112
          exact ⟨_, rfl, 2 ^ ins - (j + 1), by omega, j + 1, ad_m (by omega), by omega, rfl, hZ⟩
        refine wq_if (fun c2 => ?_) (fun c2 => ?_)
        · refine step Y (ahI_k g (fun k hk hP => ?_))
          have hP : M.2.1 92 (16 * a + j) = M.2.1 88 k := hP
          rw [ex, hP] at c2
          have := i_lt.mp c2
          rw [il_0] at this
          have := (hr k hk).1
          omega
        · refine wq_if (fun c3 => ?_) (fun c3 => ?_)
          · refine step Y (ahI_k g (fun k hk hP => ?_))
            have hP : M.2.1 92 (16 * a + j) = M.2.1 88 k := hP
            rw [ex, hP] at c3
            have := (hr k hk).2
            rw [c3, il_257] at this
            omega
          · have c87 : Y.1 87 = Int32.ofNat cnt := by rw [g.1.1]; exact e87
            refine wq_call (fnd_t c257 c87) ?_
            intro v hv
            rw [g.1.2 88 (by omega)] at hv
            rcases hv with ⟨m, m1, m2, m3, -⟩ | ⟨-, no⟩
            · subst m2
              refine wq_let (fun w ew => ?_)
              rw [cel_m] at ew
              subst ew
              have cm : (Int32.ofNat (16 * m + j)).toInt = ((16 * m + j : Nat) : Int) := Int32.toInt_ofNat_of_lt (by omega)
              have cmn : (Int32.ofNat (16 * m + j)).toInt.toNat = 16 * m + j := by omega
              refine wq_ix (by omega) (by omega) ?_
              refine wq_ix (by omega) (by omega) ?_
              refine wq_let (fun Z1 e1 => ?_)
              refine wq_ix (by omega) (by omega) ?_
              refine wq_let (fun Z2 e2 => ?_)
              rw [cxn, cmn] at e1
              rw [cmn] at e2
              have hp : prE M m j a := by
                show M.2.1 92 (16 * a + j) = M.2.1 88 m
                rw [m3, ex]
              refine step Z2 (ahI_p c257 (by omega) sh3 ha m1 g hp (fun k hk hP => ?_) ?_ (fun i hi => ?_) ?_ ?_)
              · have hP : M.2.1 92 (16 * a + j) = M.2.1 88 k := hP
                have hp : M.2.1 92 (16 * a + j) = M.2.1 88 m := hp
                exact hd k m hk m1 (hP.symm.trans hp)
              · rw [e2, e1]; rfl
              · rw [e2, md_a2, if_neg (by omega), e1, md_a2, if_neg (by omega)]
              · rw [e2, md_a2, if_pos rfl, e1, md_a2, if_neg (by omega)]
              · rw [e2, md_a2, if_neg (by omega), e1, md_a2, if_pos rfl]
            · exfalso
              rcases hcell a j ha (by omega) with w | w | ⟨k, w1, w2⟩
              · rw [ex, w] at c2
                exact c2 (by decide)
              · exact c3 (by rw [ex, w])
              · exact no k w1 (by rw [ex, w2])
      · have c : ¬ (Int32.ofNat j).toInt < (Int32.ofNat (2 ^ ins)).toInt := fun z => c (i_lt.mpr z)
        rw [tj, tW] at c
        have ej : j = 2 ^ ins := by omega
        rw [ej] at g
        exact ⟨_, rfl, g⟩)
    delta mm_ahead_L38
    refine wq_call (key2 (2 ^ ins) (Y, 0) ⟨0, rfl, by omega, rfl, hY⟩) ?_
    intro Z hZ
    delta mm_ahead_L118
    refine ⟨_, rfl, Z, by rw [ad_m (by omega)], hZ.1, fun k i hk hi => ?_⟩
    have := hZ.2 k i hk hi
    rw [if_pos hi] at this
    rw [if_neg (by omega)]
    exact this
  have key3 := dc_itK (step := mm_ahead_s28) (fun d (y : md_S × Int32) => ∃ a, y.2 = Int32.ofNat a ∧ a ≤ cnt ∧ d = cnt - a ∧ ahI M y.1 cnt ins a 0) (F := fun Z => ahI M Z cnt ins cnt 0) (by
    rintro d ⟨Y, v⟩ ⟨a, ev, a1, ed, g⟩
    have ev : v = Int32.ofNat a := ev
    have g : ahI M Y cnt ins a 0 := g
    subst ev
    have ta : (Int32.ofNat a).toInt = (a : Int) := Int32.toInt_ofNat_of_lt (by omega)
    show dc_wp (mm_ahead_b28 Y (Int32.ofNat a)) _
    delta mm_ahead_b28
    rw [g.1.1, e87]
    refine wq_if (fun c => ?_) (fun c => ?_)
    · have c := i_lt.mp c
      rw [ta, tc] at c
      refine wq_w (inner a Y (by omega) g) ?_
      rintro z ⟨Z, ez, hZ⟩
      subst ez
      exact ⟨cnt - (a + 1), by omega, a + 1, rfl, by omega, rfl, hZ⟩
    · have c : ¬ (Int32.ofNat a).toInt < (Int32.ofNat cnt).toInt := fun z => c (i_lt.mpr z)
      rw [ta, tc] at c
      have ea : a = cnt := by omega
      rw [ea] at g
      exact ⟨_, rfl, g⟩)
  delta mm_ahead_L26 mm_ahead_L28
  refine wq_call (key3 cnt (Y0, 0) ⟨0, rfl, by omega, rfl, ⟨y1, fun i hi => y2 i (by omega)⟩, fun k i hk hi => ⟨?_, fun p hp => ?_⟩⟩) ?_
  · refine Or.inl ⟨y3 _ ?_, fun p hp => ?_⟩
    · have : i < 16 := by omega
      omega
    · rw [if_neg (by omega)] at hp
      omega
  · rw [if_neg (by omega)] at hp
    omega
  · intro Z hZ
    delta mm_ahead_L124
    refine ⟨_, rfl, hZ.1, fun k i hk hi => ?_⟩
    have := hZ.2 k i hk hi
    rw [if_neg (by omega)] at this
    exact this
end AHD
