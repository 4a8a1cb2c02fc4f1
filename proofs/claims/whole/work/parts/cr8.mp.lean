/-! the reference's markPairs, whole -/
/-- which pairs are told apart -/
def mpO (M r : md_S) (cnt ins : Nat) : Prop := (r.1 = M.1 ∧ ∀ i, ¬ (94 ≤ i ∧ i ≤ 97) → r.2.1 i = M.2.1 i) ∧ (∀ x y, x < cnt → y < cnt → ap r x y → ap r y x) ∧ (∀ R, bsM M cnt (2 ^ ins) R → ∀ x y, x < cnt → y < cnt → R x y → ¬ ap r x y) ∧ (∀ a b, a < cnt → b < cnt → ap r a b → Clo M r cnt ins a b) ∧ ∀ a b, a < cnt → b < cnt → dfP M (2 ^ ins) a b → ap r a b
section MPW
variable {M : md_S} {cnt ins : Nat}
theorem dfP_c {M' : md_S} (h92 : M'.2.1 92 = M.2.1 92) (h93 : M'.2.1 93 = M.2.1 93) {W x y : Nat} : dfP M' W x y ↔ dfP M W x y := by
  unfold dfP dsm
  rw [h92, h93]
theorem bsM_c {M' : md_S} (h88 : M'.2.1 88 = M.2.1 88) (h92 : M'.2.1 92 = M.2.1 92) (h93 : M'.2.1 93 = M.2.1 93) {W : Nat} {R : Nat → Nat → Prop} : bsM M' cnt W R ↔ bsM M cnt W R := by
  unfold bsM dfP dsm prE
  rw [h88, h92, h93]
theorem mp_t (h : rfS M cnt ins) : dc_wp (mm_markPairs M) (fun r => mpO M r cnt ins) := by
  have h0 := h
  obtain ⟨⟨e87, c257, e45, i4⟩, hr, hd, hcell⟩ := h
  obtain ⟨sh1, sh2, sh3⟩ := sh_ins ins i4
  have tc : (Int32.ofNat cnt).toInt = (cnt : Int) := Int32.toInt_ofNat_of_lt (by omega)
  -- all marks are taken away
  have row : ∀ (a : Nat) (Y : md_S), a < cnt → (Y.1 = M.1 ∧ ∀ i, ¬ i = 94 → Y.2.1 i = M.2.1 i) → (∀ k, k < a → ∀ b, b < cnt → Y.2.1 94 (257 * k + b) = 0) → dc_wp (mm_markPairs_L14 Y 0 (Int32.ofNat a) 0) (fun z => ∃ Z, z = .inl (Z, Int32.ofNat (a + 1)) ∧ (Z.1 = M.1 ∧ ∀ i, ¬ i = 94 → Z.2.1 i = M.2.1 i) ∧ ∀ k, k < a + 1 → ∀ b, b < cnt → Z.2.1 94 (257 * k + b) = 0) := by
    intro a Y ha hf hz
    have key := dc_itK (step := mm_markPairs_s14 0 (Int32.ofNat a)) (fun d (w : md_S × Int32) => ∃ j, w.2 = Int32.ofNat j ∧ j ≤ cnt ∧ d = cnt - j ∧ (w.1.1 = M.1 ∧ ∀ i, ¬ i = 94 → w.1.2.1 i = M.2.1 i) ∧ (∀ k, k < a → ∀ b, b < cnt → w.1.2.1 94 (257 * k + b) = 0) ∧ ∀ b, b < j → w.1.2.1 94 (257 * a + b) = 0) (F := fun Z => (Z.1 = M.1 ∧ ∀ i, ¬ i = 94 → Z.2.1 i = M.2.1 i) ∧ (∀ k, k < a → ∀ b, b < cnt → Z.2.1 94 (257 * k + b) = 0) ∧ ∀ b, b < cnt → Z.2.1 94 (257 * a + b) = 0) (by
      rintro d ⟨Y, v⟩ ⟨j, ev, j1, ed, ⟨f1, f2⟩, f3, f4⟩
      have ev : v = Int32.ofNat j := ev
      have f1 : Y.1 = M.1 := f1
      have f2 : ∀ i, ¬ i = 94 → Y.2.1 i = M.2.1 i := f2
      have f3 : ∀ k, k < a → ∀ b, b < cnt → Y.2.1 94 (257 * k + b) = 0 := f3
      have f4 : ∀ b, b < j → Y.2.1 94 (257 * a + b) = 0 := f4
      subst ev
      have tj : (Int32.ofNat j).toInt = (j : Int) := Int32.toInt_ofNat_of_lt (by omega)
      show dc_wp (mm_markPairs_b14 Y 0 (Int32.ofNat a) (Int32.ofNat j)) _
      delta mm_markPairs_b14
      rw [f1, e87]
      refine wq_if (fun c => ?_) (fun c => ?_)
      · have c := i_lt.mp c
        rw [tj, tc] at c
        have c1 : (Int32.ofNat (257 * a + j)).toInt = ((257 * a + j : Nat) : Int) := Int32.toInt_ofNat_of_lt (by omega)
        have c1n : (Int32.ofNat (257 * a + j)).toInt.toNat = 257 * a + j := by omega
        rw [cel_p]
        refine wq_ix (by omega) (by omega) ?_
        rw [c1n]
        refine ⟨_, rfl, cnt - (j + 1), by omega, j + 1, ad_m (by omega), by omega, rfl, ⟨f1, fun i hi => ?_⟩, fun k hk b hb => ?_, fun b hb => ?_⟩
        · show (md_a Y 94 (257 * a + j) 0).2.1 i = _
          rw [md_a2, if_neg hi]; exact f2 i hi
        · show (md_a Y 94 (257 * a + j) 0).2.1 94 _ = _
          rw [md_a2, if_pos rfl, upd_n (by omega)]
          exact f3 k hk b hb
        · show (md_a Y 94 (257 * a + j) 0).2.1 94 _ = _
          rw [md_a2, if_pos rfl]
          by_cases e : b = j
          · rw [e, upd_s]
          · rw [upd_n (by omega)]
            exact f4 b (by omega)
      · have c : ¬ (Int32.ofNat j).toInt < (Int32.ofNat cnt).toInt := fun z => c (i_lt.mpr z)
        rw [tj, tc] at c
        exact ⟨_, rfl, ⟨f1, f2⟩, f3, fun b hb => f4 b (by omega)⟩)
    delta mm_markPairs_L14
    refine wq_call (key cnt (Y, 0) ⟨0, rfl, by omega, rfl, hf, hz, fun b hb => absurd hb (by omega)⟩) ?_
    rintro Z ⟨z1, z2, z3⟩
    delta mm_markPairs_L41
    refine ⟨_, rfl, Z, by rw [ad_m (by omega)], z1, fun k hk b hb => ?_⟩
    by_cases e : k = a
    · rw [e]; exact z3 b hb
    · exact z2 k (by omega) b hb
  have key1 := dc_itK (step := mm_markPairs_s4 0) (fun d (w : md_S × Int32) => ∃ a, w.2 = Int32.ofNat a ∧ a ≤ cnt ∧ d = cnt - a ∧ (w.1.1 = M.1 ∧ ∀ i, ¬ i = 94 → w.1.2.1 i = M.2.1 i) ∧ ∀ k, k < a → ∀ b, b < cnt → w.1.2.1 94 (257 * k + b) = 0) (F := fun Z => (Z.1 = M.1 ∧ ∀ i, ¬ i = 94 → Z.2.1 i = M.2.1 i) ∧ ∀ k, k < cnt → ∀ b, b < cnt → Z.2.1 94 (257 * k + b) = 0) (by
    rintro d ⟨Y, v⟩ ⟨a, ev, a1, ed, hf, hz⟩
    have ev : v = Int32.ofNat a := ev
    have hf : Y.1 = M.1 ∧ ∀ i, ¬ i = 94 → Y.2.1 i = M.2.1 i := hf
    subst ev
    have ta : (Int32.ofNat a).toInt = (a : Int) := Int32.toInt_ofNat_of_lt (by omega)
    show dc_wp (mm_markPairs_b4 Y 0 (Int32.ofNat a)) _
    delta mm_markPairs_b4
    rw [hf.1, e87]
    refine wq_if (fun c => ?_) (fun c => ?_)
    · have c := i_lt.mp c
      rw [ta, tc] at c
      refine wq_w (row a Y (by omega) hf hz) ?_
      rintro z ⟨Z, ez, z1, z2⟩
      subst ez
      exact ⟨cnt - (a + 1), by omega, a + 1, rfl, by omega, rfl, z1, z2⟩
    · have c : ¬ (Int32.ofNat a).toInt < (Int32.ofNat cnt).toInt := fun z => c (i_lt.mpr z)
      rw [ta, tc] at c
      exact ⟨_, rfl, hf, fun k hk b hb => hz k (by omega) b hb⟩)
  delta mm_markPairs mm_markPairs_L4
  refine wq_call (key1 cnt (M, 0) ⟨0, rfl, by omega, rfl, ⟨rfl, fun _ _ => rfl⟩, fun k hk => absurd hk (by omega)⟩) ?_
  rintro Y0 ⟨⟨y1, y2⟩, y3⟩
  -- pairs that differ at once
  have bs : ∀ a b, a < cnt → b < a → dfP M (2 ^ ins) a b → ∀ R, bsM M cnt (2 ^ ins) R → ¬ R a b ∧ ¬ R b a := fun a b ha hb hdf R hR => ⟨fun w => (hR a b ha (by omega) w).1 hdf, fun w => (hR b a (by omega) ha w).1 (dfP_s hdf)⟩
  have row2 : ∀ (a n : Nat) (Y : md_S), a < cnt → mkB M Y cnt ins n → (∀ x y, x < cnt → y < cnt → ap Y x y → (x < a ∨ y < a) ∧ (onS Y n x y ∨ onS Y n y x)) → (∀ x y, y < x → x < a → dfP M (2 ^ ins) x y → ap Y x y) → (∀ x y, x < cnt → y < cnt → ap Y x y → x < a ∧ y < a) → dc_wp (mm_markPairs_L59 Y (Int32.ofNat n) (Int32.ofNat a) 0) (fun z => ∃ Z n', z = .inl (Z, Int32.ofNat n', Int32.ofNat (a + 1)) ∧ mkB M Z cnt ins n' ∧ (∀ x y, x < cnt → y < cnt → ap Z x y → onS Z n' x y ∨ onS Z n' y x) ∧ (∀ x y, y < x → x < a + 1 → dfP M (2 ^ ins) x y → ap Z x y) ∧ ∀ x y, x < cnt → y < cnt → ap Z x y → x < a + 1 ∧ y < a + 1) := by
    intro a n Y ha hB hN hF hL
    have ta : (Int32.ofNat a).toInt = (a : Int) := Int32.toInt_ofNat_of_lt (by omega)
    have key := dc_itK (step := mm_markPairs_s59 (Int32.ofNat a)) (fun d (w : md_S × Int32 × Int32) => ∃ n' j, w.2.1 = Int32.ofNat n' ∧ w.2.2 = Int32.ofNat j ∧ j ≤ a ∧ d = a - j ∧ mkB M w.1 cnt ins n' ∧ (∀ x y, x < cnt → y < cnt → ap w.1 x y → onS w.1 n' x y ∨ onS w.1 n' y x) ∧ (∀ x y, y < x → x < a ∨ (x = a ∧ y < j) → dfP M (2 ^ ins) x y → ap w.1 x y) ∧ ∀ x y, x < cnt → y < cnt → ap w.1 x y → (x < a ∧ y < a) ∨ (x = a ∧ y < j) ∨ (y = a ∧ x < j)) (F := fun w => ∃ n', w.2 = Int32.ofNat n' ∧ mkB M w.1 cnt ins n' ∧ (∀ x y, x < cnt → y < cnt → ap w.1 x y → onS w.1 n' x y ∨ onS w.1 n' y x) ∧ (∀ x y, y < x → x < a + 1 → dfP M (2 ^ ins) x y → ap w.1 x y) ∧ ∀ x y, x < cnt → y < cnt → ap w.1 x y → x < a + 1 ∧ y < a + 1) (by
      rintro d ⟨Y, v1, v2⟩ ⟨n', j, e1, e2, j1, ed, hB, hN, hF, hL⟩
      have e1 : v1 = Int32.ofNat n' := e1
      have e2 : v2 = Int32.ofNat j := e2
      have hB : mkB M Y cnt ins n' := hB
      have hN : ∀ x y, x < cnt → y < cnt → ap Y x y → onS Y n' x y ∨ onS Y n' y x := hN
      have hF : ∀ x y, y < x → x < a ∨ (x = a ∧ y < j) → dfP M (2 ^ ins) x y → ap Y x y := hF
      have hL : ∀ x y, x < cnt → y < cnt → ap Y x y → (x < a ∧ y < a) ∨ (x = a ∧ y < j) ∨ (y = a ∧ x < j) := hL
      subst e1 e2
      have tj : (Int32.ofNat j).toInt = (j : Int) := Int32.toInt_ofNat_of_lt (by omega)
      have n32 : n' ≤ 32896 := by have := hB.2.2.2.1; omega
      have tn : (Int32.ofNat n').toInt = (n' : Int) := Int32.toInt_ofNat_of_lt (by omega)
      have tnn : (Int32.ofNat n').toInt.toNat = n' := by omega
      show dc_wp (mm_markPairs_b59 Y (Int32.ofNat n') (Int32.ofNat a) (Int32.ofNat j)) _
      delta mm_markPairs_b59
      refine wq_if (fun c => ?_) (fun c => ?_)
      · have c := i_lt.mp c
        rw [tj, ta] at c
        refine wq_call (dif_t (M := Y) (ins := ins) (x := a) (y := j) (by rw [hB.1.1]; exact e45) i4 (by omega) (by omega)) ?_
        intro v hv
        rw [dfP_c (M := M) (hB.1.2 92 (by omega)) (hB.1.2 93 (by omega))] at hv
        rcases hv with ⟨v1, v2⟩ | ⟨v1, v2⟩
        · rw [if_neg (by rw [v1]; decide), cel_p, cel_p]
          have c1 : (Int32.ofNat (257 * a + j)).toInt = ((257 * a + j : Nat) : Int) := Int32.toInt_ofNat_of_lt (by omega)
          have c1n : (Int32.ofNat (257 * a + j)).toInt.toNat = 257 * a + j := by omega
          have c2 : (Int32.ofNat (257 * j + a)).toInt = ((257 * j + a : Nat) : Int) := Int32.toInt_ofNat_of_lt (by omega)
          have c2n : (Int32.ofNat (257 * j + a)).toInt.toNat = 257 * j + a := by omega
          refine wq_ix (by omega) (by omega) ?_
          refine wq_let (fun Y1 f1 => ?_)
          refine wq_ix (by omega) (by omega) ?_
          refine wq_let (fun Y2 f2 => ?_)
          refine wq_ix (by omega) (by omega) ?_
          refine wq_let (fun Y3 f3 => ?_)
          rw [c2n] at f1
          rw [c1n] at f2
          rw [tnn] at f3
          have na : ¬ ap Y a j := fun w => by
            have := hL a j ha (by omega) w
            omega
          have hW : mkW Y Y3 n' a j := by
            refine ⟨by rw [f3, f2, f1]; rfl, fun i hi => ?_, ?_, ?_⟩
            · rw [f3, md_a2, if_neg (by omega), f2, md_a2, if_neg (by omega), f1, md_a2, if_neg (by omega)]
            · rw [f3, md_a2, if_neg (by omega), f2, md_a2, if_pos rfl, f1, md_a2, if_pos rfl]
            · rw [f3, md_a2, if_pos rfl, f2, md_a2, if_neg (by omega), f1, md_a2, if_neg (by omega)]
          obtain ⟨hB', -⟩ := mk_push hB c257 ha (by omega) (by omega) na (bs a j ha (by omega) v2) hW
          have ma : ∀ x y, x < cnt → y < cnt → (ap Y3 x y ↔ (ap Y x y ∨ (x = a ∧ y = j) ∨ (x = j ∧ y = a))) := fun x y hx hy => mkW_a hW (by omega) (by omega) (by omega) (by omega)
          rw [ad_m (by omega)]
          delta mm_markPairs_L118
          refine ⟨_, rfl, a - (j + 1), by omega, n' + 1, j + 1, rfl, ad_m (by omega), by omega, rfl, hB', fun x y hx hy w => ?_, fun x y h1 h2 h3 => ?_, fun x y hx hy w => ?_⟩
          · rcases (ma x y hx hy).mp w with w | w | w
            · exact (hN x y hx hy w).imp (mkW_o hW) (mkW_o hW)
            · rw [w.1, w.2]; exact Or.inl (mkW_n hW)
            · rw [w.1, w.2]; exact Or.inr (mkW_n hW)
          · refine (ma x y (by omega) (by omega)).mpr ?_
            by_cases e : x = a ∧ y = j
            · exact Or.inr (Or.inl e)
            · exact Or.inl (hF x y h1 (by omega) h3)
          · rcases (ma x y hx hy).mp w with w | w | w
            · have := hL x y hx hy w
              omega
            · omega
            · omega
        · rw [if_pos v1]
          delta mm_markPairs_L118
          refine ⟨_, rfl, a - (j + 1), by omega, n', j + 1, rfl, ad_m (by omega), by omega, rfl, hB, hN, fun x y h1 h2 h3 => ?_, fun x y hx hy w => ?_⟩
          · by_cases e : x = a ∧ y = j
            · rw [e.1, e.2] at h3; exact absurd h3 v2
            · exact hF x y h1 (by omega) h3
          · have := hL x y hx hy w
            omega
      · have c : ¬ (Int32.ofNat j).toInt < (Int32.ofNat a).toInt := fun z => c (i_lt.mpr z)
        rw [tj, ta] at c
        refine ⟨_, rfl, n', rfl, hB, hN, fun x y h1 h2 h3 => hF x y h1 (by omega) h3, fun x y hx hy w => ?_⟩
        have := hL x y hx hy w
        omega)
    delta mm_markPairs_L59
    refine wq_call (key a (Y, Int32.ofNat n, 0) ⟨n, 0, rfl, rfl, by omega, rfl, hB, fun x y hx hy w => (hN x y hx hy w).2, fun x y h1 h2 h3 => hF x y h1 (by omega) h3, fun x y hx hy w => Or.inl (hL x y hx hy w)⟩) ?_
    rintro ⟨Z, v⟩ ⟨n', e1, z1, z2, z3, z4⟩
    have e1 : v = Int32.ofNat n' := e1
    subst e1
    show dc_wp (mm_markPairs_L124 Z (Int32.ofNat n') (Int32.ofNat a)) _
    delta mm_markPairs_L124
    exact ⟨_, rfl, Z, n', by rw [ad_m (by omega)], z1, z2, z3, z4⟩
  have key2 := dc_itK (step := mm_markPairs_s49) (fun d (w : md_S × Int32 × Int32) => ∃ n a, w.2.1 = Int32.ofNat n ∧ w.2.2 = Int32.ofNat a ∧ a ≤ cnt ∧ d = cnt - a ∧ mkB M w.1 cnt ins n ∧ (∀ x y, x < cnt → y < cnt → ap w.1 x y → onS w.1 n x y ∨ onS w.1 n y x) ∧ (∀ x y, y < x → x < a → dfP M (2 ^ ins) x y → ap w.1 x y) ∧ ∀ x y, x < cnt → y < cnt → ap w.1 x y → x < a ∧ y < a) (F := fun w => ∃ n, w.2 = Int32.ofNat n ∧ mkB M w.1 cnt ins n ∧ (∀ x y, x < cnt → y < cnt → ap w.1 x y → onS w.1 n x y ∨ onS w.1 n y x) ∧ ∀ x y, y < x → x < cnt → dfP M (2 ^ ins) x y → ap w.1 x y) (by
    rintro d ⟨Y, v1, v2⟩ ⟨n, a, e1, e2, a1, ed, hB, hN, hF, hL⟩
    have e1 : v1 = Int32.ofNat n := e1
    have e2 : v2 = Int32.ofNat a := e2
    have hB : mkB M Y cnt ins n := hB
    subst e1 e2
    have ta : (Int32.ofNat a).toInt = (a : Int) := Int32.toInt_ofNat_of_lt (by omega)
    show dc_wp (mm_markPairs_b49 Y (Int32.ofNat n) (Int32.ofNat a)) _
    delta mm_markPairs_b49
    rw [hB.1.1, e87]
    refine wq_if (fun c => ?_) (fun c => ?_)
    · have c := i_lt.mp c
      rw [ta, tc] at c
      refine wq_w (row2 a n Y (by omega) hB (fun x y hx hy w => ⟨Or.inl (hL x y hx hy w).1, hN x y hx hy w⟩) hF hL) ?_
      rintro z ⟨Z, n', ez, z1, z2, z3, z4⟩
      subst ez
      exact ⟨cnt - (a + 1), by omega, n', a + 1, rfl, rfl, by omega, rfl, z1, z2, z3, z4⟩
    · have c : ¬ (Int32.ofNat a).toInt < (Int32.ofNat cnt).toInt := fun z => c (i_lt.mpr z)
      rw [ta, tc] at c
      exact ⟨_, rfl, n, rfl, hB, hN, fun x y h1 h2 h3 => hF x y h1 (by omega) h3⟩)
  delta mm_markPairs_L47 mm_markPairs_L49
  have no : ∀ x y, x < cnt → y < cnt → ¬ ap Y0 x y := fun x y hx hy w => w (y3 x hx y hy)
  refine wq_call (key2 cnt (Y0, 0, 0) ⟨0, 0, rfl, rfl, by omega, rfl, ⟨⟨y1, fun i hi => y2 i (by omega)⟩, fun x y hx hy w => absurd w (no x y hx hy), fun R _ x y hx hy _ => no x y hx hy, by have t := uN_b (f := Y0.2.1 94) (cnt := cnt); show 0 + uN (Y0.2.1 94) cnt ≤ 32896; omega, fun k hk => absurd hk (by omega)⟩, fun x y hx hy w => absurd w (no x y hx hy), fun x y h1 h2 => absurd h2 (by omega), fun x y hx hy w => absurd w (no x y hx hy)⟩) ?_
  rintro ⟨Y, v⟩ ⟨n, e1, hB, hN, hF⟩
  have e1 : v = Int32.ofNat n := e1
  have hB : mkB M Y cnt ins n := hB
  have hN : ∀ x y, x < cnt → y < cnt → ap Y x y → onS Y n x y ∨ onS Y n y x := hN
  have hF : ∀ x y, y < x → x < cnt → dfP M (2 ^ ins) x y → ap Y x y := hF
  subst e1
  show dc_wp (mm_markPairs_L130 Y (Int32.ofNat n)) _
  delta mm_markPairs_L130
  have f88 : Y.2.1 88 = M.2.1 88 := hB.1.2 88 (by omega)
  have f92 : Y.2.1 92 = M.2.1 92 := hB.1.2 92 (by omega)
  have f93 : Y.2.1 93 = M.2.1 93 := hB.1.2 93 (by omega)
  have rfY : rfS Y cnt ins := by
    unfold rfS
    rw [hB.1.1, f88, f92]
    exact h0
  refine wq_call (ah_t rfY) ?_
  rintro A ⟨⟨a1, a2⟩, a3⟩
  have g88 : A.2.1 88 = M.2.1 88 := (a2 88 (by omega)).trans f88
  have g92 : A.2.1 92 = M.2.1 92 := (a2 92 (by omega)).trans f92
  have g93 : A.2.1 93 = M.2.1 93 := (a2 93 (by omega)).trans f93
  have pr : ∀ k i p, prE A k i p ↔ prE Y k i p := fun k i p => by unfold prE; rw [a2 88 (by omega), a2 92 (by omega)]
  have pr' : ∀ k i, prE A k i = prE Y k i := fun k i => by unfold prE; rw [a2 88 (by omega), a2 92 (by omega)]
  have apA : ∀ x y, ap A x y ↔ ap Y x y := fun x y => by unfold ap; rw [a2 94 (by omega)]
  have onA : ∀ x y, onS A n x y ↔ onS Y n x y := fun x y => by unfold onS; rw [a2 95 (by omega)]
  have hBA : mkB A A cnt ins n := by
    obtain ⟨-, b3, b4, b5, b6⟩ := hB
    refine ⟨⟨rfl, fun _ _ => rfl⟩, fun x y hx hy w => (apA y x).mpr (b3 x y hx hy ((apA x y).mp w)), fun R hR x y hx hy w v => b4 R ((bsM_c g88 g92 g93).mp hR) x y hx hy w ((apA x y).mp v), by rw [a2 94 (by omega)]; exact b5, fun k hk => ?_⟩
    obtain ⟨x, y, k1, k2, k3, k4⟩ := b6 k hk
    exact ⟨x, y, k1, k2, by rw [a2 95 (by omega)]; exact k3, (apA x y).mpr k4⟩
  refine wq_w (mk_L134 (M0 := A) (M := A) (cnt := cnt) (ins := ins) (n := n) (by rw [g88]; exact hd) c257 (by rw [a1, hB.1.1]; exact e45) i4 (fun k i hk hi => ?_) hBA (fun a b ha hb w => ?_) (fun a b ha hb w => ?_)) ?_
  · rw [pr']
    exact a3 k i hk hi
  · rw [onA, onA]
    exact hN a b ha hb ((apA a b).mp w)
  · have w := (dfP_c g92 g93).mp w
    refine (apA a b).mpr ?_
    by_cases c : b < a
    · exact hF a b c ha w
    · by_cases c2 : a = b
      · rw [c2] at w; exact absurd w dfP_r
      · exact hB.2.1 b a hb ha (hF b a (by omega) hb (dfP_s w))
  · rintro Z ⟨z1, z2, z3⟩
    refine ⟨⟨z1.1.1.trans (a1.trans hB.1.1), fun i hi => ?_⟩, z1.2.1, fun R hR => z1.2.2.1 R ((bsM_c g88 g92 g93).mpr hR), fun a b ha hb w i hi p q hp hq h1 h2 => ?_, fun a b ha hb w => z3 a b ha hb ((dfP_c g92 g93).mpr w)⟩
    · rw [z1.1.2 i (by omega), a2 i (by omega), hB.1.2 i (by omega)]
    · refine z2 a b ha hb w i hi p q hp hq ?_ ?_
      · unfold prE at h1 ⊢
        rw [g88, g92]; exact h1
      · unfold prE at h2 ⊢
        rw [g88, g92]; exact h2
end MPW
