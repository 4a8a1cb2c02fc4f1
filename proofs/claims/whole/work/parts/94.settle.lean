def sb_zs : List Nat := [41, 42, 43, 44, 45, 46, 47, 48, 49, 77, 82, 83, 85, 86, 87, 106]
theorem forget_z (S : md_S) : dc_pw (mm_forget S) (fun q => ∀ k, k ∈ sb_zs → q.1 k = 0) := by
  unfold mm_forget
  refine pw_letB ?_; intro S5 h5
  refine pw_letB ?_; intro S6 h6
  refine pw_letB ?_; intro S7 h7
  refine pw_letB ?_; intro S8 h8
  refine pw_letB ?_; intro S9 h9
  refine pw_letB ?_; intro S10 h10
  refine pw_letB ?_; intro S11 h11
  refine pw_letB ?_; intro S12 h12
  refine pw_letB ?_; intro S13 h13
  refine pw_letB ?_; intro S14 h14
  refine pw_letB ?_; intro S15 h15
  refine pw_letB ?_; intro S16 h16
  refine pw_letB ?_; intro S17 h17
  refine pw_letB ?_; intro S18 h18
  refine pw_letB ?_; intro S19 h19
  refine pw_letB ?_; intro S20 h20
  have hz : ∀ k, k ∈ sb_zs → S20.1 k = 0 := by
    intro k hk
    rw [h20, h19, h18, h17, h16, h15, h14, h13, h12, h11, h10, h9, h8, h7, h6, h5]
    simp only [md_i1]
    simp only [sb_zs, List.mem_cons, List.mem_nil_iff, or_false] at hk
    rcases hk with rfl | rfl | rfl | rfl | rfl | rfl | rfl | rfl | rfl | rfl | rfl | rfl | rfl | rfl | rfl | rfl <;> rfl
  clear h20 h19 h18 h17 h16 h15 h14 h13 h12 h11 h10 h9 h8 h7 h6 h5
  unfold mm_forget_L82
  refine pw_loop (fun x => ∀ k, k ∈ sb_zs → x.1.1 k = 0) (fun z => ∀ k, k ∈ sb_zs → z.1 k = 0) hz ?_ ?_
  · rintro ⟨S1, x1⟩ h
    unfold mm_forget_s82 mm_forget_b82
    refine pw_ifB (fun _ => ?_) (fun _ => pw_some h)
    refine pw_any (fun j => ?_)
    refine pw_letB ?_; rintro _ rfl
    exact pw_some h
  · intro S1 h
    unfold mm_forget_L102 mm_forget_L104
    refine pw_loop (fun x => ∀ k, k ∈ sb_zs → x.1.1 k = 0) (fun z => ∀ k, k ∈ sb_zs → z.1 k = 0) h ?_ (fun z h => pw_some h)
    rintro ⟨S1, x1⟩ h
    unfold mm_forget_s104 mm_forget_b104
    refine pw_ifB (fun _ => ?_) (fun _ => pw_some h)
    refine pw_any (fun j => ?_)
    refine pw_letB ?_; rintro _ rfl
    exact pw_some h
/-- places of locals -/
def sb_li (kd wt : Nat → Int32) : Nat → Int
  | 0 => 0
  | n + 1 => sb_li kd wt n + if kd n = 10 then (wt n).toInt + 1 else 0
theorem sb_li_le {kd wt : Nat → Int32} {N : Nat} (h : ∀ j : Nat, j < N → 1 ≤ (wt j).toInt) : ∀ {n : Nat}, n ≤ N → 0 ≤ sb_li kd wt n ∧ sb_li kd wt n ≤ sb_ws wt n + (sb_cl kd n : Int) ∧ (n : Int) ≤ sb_ws wt n := by
  intro n
  induction n with
  | zero => intro _; exact ⟨Int.le_refl _, Int.le_refl _, Int.le_refl _⟩
  | succ n ih =>
    intro hn
    obtain ⟨i1, i2, i3⟩ := ih (by omega)
    have := h n (by omega)
    unfold sb_li sb_ws sb_cl
    split
    · refine ⟨by omega, ?_, by omega⟩
      show sb_li kd wt n + ((wt n).toInt + 1) ≤ sb_ws wt n + (wt n).toInt + ((sb_cl kd n + 1 : Nat) : Int)
      omega
    · refine ⟨by omega, ?_, by omega⟩
      show sb_li kd wt n + 0 ≤ sb_ws wt n + (wt n).toInt + ((sb_cl kd n + 0 : Nat) : Int)
      omega
theorem sb_li_mono {kd wt : Nat → Int32} {N : Nat} (h : ∀ j : Nat, j < N → 1 ≤ (wt j).toInt) : ∀ {n k : Nat}, n + k ≤ N → sb_li kd wt n ≤ sb_li kd wt (n + k) ∧ sb_ws wt n ≤ sb_ws wt (n + k) ∧ sb_cl kd n ≤ sb_cl kd (n + k) := by
  intro n k
  induction k with
  | zero => intro _; exact ⟨Int.le_refl _, Int.le_refl _, Nat.le_refl _⟩
  | succ k ih =>
    intro hn
    obtain ⟨i1, i2, i3⟩ := ih (by omega)
    have := h (n + k) (by omega)
    have e1 : sb_li kd wt (n + (k + 1)) = sb_li kd wt (n + k) + if kd (n + k) = 10 then (wt (n + k)).toInt + 1 else 0 := rfl
    have e2 : sb_ws wt (n + (k + 1)) = sb_ws wt (n + k) + (wt (n + k)).toInt := rfl
    have e3 : sb_cl kd (n + (k + 1)) = sb_cl kd (n + k) + if kd (n + k) = 10 then 1 else 0 := rfl
    rw [e1, e2, e3]
    split <;> exact ⟨by omega, by omega, by omega⟩
theorem li_step {x : Int32} {a b : Int} (h0 : x.toInt = 62 + a) (h1 : 0 ≤ a) (h2 : a ≤ 2000) {y : Int32} (h3 : 1 ≤ y.toInt) (h4 : y.toInt ≤ 2000) : (x + (y + 1)).toInt = 62 + (a + (y.toInt + 1)) := by
  have e : (y + 1).toInt = y.toInt + 1 := by rw [a_add, il_1]; omega
  rw [a_add, e, h0]; omega
theorem ix31 {x y : Int32} (h0 : 0 ≤ x.toInt) (h1 : x.toInt < 400) (h2 : 0 ≤ y.toInt) (h3 : y.toInt < 31) : 0 ≤ (31 * x + y).toInt ∧ (31 * x + y).toInt < 12400 := by
  have e : (31 * x).toInt = 31 * x.toInt := by rw [a_mul, il_31]; omega
  have hz : 0 ≤ 31 * x.toInt + y.toInt ∧ 31 * x.toInt + y.toInt < 12400 := by omega
  rw [a_add, e]
  generalize 31 * x.toInt + y.toInt = z at hz
  omega
theorem ixsum {x y : Int32} (h0 : 0 ≤ x.toInt) (h2 : 0 ≤ y.toInt) (h1 : x.toInt + y.toInt < 32768) : 0 ≤ (x + y).toInt ∧ (x + y).toInt < 32768 := by
  rw [a_add]; omega
theorem inc_ms {x : Int} {n : Int} (h0 : 0 ≤ x) (h : x < n) : (n - (x + 1)).toNat < (n - x).toNat := by omega
theorem mm_settle_l {S : md_S} (h15 : 0 ≤ (S.1 15).toInt ∧ (S.1 15).toInt ≤ 400) (hnm : ∀ i : Nat, (i : Int) < (S.1 15).toInt → 0 ≤ (S.2.1 21 i).toInt ∧ 0 ≤ (S.2.1 22 i).toInt ∧ (S.2.1 22 i).toInt ≤ 31 ∧ (S.2.1 21 i).toInt + (S.2.1 22 i).toInt ≤ 32768)
    (hN : 0 ≤ (S.1 42).toInt ∧ (S.1 42).toInt ≤ 1200) (hw : ∀ j : Nat, (j : Int) < (S.1 42).toInt → 1 ≤ (S.2.1 57 j).toInt ∧ (S.2.1 57 j).toInt ≤ (j : Int) + 1) (hli : sb_ws (S.2.1 57) (S.1 42).toInt.toNat ≤ 1200) (hcl : (sb_cl (S.2.1 51) (S.1 42).toInt.toNat : Int) ≤ 400) :
    dc_wp (mm_settle S) (fun q => md_fr [41, 44, 45, 46, 50, 77, 82] [54, 61, 68, 69] false false S q ∧ (q.1 41 = 1 ∧ q.1 82 = 1 ∧ q.1 77 = 1 ∧ q.1 44 = S.1 15 ∧ q.1 45 = S.1 16 ∧ q.1 46 = S.1 17) ∧ (62 ≤ (q.1 50).toInt ∧ (q.1 50).toInt ≤ 1662) ∧ (∀ j : Nat, ¬ S.2.1 51 j = 8 → q.2.1 54 j = S.2.1 54 j) ∧ (∀ j : Nat, (j : Int) < (S.1 42).toInt → S.2.1 51 j = 10 → 62 ≤ (q.2.1 61 j).toInt ∧ (q.2.1 61 j).toInt + (S.2.1 57 j).toInt < (q.1 50).toInt) ∧ ∀ i : Nat, (i : Int) < (S.1 15).toInt → (q.2.1 69 i).toInt ≤ 31) := by
  unfold mm_settle
  refine dc_letB ?_; intro S17 h17
  refine dc_letB ?_; intro S18 h18
  refine dc_letB ?_; intro S19 h19
  refine dc_letB ?_; intro S20 h20
  refine dc_letB ?_; intro S21 h21
  refine dc_letB ?_; intro S22 h22
  refine dc_letB ?_; intro S23 h23
  have f : md_fr [41, 44, 45, 46, 50, 77, 82] [] false false S S23 := by
    refine ⟨fun k hk => ?_, fun k _ => by rw [h23, h22, h21, h20, h19, h18, h17]; rfl, fun _ => by rw [h23, h22, h21, h20, h19, h18, h17]; rfl, fun _ => by rw [h23, h22, h21, h20, h19, h18, h17]; rfl⟩
    simp only [List.mem_cons, List.mem_nil_iff, or_false, not_or] at hk
    obtain ⟨k1, k2, k3, k4, k5, k6, k7⟩ := hk
    rw [h23, h22, h21, h20, h19, h18, h17, md_i1, if_neg k5, md_i1, if_neg k4, md_i1, if_neg k3, md_i1, if_neg k2, md_i1, if_neg k6, md_i1, if_neg k7, md_i1, if_neg k1]
  have v : S23.1 41 = 1 ∧ S23.1 82 = 1 ∧ S23.1 77 = 1 ∧ S23.1 44 = S.1 15 ∧ S23.1 45 = S.1 16 ∧ S23.1 46 = S.1 17 ∧ S23.1 50 = 62 := by
    rw [h23, h22, h21, h20, h19, h18, h17]; exact ⟨rfl, rfl, rfl, rfl, rfl, rfl, rfl⟩
  clear h23 h22 h21 h20 h19 h18 h17
  unfold mm_settle_L47
  refine dc_loopI (fun z => md_fr [] [68, 69] false false S23 z.1 ∧ (0 ≤ z.2.toInt ∧ z.2.toInt ≤ (S.1 15).toInt) ∧ ∀ i : Nat, (i : Int) < z.2.toInt → (z.1.2.1 69 i).toInt ≤ 31) (fun z => ((S.1 15).toInt - z.2.toInt).toNat) ⟨md_fr_rf, ⟨by show 0 ≤ (0 : Int32).toInt; decide, by show (0 : Int32).toInt ≤ _; rw [il_0]; exact h15.1⟩, fun i hi => ?_⟩ ?_
  · replace hi : (i : Int) < (0 : Int32).toInt := hi; rw [il_0] at hi; omega
  rintro ⟨S1, x1⟩ ⟨g1, g2, g3⟩
  replace g2 : 0 ≤ x1.toInt ∧ x1.toInt ≤ (S.1 15).toInt := g2
  replace g3 : ∀ i : Nat, (i : Int) < x1.toInt → (S1.2.1 69 i).toInt ≤ 31 := g3
  replace g1 : md_fr [] [68, 69] false false S23 S1 := g1
  unfold mm_settle_s47 mm_settle_b47
  have e44 : S1.1 44 = S.1 15 := (g1.1 44 (by decide)).trans v.2.2.2.1
  rw [e44]
  refine dc_ifI (fun hlt => ?_) (fun hge => ?_)
  · replace hlt : x1.toInt < (S.1 15).toInt := i_lt.mp hlt
    refine dc_ixT g2.1 (by show x1.toInt < 16400; omega) ?_
    refine dc_ixT g2.1 (by show x1.toInt < 400; omega) ?_
    refine dc_letB ?_; intro S16 h16
    have f16 : md_fr [] [68, 69] false false S23 S16 := by
      refine ⟨fun k hk => by rw [h16]; exact g1.1 k hk, fun k hk => ?_, fun _ => by rw [h16]; exact g1.2.2.1 rfl, fun _ => by rw [h16]; exact g1.2.2.2 rfl⟩
      rw [h16, md_a2, if_neg (fun h => hk (by rw [h]; decide))]; exact g1.2.1 k hk
    have c69 : S16.2.1 69 = upd (S1.2.1 69) x1.toInt.toNat (S.2.1 22 x1.toInt.toNat) := by
      rw [h16]; show upd (S1.2.1 69) _ (S1.2.1 22 _) = _
      rw [g1.2.1 22 (by decide), f.2.1 22 (by decide)]
    clear h16
    obtain ⟨n1, n2, n3, n4⟩ := hnm x1.toInt.toNat (by omega)
    unfold mm_settle_L69
    refine dc_loopI (fun z => md_fr [] [68, 69] false false S23 z.1 ∧ z.1.2.1 69 = S16.2.1 69 ∧ (0 ≤ z.2.toInt ∧ z.2.toInt ≤ (S.2.1 22 x1.toInt.toNat).toInt)) (fun z => ((S.2.1 22 x1.toInt.toNat).toInt - z.2.toInt).toNat) ⟨f16, rfl, by show 0 ≤ (0 : Int32).toInt; decide, by show (0 : Int32).toInt ≤ _; rw [il_0]; exact n2⟩ ?_
    rintro ⟨S2, x2⟩ ⟨k1, k2, k3⟩
    replace k1 : md_fr [] [68, 69] false false S23 S2 := k1
    replace k3 : 0 ≤ x2.toInt ∧ x2.toInt ≤ (S.2.1 22 x1.toInt.toNat).toInt := k3
    have e22 : S2.2.1 22 = S.2.1 22 := (k1.2.1 22 (by decide)).trans (f.2.1 22 (by decide))
    have e21 : S2.2.1 21 = S.2.1 21 := (k1.2.1 21 (by decide)).trans (f.2.1 21 (by decide))
    unfold mm_settle_s69 mm_settle_b69
    refine dc_ixT g2.1 (by show x1.toInt < 16400; omega) ?_
    rw [e22]
    refine dc_ifI (fun hx => ?_) (fun hx => ?_)
    · have hx' : x2.toInt < (S.2.1 22 x1.toInt.toNat).toInt := i_lt.mp hx
      refine dc_ixT g2.1 (by show x1.toInt < 16400; omega) ?_
      rw [e21]
      have q1 := ixsum n1 k3.1 (by omega)
      have q2 := ix31 g2.1 (by omega) k3.1 (by omega)
      refine dc_ixT q1.1 q1.2 ?_
      refine dc_ixT q2.1 q2.2 ?_
      refine dc_letB ?_; intro S13 h13
      have e : (x2 + 1).toInt = x2.toInt + 1 := ar1 k3.1 (by omega)
      refine dc_ret ⟨⟨⟨fun k hk => by rw [h13]; exact k1.1 k hk, fun k hk => ?_, fun _ => by rw [h13]; exact k1.2.2.1 rfl, fun _ => by rw [h13]; exact k1.2.2.2 rfl⟩, by rw [h13]; exact k2, by show 0 ≤ (x2 + 1).toInt; omega, by show (x2 + 1).toInt ≤ _; omega⟩, ?_⟩
      · rw [h13, md_a2, if_neg (fun h => hk (by rw [h]; decide))]; exact k1.2.1 k hk
      · show ((S.2.1 22 x1.toInt.toNat).toInt - (x2 + 1).toInt).toNat < ((S.2.1 22 x1.toInt.toNat).toInt - x2.toInt).toNat
        rw [e]; exact inc_ms k3.1 hx'
    · refine dc_ret ?_
      show dc_wp (mm_settle_L109 S2 x1) _
      unfold mm_settle_L109
      have e : (x1 + 1).toInt = x1.toInt + 1 := ar1 g2.1 (by omega)
      refine dc_ret ⟨⟨k1, ⟨by show 0 ≤ (x1 + 1).toInt; omega, by show (x1 + 1).toInt ≤ _; omega⟩, fun i hi => ?_⟩, ?_⟩
      · replace hi : (i : Int) < (x1 + 1).toInt := hi
        show (S2.2.1 69 i).toInt ≤ 31
        have k2' : S2.2.1 69 = S16.2.1 69 := k2
        rw [k2', c69]
        by_cases hz : i = x1.toInt.toNat
        · rw [sb_ue _ _ hz]; exact n3
        · rw [sb_dn _ _ hz]; exact g3 i (by omega)
      · show ((S.1 15).toInt - (x1 + 1).toInt).toNat < ((S.1 15).toInt - x1.toInt).toNat
        rw [e]; exact inc_ms g2.1 hlt
  · have hge' : ¬ x1.toInt < (S.1 15).toInt := fun h => hge (i_lt.mpr h)
    have hx1 : x1.toInt = (S.1 15).toInt := by omega
    rw [hx1] at g3
    refine dc_ret ?_
    show dc_wp (mm_settle_L115 S1) _
    unfold mm_settle_L115 mm_settle_L117
    have fS : ∀ k, ¬ k = 68 → ¬ k = 69 → S1.2.1 k = S.2.1 k := fun k a b => (g1.2.1 k (by simp only [List.mem_cons, List.mem_nil_iff, or_false, not_or]; exact ⟨a, b⟩)).trans (f.2.1 k (by simp))
    have e42 : S1.1 42 = S.1 42 := (g1.1 42 (by decide)).trans (f.1 42 (by decide))
    have hw1 : ∀ j : Nat, j < (S.1 42).toInt.toNat → 1 ≤ (S.2.1 57 j).toInt := fun j hj => (hw j (by omega)).1
    refine dc_loopI (fun z => md_fr [50] [54, 61] false false S1 z.1 ∧ (0 ≤ z.2.toInt ∧ z.2.toInt ≤ (S.1 42).toInt) ∧ (z.1.1 50).toInt = 62 + sb_li (S.2.1 51) (S.2.1 57) z.2.toInt.toNat ∧ (∀ j : Nat, ¬ S.2.1 51 j = 8 → z.1.2.1 54 j = S.2.1 54 j) ∧ ∀ j : Nat, (j : Int) < z.2.toInt → S.2.1 51 j = 10 → 62 ≤ (z.1.2.1 61 j).toInt ∧ (z.1.2.1 61 j).toInt + (S.2.1 57 j).toInt < (z.1.1 50).toInt) (fun z => ((S.1 42).toInt - z.2.toInt).toNat) ⟨md_fr_rf, ⟨by show 0 ≤ (0 : Int32).toInt; decide, by show (0 : Int32).toInt ≤ _; rw [il_0]; exact hN.1⟩, ?_, fun j _ => by show S1.2.1 54 j = _; rw [fS 54 (by decide) (by decide)], fun j hj => ?_⟩ ?_
    · show (S1.1 50).toInt = _
      rw [g1.1 50 (by decide), v.2.2.2.2.2.2]; rfl
    · replace hj : (j : Int) < (0 : Int32).toInt := hj; rw [il_0] at hj; omega
    rintro ⟨S2, x2⟩ ⟨k1, k2, k3, k4, k5⟩
    replace k1 : md_fr [50] [54, 61] false false S1 S2 := k1
    replace k2 : 0 ≤ x2.toInt ∧ x2.toInt ≤ (S.1 42).toInt := k2
    replace k3 : (S2.1 50).toInt = 62 + sb_li (S.2.1 51) (S.2.1 57) x2.toInt.toNat := k3
    replace k4 : ∀ j : Nat, ¬ S.2.1 51 j = 8 → S2.2.1 54 j = S.2.1 54 j := k4
    replace k5 : ∀ j : Nat, (j : Int) < x2.toInt → S.2.1 51 j = 10 → 62 ≤ (S2.2.1 61 j).toInt ∧ (S2.2.1 61 j).toInt + (S.2.1 57 j).toInt < (S2.1 50).toInt := k5
    have e51 : S2.2.1 51 = S.2.1 51 := (k1.2.1 51 (by decide)).trans (fS 51 (by decide) (by decide))
    have e57 : S2.2.1 57 = S.2.1 57 := (k1.2.1 57 (by decide)).trans (fS 57 (by decide) (by decide))
    unfold mm_settle_s117 mm_settle_b117
    rw [k1.1 42 (by decide), e42]
    refine dc_ifI (fun hlt => ?_) (fun hge => ?_)
    · have hlt : x2.toInt < (S.1 42).toInt := i_lt.mp hlt
      have e : (x2 + 1).toInt = x2.toInt + 1 := ar1 k2.1 (by omega)
      have en : (x2 + 1).toInt.toNat = x2.toInt.toNat + 1 := by rw [e]; exact nat_up k2.1
      have hwx := hw x2.toInt.toNat (by omega)
      obtain ⟨b1, b2, b3⟩ := sb_li_le (kd := S.2.1 51) hw1 (n := x2.toInt.toNat) (by omega)
      obtain ⟨b4, b5, b6⟩ := sb_li_mono (kd := S.2.1 51) hw1 (n := x2.toInt.toNat) (k := (S.1 42).toInt.toNat - x2.toInt.toNat) (by omega)
      rw [show x2.toInt.toNat + ((S.1 42).toInt.toNat - x2.toInt.toNat) = (S.1 42).toInt.toNat by omega] at b4 b5 b6
      have L143 : ∀ S3 : md_S, md_fr [] [54] false false S2 S3 → (∀ j : Nat, ¬ S.2.1 51 j = 8 → S3.2.1 54 j = S.2.1 54 j) → dc_wp (mm_settle_L143 S3 x2) (Sum.elim (fun y => (md_fr [50] [54, 61] false false S1 y.1 ∧ (0 ≤ y.2.toInt ∧ y.2.toInt ≤ (S.1 42).toInt) ∧ (y.1.1 50).toInt = 62 + sb_li (S.2.1 51) (S.2.1 57) y.2.toInt.toNat ∧ (∀ j : Nat, ¬ S.2.1 51 j = 8 → y.1.2.1 54 j = S.2.1 54 j) ∧ ∀ j : Nat, (j : Int) < y.2.toInt → S.2.1 51 j = 10 → 62 ≤ (y.1.2.1 61 j).toInt ∧ (y.1.2.1 61 j).toInt + (S.2.1 57 j).toInt < (y.1.1 50).toInt) ∧ ((S.1 42).toInt - y.2.toInt).toNat < ((S.1 42).toInt - x2.toInt).toNat) (fun z => dc_wp (mm_settle_L190 z) (fun q => md_fr [41, 44, 45, 46, 50, 77, 82] [54, 61, 68, 69] false false S q ∧ (q.1 41 = 1 ∧ q.1 82 = 1 ∧ q.1 77 = 1 ∧ q.1 44 = S.1 15 ∧ q.1 45 = S.1 16 ∧ q.1 46 = S.1 17) ∧ (62 ≤ (q.1 50).toInt ∧ (q.1 50).toInt ≤ 1662) ∧ (∀ j : Nat, ¬ S.2.1 51 j = 8 → q.2.1 54 j = S.2.1 54 j) ∧ (∀ j : Nat, (j : Int) < (S.1 42).toInt → S.2.1 51 j = 10 → 62 ≤ (q.2.1 61 j).toInt ∧ (q.2.1 61 j).toInt + (S.2.1 57 j).toInt < (q.1 50).toInt) ∧ ∀ i : Nat, (i : Int) < (S.1 15).toInt → (q.2.1 69 i).toInt ≤ 31))) := by
        intro S3 f3 d54
        have m1 : md_fr [50] [54, 61] false false S1 S3 := md_fr_tr k1 f3 (by decide)
        unfold mm_settle_L143
        refine dc_ixT k2.1 (by show x2.toInt < 1200; omega) ?_
        rw [f3.2.1 51 (by decide), e51]
        refine dc_ifI (fun h10 => ?_) (fun h10 => ?_)
        · refine dc_ixT k2.1 (by show x2.toInt < 1200; omega) ?_
          refine dc_letB ?_; intro S4 h4
          refine dc_ixT k2.1 (by show x2.toInt < 1200; omega) ?_
          refine dc_letB ?_; intro S5 h5
          have c50 : (S5.1 50).toInt = 62 + (sb_li (S.2.1 51) (S.2.1 57) x2.toInt.toNat + ((S.2.1 57 x2.toInt.toNat).toInt + 1)) := by
            rw [h5, h4]
            show (S3.1 50 + (S3.2.1 57 x2.toInt.toNat + 1)).toInt = _
            rw [f3.1 50 (by decide), f3.2.1 57 (by decide), e57]
            exact li_step (b := 0) k3 b1 (by omega) hwx.1 (by omega)
          have c61 : S5.2.1 61 = upd (S2.2.1 61) x2.toInt.toNat (S2.1 50) := by
            rw [h5, h4]; show upd (S3.2.1 61) _ (S3.1 50) = _
            rw [f3.2.1 61 (by decide), f3.1 50 (by decide)]
          have c54 : S5.2.1 54 = S3.2.1 54 := by rw [h5, h4]; rfl
          have f5 : md_fr [50] [54, 61] false false S1 S5 := by
            refine ⟨fun k hk => ?_, fun k hk => ?_, fun _ => by rw [h5, h4]; exact m1.2.2.1 rfl, fun _ => by rw [h5, h4]; exact m1.2.2.2 rfl⟩
            · rw [h5, h4, md_i1, if_neg (fun h => hk (by rw [h]; decide))]; exact m1.1 k hk
            · rw [h5, h4]; show (md_a S3 61 _ _).2.1 k = _
              rw [md_a2, if_neg (fun h => hk (by rw [h]; decide))]; exact m1.2.1 k hk
          clear h5 h4
          unfold mm_settle_L184
          refine dc_ret ⟨⟨f5, ⟨by show 0 ≤ (x2 + 1).toInt; omega, by show (x2 + 1).toInt ≤ _; omega⟩, ?_, fun j hj => by show S5.2.1 54 j = _; rw [c54]; exact d54 j hj, fun j hj h => ?_⟩, ?_⟩
          · show (S5.1 50).toInt = 62 + sb_li _ _ (x2 + 1).toInt.toNat
            rw [c50, en, show sb_li (S.2.1 51) (S.2.1 57) (x2.toInt.toNat + 1) = sb_li (S.2.1 51) (S.2.1 57) x2.toInt.toNat + (if S.2.1 51 x2.toInt.toNat = 10 then (S.2.1 57 x2.toInt.toNat).toInt + 1 else 0) from rfl, if_pos h10]
          · replace hj : (j : Int) < (x2 + 1).toInt := hj
            show 62 ≤ (S5.2.1 61 j).toInt ∧ (S5.2.1 61 j).toInt + _ < (S5.1 50).toInt
            rw [c61, c50]
            by_cases hz : j = x2.toInt.toNat
            · rw [sb_ue _ _ hz, hz, k3]; omega
            · rw [sb_dn _ _ hz]
              have := k5 j (by omega) h
              omega
          · show ((S.1 42).toInt - (x2 + 1).toInt).toNat < _
            rw [e]; exact inc_ms k2.1 hlt
        · unfold mm_settle_L184
          refine dc_ret ⟨⟨m1, ⟨by show 0 ≤ (x2 + 1).toInt; omega, by show (x2 + 1).toInt ≤ _; omega⟩, ?_, d54, fun j hj h => ?_⟩, ?_⟩
          · show (S3.1 50).toInt = 62 + sb_li _ _ (x2 + 1).toInt.toNat
            rw [f3.1 50 (by decide), k3, en, show sb_li (S.2.1 51) (S.2.1 57) (x2.toInt.toNat + 1) = sb_li (S.2.1 51) (S.2.1 57) x2.toInt.toNat + (if S.2.1 51 x2.toInt.toNat = 10 then (S.2.1 57 x2.toInt.toNat).toInt + 1 else 0) from rfl, if_neg h10]; omega
          · replace hj : (j : Int) < (x2 + 1).toInt := hj
            show 62 ≤ (S3.2.1 61 j).toInt ∧ (S3.2.1 61 j).toInt + _ < (S3.1 50).toInt
            rw [f3.2.1 61 (by decide), f3.1 50 (by decide)]
            have hz : ¬ j = x2.toInt.toNat := fun hz => h10 (by rw [← hz]; exact h)
            exact k5 j (by omega) h
          · show ((S.1 42).toInt - (x2 + 1).toInt).toNat < _
            rw [e]; exact inc_ms k2.1 hlt
      refine dc_ixT k2.1 (by show x2.toInt < 1200; omega) ?_
      rw [e51]
      refine dc_ifI (fun h8 => ?_) (fun _ => L143 S2 md_fr_rf k4)
      refine dc_ixT k2.1 (by show x2.toInt < 1200; omega) ?_
      refine dc_letB ?_; intro S8 hS8
      refine L143 S8 ⟨fun k _ => by rw [hS8]; rfl, fun k hk => ?_, fun _ => by rw [hS8]; rfl, fun _ => by rw [hS8]; rfl⟩ (fun j hj => ?_)
      · rw [hS8, md_a2]; exact if_neg (fun h => hk (by rw [h]; decide))
      · have hz : ¬ j = x2.toInt.toNat := fun hz => hj (by rw [hz]; exact h8)
        rw [hS8]; show upd (S2.2.1 54) _ _ j = _
        rw [sb_dn _ _ hz]; exact k4 j hj
    · have hge' : ¬ x2.toInt < (S.1 42).toInt := fun h => hge (i_lt.mpr h)
      have hx2 : x2.toInt = (S.1 42).toInt := by omega
      refine dc_ret ?_
      show dc_wp (mm_settle_L190 S2) _
      obtain ⟨b1, b2, b3⟩ := sb_li_le (kd := S.2.1 51) hw1 (n := (S.1 42).toInt.toNat) (Nat.le_refl _)
      rw [hx2] at k3 k5
      refine dc_ret ⟨md_fr_tr (md_fr_tr (md_fr_tr (wi := [41, 44, 45, 46, 50, 77, 82]) (wa := [54, 61, 68, 69]) (bw := false) (bt := false) md_fr_rf f (by decide)) g1 (by decide)) k1 (by decide), ?_, ⟨by omega, by omega⟩, k4, k5, fun i hi => ?_⟩
      · have eq : ∀ k, ¬ k = 50 → S2.1 k = S23.1 k := fun k hk => (k1.1 k (by simp only [List.mem_cons, List.mem_nil_iff, or_false]; exact hk)).trans (g1.1 k (by simp))
        rw [eq 41 (by decide), eq 82 (by decide), eq 77 (by decide), eq 44 (by decide), eq 45 (by decide), eq 46 (by decide)]
        exact ⟨v.1, v.2.1, v.2.2.1, v.2.2.2.1, v.2.2.2.2.1, v.2.2.2.2.2.1⟩
      · rw [k1.2.1 69 (by decide)]; exact g3 i hi
