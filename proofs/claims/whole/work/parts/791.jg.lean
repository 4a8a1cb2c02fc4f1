def sb_E (S q : md_S) : Prop := (∀ k, k ∈ [10, 11, 12, 15, 18, 19, 27, 28] → q.1 k = S.1 k) ∧ (∀ k, k ∈ [23, 26, 30, 31, 32, 33, 35, 36, 37, 38] → q.2.1 k = S.2.1 k)
theorem sb_E_fr {wi wa : List Nat} {bw bt : Bool} {S q : md_S} (h : md_fr wi wa bw bt S q) (h1 : wi.all (fun k => !([10, 11, 12, 15, 18, 19, 27, 28] : List Nat).contains k) = true) (h2 : wa.all (fun k => !([23, 26, 30, 31, 32, 33, 35, 36, 37, 38] : List Nat).contains k) = true) : sb_E S q := by
  simp only [List.all_eq_true, Bool.not_eq_true', ← Bool.not_eq_true, List.contains_iff_mem] at h1 h2
  exact ⟨fun k hk => h.1 k (fun hw => h1 k hw hk), fun k hk => h.2.1 k (fun hw => h2 k hw hk)⟩
theorem sb_E_i {S : md_S} {k : Nat} {v : Int32} (h : ([10, 11, 12, 15, 18, 19, 27, 28] : List Nat).contains k = false) : sb_E S (md_i S k v) := by
  refine ⟨fun j hj => ?_, fun j hj => rfl⟩
  rw [md_i1]
  refine if_neg ?_
  rintro rfl
  rw [List.contains_iff_mem.mpr hj] at h; cases h
theorem sb_E_tr {S q r : md_S} (h : sb_E S q) (k : sb_E q r) : sb_E S r := ⟨fun j hj => (k.1 j hj).trans (h.1 j hj), fun j hj => (k.2 j hj).trans (h.2 j hj)⟩
theorem sb_E_J {S q : md_S} (h : sb_E S q) (j : sb_J S) : sb_J q := by
  unfold sb_J
  rw [h.1 10 (by decide), h.1 11 (by decide), h.1 15 (by decide), h.1 18 (by decide), h.1 19 (by decide), h.1 27 (by decide), h.1 28 (by decide), h.2 23 (by decide)]
  exact j
theorem sb_E_G {S q : md_S} (h : sb_E S q) : sb_G S q := by
  unfold sb_G sb_G1 sb_G2
  rw [h.1 10 (by decide), h.1 12 (by decide), h.1 15 (by decide), h.1 18 (by decide), h.1 19 (by decide), h.1 27 (by decide), h.1 28 (by decide), h.2 23 (by decide), h.2 26 (by decide), h.2 30 (by decide), h.2 31 (by decide), h.2 32 (by decide), h.2 33 (by decide), h.2 35 (by decide), h.2 36 (by decide), h.2 37 (by decide), h.2 38 (by decide)]
  exact sb_G_rf (S := S)
theorem jg_advance (S : md_S) : dc_pw (mm_advance S) (fun q => sb_E S q) := pw_mono (mm_advance_fr S) (fun q h => sb_E_fr h rfl rfl)
theorem jg_meetsWord (S : md_S) (w : Int64) : dc_pw (mm_meetsWord S w) (fun q => sb_E S q.1) := pw_mono (mm_meetsWord_fr S w) (fun q h => sb_E_fr h rfl rfl)
theorem jg_meetsSign (S : md_S) (c : Int32) : dc_pw (mm_meetsSign S c) (fun q => sb_E S q.1) := pw_mono (mm_meetsSign_fr S c) (fun q h => sb_E_fr h rfl rfl)
theorem sb_G_10 {S : md_S} {v : Int32} (h : S.1 10 = 0) : sb_G S (md_i S 10 v) := by
  obtain ⟨⟨a, b, c, d, e, f⟩, g⟩ := sb_G_rf (S := S)
  exact ⟨⟨a, b, c, d, e, fun _ => h⟩, g⟩
theorem sb_J_10 {S : md_S} {v : Int32} (j : sb_J S) (hv : ¬ v = 0) : sb_J (md_i S 10 v) :=
  ⟨j.1, j.2.1, j.2.2.1, j.2.2.2.1, j.2.2.2.2.1, fun h => absurd h hv⟩
theorem fail_ne {p w : Int32} (h : p = 1 ∨ p = 2 ∨ p = 3 ∨ p = 5) : ¬ p + 8 * w = 0 := by
  intro e
  have e2 := i_eq.mp e
  rw [a_add, a_mul, il_8, il_0] at e2
  rcases h with rfl | rfl | rfl | rfl
  · rw [il_1] at e2; omega
  · rw [il_2] at e2; omega
  · rw [il_3] at e2; omega
  · rw [il_5] at e2; omega
theorem jg_fail {S : md_S} {p w : Int32} (j : sb_J S) (h : p = 1 ∨ p = 2 ∨ p = 3 ∨ p = 5) : dc_pw (mm_fail S p w) (fun q => sb_J q ∧ sb_G S q ∧ ¬ q.1 10 = 0 ∧ q.1 11 = S.1 11) := by
  unfold mm_fail
  refine pw_ifB (fun h0 => ?_) (fun h0 => ?_)
  · exact pw_some ⟨sb_J_10 j (fail_ne h), sb_G_10 h0, fail_ne h, rfl⟩
  · exact pw_some ⟨j, sb_G_rf, h0, rfl⟩
theorem jg_mustWord {S : md_S} (w : Int64) (j : sb_J S) : dc_pw (mm_mustWord S w) (fun q => sb_J q ∧ sb_G S q ∧ q.1 11 = S.1 11) := by
  unfold mm_mustWord
  refine pw_bind (jg_meetsWord S w) (fun q1 e => ?_)
  refine pw_ifB (fun h0 => ?_) (fun h0 => ?_)
  · refine pw_bind (jg_fail (sb_E_J e j) (.inl rfl)) (fun q2 h => ?_)
    exact pw_some ⟨h.1, sb_G_tr (sb_E_G e) h.2.1, h.2.2.2.trans (e.1 11 (by decide))⟩
  · exact pw_some ⟨sb_E_J e j, sb_E_G e, e.1 11 (by decide)⟩
theorem sb_G_11 {S : md_S} {v : Int32} : sb_G S (md_i S 11 v) := sb_G_rf (S := S)
theorem jg_deeper {S : md_S} (j : sb_J S) : dc_pw (mm_deeper S) (fun q => sb_J q ∧ sb_G S q ∧ q.1 11 = S.1 11 + 1 ∧ (q.1 10 = 0 → (S.1 11).toInt ≤ 23)) := by
  unfold mm_deeper
  refine pw_ifB (fun h0 => ?_) (fun h0 => ?_)
  · refine pw_bind (jg_fail j (.inr (.inr (.inr rfl)))) (fun q h => ?_)
    refine pw_some ⟨⟨h.1.1, h.1.2.1, h.1.2.2.1, h.1.2.2.2.1, h.1.2.2.2.2.1, fun h2 => absurd h2 h.2.2.1⟩, sb_G_tr h.2.1 sb_G_11, ?_, fun h2 => absurd h2 h.2.2.1⟩
    show q.1 11 + 1 = _
    rw [h.2.2.2]
  · have hx : S.1 10 = 0 → (S.1 11).toInt ≤ 23 := fun h2 => by
      have a := j.2.2.2.2.2 h2
      have b : ¬ (S.1 11).toInt = 24 := fun e => h0 (i_eq.mpr (e.trans il_24.symm))
      omega
    refine pw_some ⟨⟨j.1, j.2.1, j.2.2.1, j.2.2.2.1, j.2.2.2.2.1, fun h2 => ?_⟩, sb_G_11, rfl, hx⟩
    have a := hx h2
    show (S.1 11 + 1).toInt ≤ 24
    rw [a_add, il_1]
    have := i_lo (S.1 11)
    omega
theorem jg_signal {S : md_S} (p : Int32) (j : sb_J S) : dc_pw (mm_signal S p) (fun q => q = -1 ∨ (0 ≤ q.toInt ∧ q.toInt < (S.1 15).toInt)) := by
  unfold mm_signal
  refine pw_letB (fun v hv => ?_)
  unfold mm_signal_L7
  have hs := j.2.2.2.2.1.1
  refine pw_loop (fun x => x.toInt < (S.1 18).toInt) (Sum.elim (fun z => 0 ≤ z.toInt ∧ z.toInt < (S.1 15).toInt) (fun _ => True)) ?_ ?_ ?_
  · rw [hv, a_sub, il_1]; omega
  · intro x hx
    unfold mm_signal_s7 mm_signal_b7
    refine pw_ifB (fun _ => pw_some trivial) (fun _ => ?_)
    refine pw_ixB 16400 rfl (fun j1 hj1 ha hb => ?_)
    have a := i_le.mp ha
    rw [il_0] at a
    refine pw_letB (fun v2 hv2 => ?_)
    refine pw_any (fun j3 => pw_any (fun j4 => pw_any (fun q5 => ?_)))
    refine pw_ifB (fun _ => ?_) (fun _ => ?_)
    · refine pw_some ?_
      show (x + -1).toInt < _
      rw [a_add, il_m1]; omega
    · refine pw_some ?_
      show 0 ≤ v2.toInt ∧ v2.toInt < _
      rw [hv2]
      exact j.2.2.2.2.1.2 j1 (by have := i_nat a; omega)
  · intro z hz
    cases z with
    | inl z => exact pw_some (.inr hz)
    | inr z => exact pw_some (.inl rfl)
theorem jg_bring {S : md_S} {j1 j3 j5 : Nat} {a b : Int32} (j : sb_J S) (h1 : (S.1 15).toInt < 16400) (h2 : (S.1 18).toInt < 16400) (e5 : j5 = (S.1 18).toNatClampNeg) : sb_J (md_i (md_i (md_a (md_a (md_a S 21 j1 a) 22 j3 b) 23 j5 (S.1 15)) 18 (S.1 18 + 1)) 15 (S.1 15 + 1)) ∧ sb_G S (md_i (md_i (md_a (md_a (md_a S 21 j1 a) 22 j3 b) 23 j5 (S.1 15)) 18 (S.1 18 + 1)) 15 (S.1 15 + 1)) := by
  obtain ⟨c1, c2, c3, c4, ⟨c5, c6⟩, c7⟩ := j
  have x1 : (S.1 15 + 1).toInt = (S.1 15).toInt + 1 := by rw [a_add, il_1]; omega
  have x2 : (S.1 18 + 1).toInt = (S.1 18).toInt + 1 := by rw [a_add, il_1]; omega
  have x3 := i_nat c5.1
  refine ⟨⟨c1, c2, ?_, c4, ⟨?_, ?_⟩, c7⟩, ⟨⟨Int.le_refl _, ?_, Int.le_refl _, ?_⟩, fun _ _ => ⟨rfl, rfl, rfl, rfl, rfl⟩, fun _ _ => ⟨rfl, rfl, rfl⟩, ?_, id, id⟩, rfl, fun _ _ => rfl⟩
  · show 0 ≤ (S.1 15 + 1).toInt ∧ (S.1 15 + 1).toInt ≤ 16400; omega
  · show 0 ≤ (S.1 18 + 1).toInt ∧ (S.1 18 + 1).toInt ≤ 16400; omega
  · intro i hi
    replace hi : (i : Int) < (S.1 18 + 1).toInt := hi
    show 0 ≤ (upd (S.2.1 23) j5 (S.1 15) i).toInt ∧ (upd (S.2.1 23) j5 (S.1 15) i).toInt < (S.1 15 + 1).toInt
    unfold upd
    by_cases d : i = j5
    · simp only [if_pos d]; omega
    · simp only [if_neg d]; have := c6 i (by omega); omega
  · show (S.1 15).toInt ≤ (S.1 15 + 1).toInt; omega
  · show (S.1 18).toInt ≤ (S.1 18 + 1).toInt; omega
  · intro i hi
    show upd (S.2.1 23) j5 (S.1 15) i = _
    exact if_neg (by omega)
theorem jg_list {S : md_S} (p : Int32) (j : sb_J S) : dc_pw (mm_list S p) (fun q => sb_J q ∧ sb_G S q ∧ q.1 11 = S.1 11) := by
  unfold mm_list mm_list_L2
  refine pw_loop (fun x => sb_J x.1 ∧ sb_G S x.1 ∧ x.1.1 11 = S.1 11) (Sum.elim (fun q => sb_J q ∧ sb_G S q ∧ q.1 11 = S.1 11) (fun q => sb_J q ∧ sb_G S q ∧ q.1 11 = S.1 11)) ⟨j, sb_G_rf, rfl⟩ ?_ ?_
  · rintro ⟨S1, x2⟩ ⟨j1, g1, o1⟩
    have L50 : ∀ S2, sb_J S2 → sb_G S S2 → S2.1 11 = S.1 11 → dc_pw (mm_list_L50 S2 p) (Sum.elim (fun x => sb_J x.1 ∧ sb_G S x.1 ∧ x.1.1 11 = S.1 11) (Sum.elim (fun q => sb_J q ∧ sb_G S q ∧ q.1 11 = S.1 11) (fun q => sb_J q ∧ sb_G S q ∧ q.1 11 = S.1 11))) := by
      intro S2 j2 g2 o2
      unfold mm_list_L50
      refine pw_ifB (fun _ => pw_some ⟨j2, g2, o2⟩) (fun _ => ?_)
      refine pw_ixB 16400 rfl (fun j1 hj1 ha1 hb1 => ?_)
      refine pw_letB ?_; rintro _ rfl
      refine pw_any (fun j3 => ?_)
      refine pw_letB ?_; rintro _ rfl
      refine pw_ixB 16400 rfl (fun j5 hj5 ha5 hb5 => ?_)
      refine pw_letB ?_; rintro _ rfl
      refine pw_letB ?_; rintro _ rfl
      refine pw_letB ?_; rintro _ rfl
      have k1 := i_lt.mp hb1; have k5 := i_lt.mp hb5
      rw [il_16400] at k1 k5
      obtain ⟨jx, gx⟩ := jg_bring (j1 := j1) (j3 := j3) (a := S2.1 7) (b := S2.1 4 - S2.1 7) j2 k1 k5 hj5
      refine pw_bind (jg_advance _) (fun q9 e9 => ?_)
      refine pw_bind (jg_meetsSign _ _) (fun q10 e10 => ?_)
      have e := sb_E_tr e9 e10
      exact pw_some ⟨sb_E_J e jx, sb_G_tr g2 (sb_G_tr gx (sb_E_G e)), (e.1 11 (by decide)).trans o2⟩
    unfold mm_list_s2 mm_list_b2
    refine pw_ifB (fun _ => pw_some ⟨j1, g1, o1⟩) (fun _ => ?_)
    refine pw_ifB (fun _ => ?_) (fun _ => pw_some ⟨j1, g1, o1⟩)
    refine pw_any (fun q11 => ?_)
    refine pw_ifB (fun _ => ?_) (fun _ => ?_)
    · refine pw_bind (jg_fail j1 (.inl rfl)) (fun q h => ?_)
      exact L50 q h.1 (sb_G_tr g1 h.2.1) (h.2.2.2.trans o1)
    · refine pw_any (fun q13 => ?_)
      refine pw_ifB (fun _ => L50 _ j1 g1 o1) (fun _ => ?_)
      refine pw_bind (jg_fail j1 (.inr (.inr (.inl rfl)))) (fun q h => ?_)
      exact L50 q h.1 (sb_G_tr g1 h.2.1) (h.2.2.2.trans o1)
  · intro z hz
    cases z with
    | inl z => exact pw_some hz
    | inr z => exact pw_some hz
theorem jg_named {S : md_S} (p : Int32) (j : sb_J S) : dc_pw (mm_named S p) (fun q => sb_J q.1 ∧ sb_G S q.1 ∧ q.1.1 11 = S.1 11 ∧ (q.1.1 10 = 0 → 0 ≤ q.2.toInt ∧ q.2.toInt < (q.1.1 15).toInt)) := by
  have L57 : ∀ S2 x, sb_J S2 → sb_G S S2 → S2.1 11 = S.1 11 → (S2.1 10 = 0 → 0 ≤ x.toInt ∧ x.toInt < (S2.1 15).toInt) → dc_pw (mm_named_L57 S2 x) (fun q => sb_J q.1 ∧ sb_G S q.1 ∧ q.1.1 11 = S.1 11 ∧ (q.1.1 10 = 0 → 0 ≤ q.2.toInt ∧ q.2.toInt < (q.1.1 15).toInt)) := by
    intro S2 x j2 g2 o2 hx
    unfold mm_named_L57
    refine pw_ifB (fun h => pw_some ⟨j2, g2, o2, fun h0 => ?_⟩) (fun _ => ?_)
    · rw [h0] at h; exact absurd h (by decide)
    · refine pw_bind (jg_advance _) (fun q1 e => ?_)
      refine pw_some ⟨sb_E_J e j2, sb_G_tr g2 (sb_E_G e), (e.1 11 (by decide)).trans o2, fun h0 => ?_⟩
      rw [e.1 10 (by decide)] at h0; rw [e.1 15 (by decide)]; exact hx h0
  have L48 : ∀ S2 x, sb_J S2 → sb_G S S2 → S2.1 11 = S.1 11 → dc_pw (mm_named_L48 S2 x) (fun q => sb_J q.1 ∧ sb_G S q.1 ∧ q.1.1 11 = S.1 11 ∧ (q.1.1 10 = 0 → 0 ≤ q.2.toInt ∧ q.2.toInt < (q.1.1 15).toInt)) := by
    intro S2 x j2 g2 o2
    unfold mm_named_L48
    refine pw_bind (jg_fail j2 (.inr (.inl rfl))) (fun q h => ?_)
    exact L57 q x h.1 (sb_G_tr g2 h.2.1) (h.2.2.2.trans o2) (fun h0 => absurd h0 h.2.2.1)
  have L16 : ∀ S2, sb_J S2 → sb_G S S2 → S2.1 11 = S.1 11 → dc_pw (mm_named_L16 S2 p) (fun q => sb_J q.1 ∧ sb_G S q.1 ∧ q.1.1 11 = S.1 11 ∧ (q.1.1 10 = 0 → 0 ≤ q.2.toInt ∧ q.2.toInt < (q.1.1 15).toInt)) := by
    intro S2 j2 g2 o2
    unfold mm_named_L16
    refine pw_ifB (fun h => pw_some ⟨j2, g2, o2, fun h0 => ?_⟩) (fun _ => ?_)
    · rw [h0] at h; exact absurd h (by decide)
    · refine pw_bind (jg_signal _ j2) (fun q3 h3 => ?_)
      refine pw_ifB (fun _ => L48 _ _ j2 g2 o2) (fun hn => ?_)
      have hk := h3.resolve_left hn
      refine pw_ifB (fun _ => L57 _ _ j2 g2 o2 (fun _ => hk)) (fun _ => ?_)
      exact pw_ifB (fun _ => L48 _ _ j2 g2 o2) (fun _ => L57 _ _ j2 g2 o2 (fun _ => hk))
  unfold mm_named
  refine pw_any (fun q4 => ?_)
  refine pw_ifB (fun _ => ?_) (fun _ => L16 _ j sb_G_rf rfl)
  refine pw_bind (jg_fail j (.inl rfl)) (fun q h => ?_)
  exact L16 q h.1 h.2.1 h.2.2.2
def sb_B (S q : md_S) : Prop := (∀ k, k ∈ [12, 15, 18, 19, 27, 28] → q.1 k = S.1 k) ∧ (∀ k, k ∈ [23, 26, 30, 31, 32, 33, 35, 36, 37, 38] → q.2.1 k = S.2.1 k)
theorem sb_B_fr {wi wa : List Nat} {bw bt : Bool} {S q : md_S} (h : md_fr wi wa bw bt S q) (h1 : wi.all (fun k => !([12, 15, 18, 19, 27, 28] : List Nat).contains k) = true) (h2 : wa.all (fun k => !([23, 26, 30, 31, 32, 33, 35, 36, 37, 38] : List Nat).contains k) = true) : sb_B S q := by
  simp only [List.all_eq_true, Bool.not_eq_true', ← Bool.not_eq_true, List.contains_iff_mem] at h1 h2
  exact ⟨fun k hk => h.1 k (fun hw => h1 k hw hk), fun k hk => h.2.1 k (fun hw => h2 k hw hk)⟩
theorem sb_B_tr {S q r : md_S} (h : sb_B S q) (k : sb_B q r) : sb_B S r := ⟨fun j hj => (k.1 j hj).trans (h.1 j hj), fun j hj => (k.2 j hj).trans (h.2 j hj)⟩
theorem sb_E_B {S q : md_S} (h : sb_E S q) : sb_B S q := ⟨fun k hk => h.1 k (by revert hk; simp only [List.mem_cons, List.mem_nil_iff, or_false]; omega), h.2⟩
theorem sb_B_rf {S : md_S} : sb_B S S := ⟨fun _ _ => rfl, fun _ _ => rfl⟩
theorem jb_fail {S : md_S} (p w : Int32) : dc_pw (mm_fail S p w) (fun q => sb_B S q) := pw_mono (mm_fail_fr S p w) (fun q h => sb_B_fr h rfl rfl)
theorem jb_mustWord {S : md_S} (w : Int64) : dc_pw (mm_mustWord S w) (fun q => sb_B S q) := pw_mono (mm_mustWord_fr S w) (fun q h => sb_B_fr h rfl rfl)
theorem jb_deeper {S : md_S} : dc_pw (mm_deeper S) (fun q => sb_B S q) := pw_mono (mm_deeper_fr S) (fun q h => sb_B_fr h rfl rfl)
theorem jb_named {S : md_S} (p : Int32) : dc_pw (mm_named S p) (fun q => sb_B S q.1) := pw_mono (mm_named_fr S p) (fun q h => sb_B_fr h rfl rfl)
