/-- a test is laid -/
def sb_AQ (S q : md_S) : Prop :=
  md_fr [43] [63, 64, 65, 66, 99] false false S q ∧ ((S.1 43).toInt < (q.1 43).toInt ∧ (q.1 43).toInt ≤ (S.1 43).toInt + 1000) ∧
  (∀ i : Nat, (i : Int) < (S.1 43).toInt → q.2.1 63 i = S.2.1 63 i ∧ q.2.1 64 i = S.2.1 64 i ∧ q.2.1 65 i = S.2.1 65 i ∧ q.2.1 66 i = S.2.1 66 i) ∧
  ((q.1 43).toInt ≤ 1000 → (∀ i : Nat, (S.1 43).toInt ≤ (i : Int) → (i : Int) < (q.1 43).toInt → sb_pl q i) ∧ q.2.1 66 (S.1 43).toInt.toNat = q.1 43)
theorem mm_ask_l {S : md_S} {p : Int32} (hq : sb_QS S p) (hn : (S.1 15).toInt ≤ 400) (hpc : (S.1 28).toInt ≤ 1000) (h0 : 0 ≤ (S.1 43).toInt) (h1 : (S.1 43).toInt ≤ 1400000) : dc_wp (mm_ask S p) (fun q => sb_AQ S q.1 ∧ q.2 = S.1 43) := by
  obtain ⟨a, b, n, lo, t⟩ := hq
  have hlt := sb_Q_lt t
  unfold mm_ask
  refine dc_letB ?_; rintro _ rfl
  refine dc_ixT (by decide) (by decide) ?_
  refine dc_letB ?_; intro S35 h35
  refine dc_ixT (by decide) (by decide) ?_
  refine dc_letB ?_; intro S37 h37
  have f : md_fr [] [99] false false S S37 := by
    refine ⟨fun k _ => by rw [h37, h35]; rfl, fun k hk => ?_, fun _ => by rw [h37, h35]; rfl, fun _ => by rw [h37, h35]; rfl⟩
    have hk : ¬ k = 99 := fun h => hk (by rw [h]; decide)
    rw [h37, h35, md_a2, if_neg hk, md_a2, if_neg hk]
  have z0 : S37.2.1 99 0 = p := by rw [h37, h35]; rfl
  have z1 : S37.2.1 99 1 = -1 := by rw [h37, h35]; rfl
  clear h37 h35
  have e43 : S37.1 43 = S.1 43 := f.1 43 (by decide)
  unfold mm_ask_L23
  refine dc_bindI ?_
  refine ask_tree (x2 := S.1 43) (F := fun v => dc_wp (mm_ask_L262 v (S.1 43)) (fun q => sb_AQ S q.1 ∧ q.2 = S.1 43)) hn n t (by omega) S37 1 (-1) (f.2.1 36 (by decide)) (f.2.1 37 (by decide)) (f.2.1 38 (by decide)) (by rw [e43]; exact h0) (by rw [e43]; omega) (by decide) (by rw [il_1]; omega) ?_ z1 (.inl rfl) (fun q ar => ?_)
  · show (S37.2.1 99 0).toInt = _
    rw [z0]; omega
  · refine dc_it1 ?_
    show dc_wp (mm_ask_b23 q (S.1 43) 0) _
    unfold mm_ask_b23
    refine dc_ifN (by decide) ?_
    refine dc_ret ?_
    show dc_wp (mm_ask_L262 q (S.1 43)) _
    obtain ⟨r1, r2, r3, r4, r5⟩ := ar
    rw [e43] at r2 r3 r4
    rw [il_m1] at r3
    have g3 : ∀ i : Nat, (i : Int) < (S.1 43).toInt → q.2.1 63 i = S.2.1 63 i ∧ q.2.1 64 i = S.2.1 64 i ∧ q.2.1 65 i = S.2.1 65 i := by
      intro i hi
      obtain ⟨x1, x2, x3⟩ := r3 i hi
      rw [x1, x2 (by omega), x3 (by omega), f.2.1 63 (by decide), f.2.1 64 (by decide), f.2.1 65 (by decide)]
      exact ⟨rfl, rfl, rfl⟩
    have g1 : md_fr [43] [63, 64, 65, 66, 99] false false S q := md_fr_tr (md_fr_tr (wi := [43]) (wa := [63, 64, 65, 66, 99]) (bw := false) (bt := false) md_fr_rf f (by decide)) r1 (by decide)
    have e66 : q.2.1 66 = S.2.1 66 := (r1.2.1 66 (by decide)).trans (f.2.1 66 (by decide))
    unfold mm_ask_L262
    refine dc_ifI (fun h => ?_) (fun h => ?_)
    · have h' := i_lt.mp h
      rw [il_1000] at h'
      refine dc_ixT h0 h' ?_
      refine dc_letB ?_; intro S2 h2
      have k1 : S2.1 = q.1 := by rw [h2]; rfl
      have k2 : S2.2.2 = q.2.2 := by rw [h2]; rfl
      have k3 : ∀ k, ¬ k = 66 → S2.2.1 k = q.2.1 k := fun k hk => by rw [h2, md_a2, if_neg hk]
      have k4 : S2.2.1 66 = upd (q.2.1 66) (S.1 43).toInt.toNat (q.1 43) := by rw [h2]; rfl
      clear h2
      refine dc_ret ⟨⟨⟨fun k hk => by rw [k1]; exact g1.1 k hk, fun k hk => ?_, fun _ => by rw [k2]; exact g1.2.2.1 rfl, fun _ => by rw [k2]; exact g1.2.2.2 rfl⟩, ?_, fun i hi => ?_, fun hq => ⟨fun i hi hi2 => ?_, ?_⟩⟩, rfl⟩
      · rw [k3 k (fun h => hk (by rw [h]; decide))]; exact g1.2.1 k hk
      · show (S.1 43).toInt < (S2.1 43).toInt ∧ (S2.1 43).toInt ≤ _
        rw [k1]; omega
      · obtain ⟨y1, y2, y3⟩ := g3 i hi
        show S2.2.1 63 i = _ ∧ S2.2.1 64 i = _ ∧ S2.2.1 65 i = _ ∧ S2.2.1 66 i = _
        rw [k3 63 (by decide), k3 64 (by decide), k3 65 (by decide), k4, sb_dn _ _ (ng3 hi), e66]
        exact ⟨y1, y2, y3, rfl⟩
      · replace hq : (S2.1 43).toInt ≤ 1000 := hq
        replace hi2 : (i : Int) < (S2.1 43).toInt := hi2
        rw [k1] at hq hi2
        exact sb_pl_eq (by show S2.2.1 63 i = _; rw [k3 63 (by decide)]) (by show S2.2.1 64 i = _; rw [k3 64 (by decide)]) (by show S2.2.1 65 i = _; rw [k3 65 (by decide)]) ((r4 hq).2 i hi hi2)
      · show S2.2.1 66 _ = S2.1 43
        rw [k4, sb_up, k1]
    · have h' : ¬ (S.1 43).toInt < 1000 := fun hz => h (i_lt.mpr (by rw [il_1000]; exact hz))
      refine dc_ret ⟨⟨g1, ⟨r2.1, by show (q.1 43).toInt ≤ _; omega⟩, fun i hi => ?_, fun hq => ?_⟩, rfl⟩
      · obtain ⟨y1, y2, y3⟩ := g3 i hi
        exact ⟨y1, y2, y3, by show q.2.1 66 i = _; rw [e66]⟩
      · exfalso
        replace hq : (q.1 43).toInt ≤ 1000 := hq
        omega
/-- the traps around: links lead to what was laid before -/
def sb_tO (S : md_S) : Prop := ∀ j : Nat, (j : Int) < (S.1 42).toInt → S.2.1 60 j = -1 ∨ (0 ≤ (S.2.1 60 j).toInt ∧ (S.2.1 60 j).toInt < (j : Int))
theorem mm_around_l {S : md_S} {p : Int32} (h : sb_tO S) (h0 : 0 ≤ p.toInt) (h1 : p.toInt < (S.1 42).toInt) (h2 : (S.1 42).toInt ≤ 1200) : dc_wp (mm_around S p) (fun _ => True) := by
  unfold mm_around
  refine dc_ixT h0 (by omega) ?_
  refine dc_letB (fun v hv => ?_)
  unfold mm_around_L9
  have hs := h p.toInt.toNat (by omega)
  rw [← hv] at hs
  refine dc_loopI (fun q => q.2 = -1 ∨ (0 ≤ q.2.toInt ∧ q.2.toInt < (S.1 42).toInt)) (fun q => (q.2.toInt + 1).toNat) (hs.imp id (fun h => ⟨h.1, by show v.toInt < _; omega⟩)) ?_
  rintro ⟨x2, x3⟩ hx
  unfold mm_around_s9 mm_around_b9
  refine dc_ifI (fun _ => dc_ret (dc_ret trivial)) (fun hn => ?_)
  have hx := hx.resolve_left hn
  replace hx : 0 ≤ x3.toInt ∧ x3.toInt < (S.1 42).toInt := hx
  refine dc_ixT hx.1 (by show x3.toInt < _; omega) ?_
  refine dc_letB (fun v2 hv2 => ?_)
  have hs2 := h x3.toInt.toNat (by omega)
  rw [← hv2] at hs2
  refine dc_ret ⟨hs2.imp id (fun h => ⟨h.1, by show v2.toInt < _; omega⟩), ?_⟩
  show (v2.toInt + 1).toNat < (x3.toInt + 1).toNat
  rcases hs2 with hs2 | hs2
  · rw [hs2, il_m1]; omega
  · omega
