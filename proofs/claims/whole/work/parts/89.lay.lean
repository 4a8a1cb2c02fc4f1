theorem md_fr_sub {wi wa wi2 wa2 : List Nat} {S q : md_S} (h : md_fr wi wa false false S q) (h1 : wi.all (fun k => wi2.contains k) = true) (h2 : wa.all (fun k => wa2.contains k) = true) : md_fr wi2 wa2 false false S q := by
  simp only [List.all_eq_true, List.contains_iff_mem] at h1 h2
  exact ⟨fun k hk => h.1 k (fun h => hk (h1 k h)), fun k hk => h.2.1 k (fun h => hk (h2 k h)), h.2.2.1, h.2.2.2⟩
/-- where the next tree hangs -/
def sb_cx (S : md_S) (pp : Int32) (w : Int) (t : Int32) : Prop :=
  (pp = -1 ∧ w = 1 ∧ t = -1) ∨ ∃ u : Nat, (u : Int) < (S.1 42).toInt ∧ t = (if S.2.1 51 u = 8 then Int32.ofNat u else S.2.1 60 u) ∧ ((pp.toInt = 2 * (u : Int) ∧ w = (S.2.1 57 u).toInt + (if S.2.1 51 u = 6 then 1 else 0)) ∨ (pp.toInt = 2 * (u : Int) + 1 ∧ w = (S.2.1 57 u).toInt + (if S.2.1 51 u = 6 ∨ S.2.1 51 u = 5 then 1 else 0)))
theorem ofNat_toInt {u : Nat} (h : u < 100000) : (Int32.ofNat u).toInt = (u : Int) := by
  exact Int32.toInt_ofNat_of_lt (by omega)
theorem shr_2u {x : Int32} {u : Nat} (hu : u < 100000) (h : x.toInt = 2 * (u : Int) ∨ x.toInt = 2 * (u : Int) + 1) : x >>> (1 &&& (31 : Int32)) = Int32.ofNat u := i_eq.mpr (by rw [i_shr1, ofNat_toInt hu]; omega)
theorem shr_m1 : (-1 : Int32) >>> (1 &&& (31 : Int32)) = -1 := by decide
theorem ofNat_ne {u : Nat} (h : u < 100000) : ¬ Int32.ofNat u = -1 := fun e => by have := congrArg Int32.toInt e; rw [ofNat_toInt h, il_m1] at this; omega
section LST
variable {S : md_S} {x2 r pp : Int32} {F : (md_S × Int32) ⊕ md_S → Prop} {w : Int} {t : Int32}
theorem lay_step (li : sb_LI S) (hk : (S.1 42).toInt < 1200) (hr : 0 ≤ r.toInt ∧ r.toInt < 1200) (hx : 1 ≤ x2.toInt ∧ x2.toInt ≤ 1206) (e1 : S.2.1 39 (x2.toInt - 1).toNat = r) (e2 : S.2.1 40 (x2.toInt - 1).toNat = pp) (cx : sb_cx S pp w t)
    (hq : ¬ S.2.1 35 r.toInt.toNat = -1 → ¬ S.2.1 30 r.toInt.toNat = 1 ∧ sb_QS S (S.2.1 35 r.toInt.toNat)) (h15 : (S.1 15).toInt ≤ 400) (h28 : (S.1 28).toInt ≤ 1000) (hfg : S.2.1 31 r.toInt.toNat = -1 → S.2.1 32 r.toInt.toNat = -1)
    (k0 : S.2.1 32 r.toInt.toNat = -1 → S.2.1 31 r.toInt.toNat = -1 → ∀ q : md_S, sb_LO S q pp.toInt r.toInt.toNat w t (x2.toInt - 1) → F (.inl (q, x2 + (-1))))
    (k1 : S.2.1 32 r.toInt.toNat = -1 → ¬ S.2.1 31 r.toInt.toNat = -1 → ∀ q : md_S, sb_LO S q pp.toInt r.toInt.toNat w t (x2.toInt - 1) → q.2.1 39 (x2.toInt - 1).toNat = S.2.1 31 r.toInt.toNat → q.2.1 40 (x2.toInt - 1).toNat = 2 * S.1 42 → F (.inl (q, x2 + (-1) + 1)))
    (k2 : ¬ S.2.1 32 r.toInt.toNat = -1 → ¬ S.2.1 31 r.toInt.toNat = -1 → ∀ q : md_S, sb_LO S q pp.toInt r.toInt.toNat w t (x2.toInt - 1) → q.2.1 39 (x2.toInt - 1).toNat = S.2.1 32 r.toInt.toNat → q.2.1 40 (x2.toInt - 1).toNat = 2 * S.1 42 + 1 → q.2.1 39 ((x2.toInt - 1).toNat + 1) = S.2.1 31 r.toInt.toNat → q.2.1 40 ((x2.toInt - 1).toNat + 1) = 2 * S.1 42 → F (.inl (q, x2 + (-1) + 1 + 1))) : dc_wp (mm_lay_I_b16 S x2) F := by
  have h42 := li.1.1
  have a1 : (x2 + (-1)).toInt = x2.toInt - 1 := (x3f hx.1 (by omega)).1
  have ey : (x2 + (-1)).toInt.toNat = (x2.toInt - 1).toNat := by rw [a1]
  -- from L69 on
  have main : ∀ (up y0 w' : Int32), w'.toInt = w → (up = -1 ∨ (0 ≤ up.toInt ∧ up.toInt < (S.1 42).toInt)) → (up = -1 → w' = 1) → (¬ up = -1 → w' = S.2.1 57 up.toInt.toNat + (if S.2.1 51 up.toInt.toNat = 6 ∨ (S.2.1 51 up.toInt.toNat = 5 ∧ ¬ y0 = 0) then 1 else 0)) → (up = -1 → t = -1) → (¬ up = -1 → t = if S.2.1 51 up.toInt.toNat = 8 then up else S.2.1 60 up.toInt.toNat) → (1 ≤ w ∧ w ≤ (S.1 42).toInt + 1) → (t = -1 ∨ (0 ≤ t.toInt ∧ t.toInt < (S.1 42).toInt)) → (∀ j : Nat, (j : Int) < (S.1 42).toInt → (pp.toInt = 2 * (j : Int) ↔ (¬ up = -1 ∧ y0 = 0 ∧ up.toInt = (j : Int))) ∧ (pp.toInt = 2 * (j : Int) + 1 ↔ (¬ up = -1 ∧ ¬ y0 = 0 ∧ up.toInt = (j : Int)))) → dc_wp (mm_lay_I_L69 S (x2 + (-1)) r (S.1 42) up y0) F := by
    intro up y0 w' ew hup hw hw2 ht ht2 hwb htb hpp
    refine lay_A1 h42 hk hr hup hw hw2 ht ht2 (fun q1 fa c52 c53 => ?_)
    have kk : q1.2.1 51 (S.1 42).toInt.toNat = S.2.1 30 r.toInt.toNat := by rw [fa.2.2.2.1, sb_up]
    have g35 : q1.2.1 35 = S.2.1 35 := fa.1.2.1 35 (by decide)
    have fin : ∀ q2 q : md_S, sb_BR q1 q2 (S.1 42).toInt.toNat r.toInt.toNat → (∃ aa, aa.all (fun k => [39, 40].contains k) = true ∧ md_fr [49] aa false false q2 q) → (∀ i : Nat, (i : Int) < x2.toInt - 1 → q.2.1 39 i = S.2.1 39 i ∧ q.2.1 40 i = S.2.1 40 i) → sb_LO S q pp.toInt r.toInt.toNat w t (x2.toInt - 1) := by
      intro q2 q br cr cp
      rw [← ew]
      refine lo_make li hk fa br (by omega) htb cr cp (fun j hj => ?_) ?_ (fun j hj => ?_) ?_
      · have hp := (hpp j hj).1
        rw [c52]
        refine ⟨fun h => ?_, fun h => ?_⟩
        · by_cases hz : up = -1 ∨ ¬ y0 = 0
          · rw [if_pos hz, sb_dn _ _ (nat_ne hj)]
          · rw [if_neg hz]
            have hz1 : ¬ up = -1 := fun h => hz (.inl h)
            have hz2 : y0 = 0 := Classical.byContradiction (fun h => hz (.inr h))
            have hne : ¬ j = up.toInt.toNat := fun e => h (hp.mpr ⟨hz1, hz2, by have := hup.resolve_left hz1; omega⟩)
            rw [sb_dn _ _ hne, sb_dn _ _ (nat_ne hj)]
        · obtain ⟨z1, z2, z3⟩ := hp.mp h
          rw [if_neg (fun h => h.elim z1 (fun h => h z2)), show j = up.toInt.toNat by omega, sb_up]
          exact ⟨rfl, by omega⟩
      · rw [c52]
        by_cases hz : up = -1 ∨ ¬ y0 = 0
        · rw [if_pos hz, sb_up]
        · rw [if_neg hz]
          have hz1 : ¬ up = -1 := fun h => hz (.inl h)
          have := hup.resolve_left hz1
          rw [sb_dn _ _ (by omega), sb_up]
      · have hp := (hpp j hj).2
        rw [c53]
        refine ⟨fun h => ?_, fun h => ?_⟩
        · by_cases hz : up = -1 ∨ y0 = 0
          · rw [if_pos hz, sb_dn _ _ (nat_ne hj)]
          · rw [if_neg hz]
            have hz1 : ¬ up = -1 := fun h => hz (.inl h)
            have hz2 : ¬ y0 = 0 := fun h => hz (.inr h)
            have hne : ¬ j = up.toInt.toNat := fun e => h (hp.mpr ⟨hz1, hz2, by have := hup.resolve_left hz1; omega⟩)
            rw [sb_dn _ _ hne, sb_dn _ _ (nat_ne hj)]
        · obtain ⟨z1, z2, z3⟩ := hp.mp h
          rw [if_neg (fun h => h.elim z1 z2), show j = up.toInt.toNat by omega, sb_up]
          exact ⟨rfl, by omega⟩
      · rw [c53]
        by_cases hz : up = -1 ∨ y0 = 0
        · rw [if_pos hz, sb_up]
        · rw [if_neg hz]
          have hz1 : ¬ up = -1 := fun h => hz (.inl h)
          have := hup.resolve_left hz1
          rw [sb_dn _ _ (by omega), sb_up]
    -- from L368 on
    have L368 : ∀ q2 : md_S, sb_BR q1 q2 (S.1 42).toInt.toNat r.toInt.toNat → dc_wp (mm_lay_I_L368 q2 (x2 + (-1)) r (S.1 42)) F := by
      intro q2 br
      have b0 := br.1
      have s31 : q2.2.1 31 = S.2.1 31 := (b0.2.1 31 (by decide)).trans (fa.1.2.1 31 (by decide))
      have s32 : q2.2.1 32 = S.2.1 32 := (b0.2.1 32 (by decide)).trans (fa.1.2.1 32 (by decide))
      have s39 : q2.2.1 39 = S.2.1 39 := (b0.2.1 39 (by decide)).trans (fa.1.2.1 39 (by decide))
      have s40 : q2.2.1 40 = S.2.1 40 := (b0.2.1 40 (by decide)).trans (fa.1.2.1 40 (by decide))
      have s42 : (q2.1 42).toInt = (S.1 42).toInt + 1 := by rw [b0.1 42 (by decide), fa.2.1]; exact ar1 h42 (by omega)
      have tO : sb_tO q2 := by
        intro j hj
        rw [b0.2.1 60 (by decide), fa.2.2.2.2.2.2.2]
        by_cases hz : (j : Int) < (S.1 42).toInt
        · rw [sb_dn _ _ (nat_ne hz)]; exact li.2.2.2.2.1 j hz
        · have : j = (S.1 42).toInt.toNat := by omega
          rw [this, sb_up]
          exact htb.imp id (fun h => by omega)
      refine lay_C h42 (by omega) (by omega) hr tO (by omega) (fun c1 c2 q f => ?_) (fun c1 c2 q f p1 p2 => ?_) (fun c1 c2 q f p1 p2 => ?_) (by rw [s31, s32]; exact hfg)
      · rw [s32] at c1; rw [s31] at c2
        exact k0 c1 c2 q (fin q2 q br ⟨[], rfl, f⟩ (fun i _ => by rw [f.2.1 39 (by decide), f.2.1 40 (by decide), s39, s40]; exact ⟨rfl, rfl⟩))
      · rw [s32] at c1; rw [s31] at c2 p1
        rw [ey, s39] at p1; rw [ey, s40] at p2
        refine k1 c1 c2 q (fin q2 q br ⟨[39, 40], by decide, f⟩ (fun i hi => ?_)) ?_ ?_
        · rw [p1, p2, sb_dn _ _ (nat_ne hi), sb_dn _ _ (nat_ne hi)]; exact ⟨rfl, rfl⟩
        · rw [p1, sb_up]
        · rw [p2, sb_up]
      · rw [s32] at c1 p1; rw [s31] at c2 p1
        rw [ey, s39] at p1; rw [ey, s40] at p2
        have hne : ¬ (x2.toInt - 1).toNat = (x2.toInt - 1).toNat + 1 := by omega
        refine k2 c1 c2 q (fin q2 q br ⟨[39, 40], by decide, f⟩ (fun i hi => ?_)) ?_ ?_ ?_ ?_
        · have n1 := nat_ne hi
          have n2 : ¬ i = (x2.toInt - 1).toNat + 1 := by omega
          rw [p1, p2, sb_dn _ _ n2, sb_dn _ _ n2, sb_dn _ _ n1, sb_dn _ _ n1]; exact ⟨rfl, rfl⟩
        · rw [p1, sb_dn _ _ hne, sb_up]
        · rw [p2, sb_dn _ _ hne, sb_up]
        · rw [p1, sb_up]
        · rw [p2, sb_up]
    have g47 : q1.1 47 = S.1 47 := fa.1.1 47 (by decide)
    have pm0 : ∀ q2 : md_S, q2.1 43 = q1.1 43 → q2.2.1 63 = q1.2.1 63 → q2.2.1 64 = q1.2.1 64 → q2.2.1 65 = q1.2.1 65 → q2.2.1 66 = q1.2.1 66 → sb_PM q1 q2 := by
      intro q2 d0 d1 d2 d3 d4
      refine ⟨by rw [d0]; omega, fun i _ => by rw [d1, d2, d3, d4]; exact ⟨rfl, rfl, rfl, rfl⟩, fun _ i hi hi2 => ?_⟩
      rw [d0] at hi2; omega
    refine lay_B h42 hk hr (fun c1 c2 q2 f p62 => ?_) (fun c1 c2 q2 f p47 p62 p54 => ?_) (fun hz => ?_) (fun hz qa qb fa1 aq q2 f54 p62 p54 => ?_)
    · refine L368 q2 ⟨md_fr_sub f (by decide) (by decide), p62, fun j _ => by rw [f.2.1 54 (by decide)], pm0 q2 (f.1 43 (by decide)) (f.2.1 63 (by decide)) (f.2.1 64 (by decide)) (f.2.1 65 (by decide)) (f.2.1 66 (by decide)), .inr ⟨c1, f.1 47 (by decide), .inl ⟨c2, by rw [f.2.1 54 (by decide)]⟩⟩⟩
    · refine L368 q2 ⟨md_fr_sub f (by decide) (by decide), p62, fun j hj => by rw [p54, sb_dn _ _ hj], pm0 q2 (f.1 43 (by decide)) (f.2.1 63 (by decide)) (f.2.1 64 (by decide)) (f.2.1 65 (by decide)) (f.2.1 66 (by decide)), .inl ⟨c1, c2, p47, by rw [p54, sb_up]⟩⟩
    · rw [g35] at hz ⊢
      obtain ⟨h1, h2⟩ := hq hz
      rw [kk]
      refine ⟨h1, ?_, by rw [fa.1.1 15 (by decide)]; exact h15, by rw [fa.1.1 28 (by decide)]; exact h28, ?_⟩
      · unfold sb_QS at *
        rw [fa.1.1 15 (by decide), fa.1.1 28 (by decide), fa.1.2.1 36 (by decide), fa.1.2.1 37 (by decide), fa.1.2.1 38 (by decide)]; exact h2
      · rw [fa.1.1 43 (by decide)]
        have := li.2.2.1
        omega
    · have e43 : qa.1 43 = q1.1 43 := fa1.1 43 (by decide)
      have pma : sb_PM q1 q2 := by
        obtain ⟨_, ⟨p1, p2⟩, p3, p4⟩ := aq
        rw [e43] at p1 p2 p3 p4
        have d43 : q2.1 43 = qb.1 43 := f54.1 43 (by decide)
        refine ⟨by rw [d43]; omega, fun i hi => ?_, fun hq i hi hi2 => ?_⟩
        · obtain ⟨y1, y2, y3, y4⟩ := p3 i hi
          rw [f54.2.1 63 (by decide), f54.2.1 64 (by decide), f54.2.1 65 (by decide), f54.2.1 66 (by decide), y1, y2, y3, y4, fa1.2.1 63 (by decide), fa1.2.1 64 (by decide), fa1.2.1 65 (by decide), fa1.2.1 66 (by decide)]
          exact ⟨rfl, rfl, rfl, rfl⟩
        · rw [d43] at hq hi2
          exact sb_pl_eq (by rw [f54.2.1 63 (by decide)]) (by rw [f54.2.1 64 (by decide)]) (by rw [f54.2.1 65 (by decide)]) ((p4 hq).1 i hi hi2)
      have fr2 : md_fr [43, 47] [54, 62, 63, 64, 65, 66, 99] false false q1 q2 := md_fr_tr (md_fr_tr (md_fr_tr (wi := [43, 47]) (wa := [54, 62, 63, 64, 65, 66, 99]) (bw := false) (bt := false) md_fr_rf fa1 (by decide)) aq.1 (by decide)) f54 (by decide)
      refine L368 q2 ⟨fr2, by rw [f54.2.1 62 (by decide)]; exact p62, fun j hj => by rw [p54, sb_dn _ _ hj], pma, .inr ⟨?_, ?_, .inr ⟨hz, ?_⟩⟩⟩
      · rw [g35] at hz; rw [kk]; exact (hq hz).1
      · rw [f54.1 47 (by decide), aq.1.1 47 (by decide), fa1.1 47 (by decide)]
      · rw [p54, sb_up]
        have d43 : q2.1 43 = qb.1 43 := f54.1 43 (by decide)
        obtain ⟨_, ⟨p1, p2⟩, p3, p4⟩ := aq
        rw [e43] at p1 p2 p3 p4
        have h0 : 0 ≤ (q1.1 43).toInt := by rw [fa.1.1 43 (by decide)]; exact li.2.2.1.1
        refine ⟨h0, by rw [d43]; exact p1, fun hq => ?_⟩
        rw [d43] at hq ⊢
        rw [f54.2.1 66 (by decide), (p4 hq).2]
        exact ⟨by omega, Int.le_refl _⟩
  unfold mm_lay_I_b16
  refine dc_ifP (i_lt.mpr (by rw [il_0]; omega)) ?_
  refine dc_ixT (by omega) (by show (x2 + (-1)).toInt < 1208; omega) ?_
  refine dc_letB ?_; rintro _ rfl
  refine dc_letB ?_; rintro _ rfl
  refine dc_ixT (by omega) (by show (x2 + (-1)).toInt < 1208; omega) ?_
  refine dc_letB ?_; rintro _ rfl
  refine dc_ixT (by omega) (by show (x2 + (-1)).toInt < 1208; omega) ?_
  rw [ey, e1, e2]
  rcases cx with ⟨rfl, hw, ht⟩ | ⟨u, hu, ht, ⟨hp, hw⟩ | ⟨hp, hw⟩⟩
  · rw [shr_m1]
    refine dc_ifP (by decide) ?_
    refine dc_ifP rfl ?_
    refine main (-1) 0 1 (by rw [il_1, hw]) (.inl rfl) (fun _ => rfl) (fun h => absurd rfl h) (fun _ => ht) (fun h => absurd rfl h) (by omega) (.inl ht) (fun j hj => ?_)
    rw [il_m1]
    exact ⟨⟨fun h => by omega, fun h => absurd rfl h.1⟩, ⟨fun h => by omega, fun h => absurd rfl h.1⟩⟩
  · have hu2 : u < 100000 := by omega
    rw [shr_2u hu2 (.inl hp)]
    have hne := ofNat_ne hu2
    have eu : (Int32.ofNat u).toInt = (u : Int) := ofNat_toInt hu2
    have eun : (Int32.ofNat u).toInt.toNat = u := by rw [eu]; rfl
    have l8 := (li.2.2.2.2.2.1 u hu).2
    have hodd : ¬ (pp &&& 1) = 1 := fun h => by have := (i_and1' pp).mp h; omega
    refine dc_ifN hodd ?_
    refine main (Int32.ofNat u) 0 (S.2.1 57 u + (if S.2.1 51 u = 6 ∨ (S.2.1 51 u = 5 ∧ ¬ (0 : Int32) = 0) then 1 else 0)) ?_ (.inr (by omega)) (fun h => absurd h hne) (fun _ => by rw [eun]) (fun h => absurd h hne) (fun _ => by rw [eun]; exact ht) ?_ ?_ (fun j hj => ?_)
    · rw [hw]
      by_cases hz : S.2.1 51 u = 6
      · rw [if_pos (.inl hz), if_pos hz]; exact ar1 (by omega) (by omega)
      · rw [if_neg (fun h => h.elim hz (fun h => h.2 rfl)), if_neg hz, ar2 (by omega) (by omega) (by decide) (by decide), il_0]
    · rw [hw]; split <;> omega
    · rw [ht]
      by_cases hz : S.2.1 51 u = 8
      · rw [if_pos hz, eu]; exact .inr (by omega)
      · rw [if_neg hz]; exact (li.2.2.2.2.1 u hu).imp id (fun h => by omega)
    · rw [eu, hp]
      exact ⟨⟨fun h => ⟨hne, rfl, by omega⟩, fun h => by omega⟩, ⟨fun h => by omega, fun h => absurd rfl h.2.1⟩⟩
  · have hu2 : u < 100000 := by omega
    rw [shr_2u hu2 (.inr hp)]
    have hne := ofNat_ne hu2
    have eu : (Int32.ofNat u).toInt = (u : Int) := ofNat_toInt hu2
    have eun : (Int32.ofNat u).toInt.toNat = u := by rw [eu]; rfl
    have l8 := (li.2.2.2.2.2.1 u hu).2
    have hodd : (pp &&& 1) = 1 := (i_and1' pp).mpr (by omega)
    refine dc_ifP hodd ?_
    refine dc_ifN hne ?_
    refine main (Int32.ofNat u) 1 (S.2.1 57 u + (if S.2.1 51 u = 6 ∨ (S.2.1 51 u = 5 ∧ ¬ (1 : Int32) = 0) then 1 else 0)) ?_ (.inr (by omega)) (fun h => absurd h hne) (fun _ => by rw [eun]) (fun h => absurd h hne) (fun _ => by rw [eun]; exact ht) ?_ ?_ (fun j hj => ?_)
    · rw [hw]
      by_cases hz : S.2.1 51 u = 6 ∨ S.2.1 51 u = 5
      · rw [if_pos (hz.imp id (fun h => ⟨h, sb_nz⟩)), if_pos hz]; exact ar1 (by omega) (by omega)
      · rw [if_neg (fun h => hz (h.imp id (fun h => h.1))), if_neg hz, ar2 (by omega) (by omega) (by decide) (by decide), il_0]
    · rw [hw]; split <;> omega
    · rw [ht]
      by_cases hz : S.2.1 51 u = 8
      · rw [if_pos hz, eu]; exact .inr (by omega)
      · rw [if_neg hz]; exact (li.2.2.2.2.1 u hu).imp id (fun h => by omega)
    · rw [eu, hp]
      exact ⟨⟨fun h => by omega, fun h => absurd h.2.1 sb_nz⟩, ⟨fun h => ⟨hne, sb_nz, by omega⟩, fun h => by omega⟩⟩
end LST
