/-- what an instant keeps, and what the selected pauses are -/
def sb_IN (S q : md_S) : Prop := md_fr [0, 77, 78, 79, 80, 81, 82, 83] [67, 70, 71, 72, 73, 74, 75, 76, 84] false false S q ∧ sb_RV q ∧ (q.1 77 = S.1 77 ∨ q.1 77 = 0) ∧ (q.1 82 = S.1 82 ∨ q.1 82 = 1 ∨ q.1 82 = 2)
theorem mm_instant_l {S : md_S} (p : Int32) (v : S.1 82 = 1 → sb_RV S) (hw : sb_RW S) : dc_wp (mm_instant S p) (fun q => (S.1 82 = 1 ∧ sb_IN S q.1) ∨ (¬ S.1 82 = 1 ∧ md_fr [0] [] false false S q.1)) := by
  have ff : ∀ a b : Int32, dc_wp (mm_fails S a b) (fun q => md_fr [0] [] false false S q.1) := by
    intro a b
    have h := dc_wpw (mm_fails_s S a b) (mm_fails_fr S a b)
    exact dc_mono h (fun q hq => hq.2)
  have L117 : S.1 82 = 1 → ∀ S1 x3, sb_IN S S1 → dc_wp (mm_instant_L117 S1 x3 0) (fun q => sb_IN S q.1) := by
    intro h82 S1 x3 i1
    have v := v h82
    obtain ⟨⟨_, _, _, p45, p46, _, p47, p50⟩, _⟩ := v.1
    unfold mm_instant_L117
    refine dc_up (S.1 47).toInt (by omega) (fun S2 => sb_IN S S2) i1 (by rw [il_0]; omega) ?_
    intro S2 x i2 x0 x1
    unfold mm_instant_s117 mm_instant_b117
    show dc_wp (if x < (S2.1 47) then _ else _) _
    rw [i2.1.1 47 (by decide)]
    refine dc_ifI (fun hlt => ?_) (fun _ => ?_)
    · have hlt := i_lt.mp hlt
      have x200 : x.toInt < ((200 : Nat) : Int) := by show x.toInt < 200; omega
      have L152 : ∀ z, sb_bo z → dc_wp (mm_instant_L152 S2 x3 x z x) (Sum.elim (fun y => sb_IN S y.1 ∧ y.2 = x + 1 ∧ x.toInt < (S.1 47).toInt) (fun z => dc_wp (mm_instant_L159 z x3) (fun q => sb_IN S q.1))) := by
        intro z hz
        unfold mm_instant_L152
        refine dc_zbI hz ?_
        refine dc_ixT x0 x200 ?_
        refine dc_letB ?_; intro S4 h4
        have f4 : md_fr [] [74] false false S2 S4 := by
          refine ⟨fun j _ => by rw [h4]; rfl, fun j hj => ?_, fun _ => by rw [h4]; rfl, fun _ => by rw [h4]; rfl⟩
          rw [h4, md_a2]; exact if_neg (fun h => hj (by rw [h]; decide))
        refine dc_ret ⟨⟨md_fr_tr i2.1 f4 (by decide), ⟨sb_PE_PF (sb_PE_fr f4 (by decide) (by decide)) i2.2.1.1, ⟨by rw [f4.2.1 73 (by decide)]; exact i2.2.1.2.1.1, by rw [f4.2.1 71 (by decide)]; exact i2.2.1.2.1.2⟩, fun i hi => ?_⟩, by rw [f4.1 77 (by decide)]; exact i2.2.2.1, by rw [f4.1 82 (by decide)]; exact i2.2.2.2⟩, rfl, hlt⟩
        rw [h4]
        show upd (S2.2.1 74) _ z i = 0 ∨ upd (S2.2.1 74) _ z i = 1
        by_cases hq : i = x.toInt.toNat
        · rw [sb_ue _ _ hq]; exact hz
        · rw [sb_dn _ _ hq]; exact i2.2.1.2.2 i hi
      refine dc_ifI (fun _ => ?_) (fun _ => L152 0 (.inl rfl))
      refine dc_ixT x0 x200 ?_
      exact dc_ifI (fun _ => L152 0 (.inl rfl)) (fun _ => L152 1 (.inr rfl))
    · refine dc_ret ?_
      show dc_wp (mm_instant_L159 S2 x3) _
      have L170 : ∀ z : Int32, (z = 1 ∨ z = 2) → dc_wp (mm_instant_L170 S2 x3 z) (fun q => sb_IN S q.1) := by
        intro z hz
        unfold mm_instant_L170
        refine dc_letB ?_; intro S3 h3
        have i3 : sb_IN S S3 := by
          have f3 : md_fr [82] [] false false S2 S3 := by
            refine ⟨fun j hj => ?_, fun j _ => by rw [h3]; rfl, fun _ => by rw [h3]; rfl, fun _ => by rw [h3]; rfl⟩
            rw [h3, md_i1]; exact if_neg (fun h => hj (by rw [h]; decide))
          refine ⟨md_fr_tr i2.1 f3 (by decide), ⟨sb_PE_PF (sb_PE_fr f3 (by decide) (by decide)) i2.2.1.1, by rw [h3]; exact i2.2.1.2.1, by rw [h3]; exact i2.2.1.2.2⟩, by rw [f3.1 77 (by decide)]; exact i2.2.2.1, ?_⟩
          rw [show S3.1 82 = z by rw [h3]; rfl]; exact .inr hz
        exact dc_ifI (fun _ => dc_ret i3) (fun _ => dc_ret i3)
      unfold mm_instant_L159
      exact dc_ifI (fun _ => L170 1 (.inl rfl)) (fun _ => L170 2 (.inr rfl))
  have L41 : ∀ a b : Int32, (S.1 82 = 1 ∨ ¬ b = 0) → (S.1 82 = 1 → b = 0) → dc_wp (mm_instant_L41 S p a b) (fun q => (S.1 82 = 1 ∧ sb_IN S q.1) ∨ (¬ S.1 82 = 1 ∧ md_fr [0] [] false false S q.1)) := by
    intro a b hab hb0
    unfold mm_instant_L41
    refine dc_callI (dc_wpw (mm_fails_s S b a) (mm_fails_fr S b a)) ?_
    rintro q11 ⟨⟨c1, c2, c3, c4⟩, f11⟩
    refine dc_ifI (fun e => ?_) (fun e => ?_)
    · have hb : b = 0 := Classical.byContradiction (fun h => by rw [c3 h] at e; exact absurd e (by decide))
      have h82 : S.1 82 = 1 := hab.resolve_right (fun h => h hb)
      have v' := v h82
      have pe := sb_PE_fr f11 (by decide) (by decide)
      have v11 : sb_RV q11.1 := ⟨sb_PE_PF pe v'.1, ⟨by rw [f11.2.1 73 (by decide)]; exact v'.2.1.1, by rw [f11.2.1 71 (by decide)]; exact v'.2.1.2⟩, by rw [f11.2.1 74 (by decide)]; exact v'.2.2⟩
      refine dc_callI (mm_react_l v11 p) (fun q12 r12 => ?_)
      obtain ⟨⟨_, _, _, p45, p46, _, p47, p50⟩, _⟩ := v'.1
      have io := io_sum v'.1
      have f12 : md_fr [0, 77, 78, 79, 80, 81, 82, 83] [67, 70, 71, 72, 73, 74, 75, 76, 84] false false S q12.1 := md_fr_tr (md_fr_sub f11 (by decide) (by decide)) r12.1 (by decide)
      have i12 : sb_IN S q12.1 := ⟨f12, sb_RE_RV r12 v11, .inl ((r12.1.1 77 (by decide)).trans (f11.1 77 (by decide))), .inl ((r12.1.1 82 (by decide)).trans (f11.1 82 (by decide)))⟩
      unfold mm_instant_L58
      refine dc_mono (F := fun q => sb_IN S q.1) ?_ (fun q h => .inl ⟨h82, h⟩)
      refine dc_up ((S.1 45).toInt + (S.1 46).toInt) (by omega) (fun S2 => sb_IN S S2) i12 (by rw [il_0]; omega) ?_
      intro S2 x i2 x0 x1
      unfold mm_instant_s58 mm_instant_b58
      show dc_wp (if x < (S2.1 45) + (S2.1 46) then _ else _) _
      rw [i2.1.1 45 (by decide), i2.1.1 46 (by decide)]
      refine dc_ifI (fun hlt => ?_) (fun _ => ?_)
      · have hlt := i_lt.mp hlt
        rw [io.1] at hlt
        refine dc_ixT x0 (by show x.toInt < 1662; omega) ?_
        refine dc_ixT x0 (by show x.toInt < 62; omega) ?_
        refine dc_letB ?_; intro S4 h4
        have f4 : md_fr [] [84] false false S2 S4 := by
          refine ⟨fun j _ => by rw [h4]; rfl, fun j hj => ?_, fun _ => by rw [h4]; rfl, fun _ => by rw [h4]; rfl⟩
          rw [h4, md_a2]; exact if_neg (fun h => hj (by rw [h]; decide))
        exact dc_ret ⟨⟨md_fr_tr i2.1 f4 (by decide), ⟨sb_PE_PF (sb_PE_fr f4 (by decide) (by decide)) i2.2.1.1, ⟨by rw [f4.2.1 73 (by decide)]; exact i2.2.1.2.1.1, by rw [f4.2.1 71 (by decide)]; exact i2.2.1.2.1.2⟩, by rw [f4.2.1 74 (by decide)]; exact i2.2.1.2.2⟩, by rw [f4.1 77 (by decide)]; exact i2.2.2.1, by rw [f4.1 82 (by decide)]; exact i2.2.2.2⟩, rfl, hlt⟩
      · refine dc_ret ?_
        show dc_wp (mm_instant_L92 S2 q12.2) _
        unfold mm_instant_L92
        refine dc_ifI (fun _ => dc_ret i2) (fun _ => ?_)
        refine dc_letB ?_; intro S6 h6
        refine dc_letB ?_; intro S7 h7
        have f7 : md_fr [77, 83] [] false false S2 S7 := by
          refine ⟨fun j hj => ?_, fun j _ => by rw [h7, h6]; rfl, fun _ => by rw [h7, h6]; rfl, fun _ => by rw [h7, h6]; rfl⟩
          simp only [List.mem_cons, List.mem_nil_iff, or_false, not_or] at hj
          rw [h7, h6, md_i1, if_neg hj.1, md_i1, if_neg hj.2]
        refine L117 h82 S7 q12.2 ⟨md_fr_tr i2.1 f7 (by decide), ⟨sb_PE_PF (sb_PE_fr f7 (by decide) (by decide)) i2.2.1.1, by rw [h7, h6]; exact i2.2.1.2.1, by rw [h7, h6]; exact i2.2.1.2.2⟩, .inr (by rw [h7]; rfl), by rw [f7.1 82 (by decide)]; exact i2.2.2.2⟩
    · refine dc_ret ?_
      by_cases h82 : S.1 82 = 1
      · have v' := v h82
        have pe := sb_PE_fr f11 (by decide) (by decide)
        exact .inl ⟨h82, md_fr_sub f11 (by decide) (by decide), ⟨sb_PE_PF pe v'.1, ⟨by rw [f11.2.1 73 (by decide)]; exact v'.2.1.1, by rw [f11.2.1 71 (by decide)]; exact v'.2.1.2⟩, by rw [f11.2.1 74 (by decide)]; exact v'.2.2⟩, .inl (f11.1 77 (by decide)), .inl (f11.1 82 (by decide))⟩
      · exact .inr ⟨h82, f11⟩
  have L24 : ∀ a b : Int32, (a = 0 → ¬ S.1 82 = 1 ∧ ¬ b = 0) → (¬ a = 0 → S.1 82 = 1 ∧ b = 0) → dc_wp (mm_instant_L24 S p a b) (fun q => (S.1 82 = 1 ∧ sb_IN S q.1) ∨ (¬ S.1 82 = 1 ∧ md_fr [0] [] false false S q.1)) := by
    intro a b h1 h2
    unfold mm_instant_L24
    refine dc_ifI (fun e => L41 0 b (.inr (h1 e).2) (fun h => absurd h (h1 e).1)) (fun e => ?_)
    refine dc_callI (mm_isInput_s S p) (fun q _ => ?_)
    exact dc_ifI (fun _ => L41 1 b (.inl (h2 e).1) (fun _ => (h2 e).2)) (fun _ => L41 0 b (.inl (h2 e).1) (fun _ => (h2 e).2))
  unfold mm_instant
  refine dc_ifI (fun h => ?_) (fun h => ?_)
  · exact dc_ifN (by decide) (L24 1 0 (fun e => absurd e (by decide)) (fun _ => ⟨h, rfl⟩))
  · exact dc_ifP rfl (L24 0 1 (fun _ => ⟨h, by decide⟩) (fun e => absurd rfl e))
