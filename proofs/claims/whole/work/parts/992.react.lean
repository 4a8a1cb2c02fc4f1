theorem io_sum {S : md_S} (p : sb_PF S) : (S.1 45 + S.1 46).toInt = (S.1 45).toInt + (S.1 46).toInt ∧ 0 ≤ (S.1 45).toInt + (S.1 46).toInt ∧ (S.1 45).toInt + (S.1 46).toInt ≤ 62 := by
  obtain ⟨⟨_, _, _, p45, p46, _⟩, _⟩ := p
  exact ⟨ar2 p45.1 (by omega) p46.1 (by omega), by omega, by omega⟩
theorem mm_react_l {S : md_S} (v : sb_RV S) (p : Int32) : dc_wp (mm_react S p) (fun q => sb_RE S q.1) := by
  obtain ⟨⟨_, _, _, p45, p46, _, p47, p50⟩, _⟩ := v.1
  have io := io_sum v.1
  have eI : ∀ {q : md_S}, sb_RE S q → (q.1 45 = S.1 45 ∧ q.1 46 = S.1 46 ∧ q.1 47 = S.1 47 ∧ q.1 50 = S.1 50 ∧ q.1 77 = S.1 77) := fun h => ⟨h.1.1 45 (by decide), h.1.1 46 (by decide), h.1.1 47 (by decide), h.1.1 50 (by decide), h.1.1 77 (by decide)⟩
  -- the end: outputs without a status
  have L206 : ∀ S1, sb_RE S S1 → dc_wp (mm_react_L206 S1) (fun q => sb_RE S q.1) := by
    intro S1 r
    unfold mm_react_L206
    refine dc_letB ?_; rintro _ rfl
    refine dc_letB ?_; rintro _ rfl
    unfold mm_react_L217
    refine dc_up ((S.1 45).toInt + (S.1 46).toInt) (by omega) (fun S2 => sb_RE S S2) r (by rw [(eI r).1]; omega) ?_
    intro S2 x r2 x0 x1
    obtain ⟨a1, a2, a3, a4, a5⟩ := eI r2
    unfold mm_react_s217 mm_react_b217
    show dc_wp (if x < (S2.1 45) + (S2.1 46) then _ else _) _
    rw [a1, a2]
    refine dc_ifI (fun hlt => ?_) (fun _ => ?_)
    · have hlt := i_lt.mp hlt
      rw [io.1] at hlt
      have L255 : ∀ z, sb_bo z → dc_wp (mm_react_L255 S2 (S1.1 80) x z) (Sum.elim (fun y => sb_RE S y.1 ∧ y.2 = x + 1 ∧ x.toInt < (S.1 45).toInt + (S.1 46).toInt) (fun z => dc_wp (mm_react_L264 z (S1.1 80)) (fun q => sb_RE S q.1))) := by
        intro z hz
        unfold mm_react_L255
        refine dc_zbI hz ?_
        refine dc_letB ?_; rintro _ rfl
        exact dc_ret ⟨sb_RE_i r2 (by decide), rfl, hlt⟩
      refine dc_ifI (fun _ => ?_) (fun _ => L255 1 (.inr rfl))
      refine dc_ixT x0 (by show x.toInt < 1662; omega) ?_
      exact dc_ifI (fun _ => L255 1 (.inr rfl)) (fun _ => L255 0 (.inl rfl))
    · refine dc_ret ?_
      show dc_wp (mm_react_L264 S2 (S1.1 80)) _
      unfold mm_react_L264
      exact dc_ifI (fun _ => dc_ret r2) (fun _ => dc_ret r2)
  -- one round
  have L178 : ∀ S1, sb_RE S S1 → dc_wp (mm_react_L178 S1) (Sum.elim (fun z => sb_RE S z.1 ∧ (z.2 = 0 ∨ z.2 = 1) ∧ (sb_un (z.1.2.1 70) (S.1 50).toInt.toNat : Int) + z.2.toInt ≤ (sb_un (S1.2.1 70) (S.1 50).toInt.toNat : Int)) (fun z => False)) := by
    intro S1 r
    unfold mm_react_L178
    refine dc_letB ?_; intro S6 h6
    refine dc_letB ?_; intro S7 h7
    have r7 : sb_RE S S7 := by rw [h7, h6]; exact sb_RE_i (sb_RE_i r (by decide)) (by decide)
    have e79 : S7.1 79 = 1 := by rw [h7, h6]; rfl
    have e70 : S7.2.1 70 = S1.2.1 70 := by rw [h7, h6]; rfl
    clear h7 h6
    refine dc_callI (mm_run_l (sb_RE_RV r7 v) (S7.1 77) 1 (fun _ => e79) (.inr rfl)) (fun q8 r8 => ?_)
    have r8' := sb_RE_RQ r7 r8
    obtain ⟨a1, a2, a3, a4, a5⟩ := eI r8'
    refine dc_callI (dc_wpw (mm_learns_l (S := q8) (by rw [a1]; exact p45) (by rw [a4]; exact p50)) (mm_learns_fr q8)) ?_
    rintro q9 ⟨⟨b1, b2⟩, f9⟩
    rw [a4, r8.1.2.1 70 (by decide), e70] at b2
    refine dc_ret ⟨⟨md_fr_tr r8'.1 f9 (by decide), ⟨by rw [f9.2.1 73 (by decide)]; exact r8'.2.1, by rw [f9.2.1 71 (by decide)]; exact r8'.2.2⟩⟩, b1, b2⟩
  have L157 : ∀ S1 S0, sb_RE S S1 → S1.2.1 70 = S0 → dc_wp (mm_react_L157 S1 0) (Sum.elim (fun z => sb_RE S z.1 ∧ (z.2 = 0 ∨ z.2 = 1) ∧ (sb_un (z.1.2.1 70) (S.1 50).toInt.toNat : Int) + z.2.toInt ≤ (sb_un S0 (S.1 50).toInt.toNat : Int)) (fun z => False)) := by
    intro S1 S0 r e0
    unfold mm_react_L157
    refine dc_up (S.1 47).toInt (by omega) (fun S2 => sb_RE S S2 ∧ S2.2.1 70 = S0) ⟨r, e0⟩ (by rw [il_0]; omega) ?_
    rintro S2 x ⟨r2, e2⟩ x0 x1
    obtain ⟨a1, a2, a3, a4, a5⟩ := eI r2
    unfold mm_react_s157 mm_react_b157
    show dc_wp (if x < (S2.1 47) then _ else _) _
    rw [a3]
    refine dc_ifI (fun hlt => ?_) (fun _ => ?_)
    · have hlt := i_lt.mp hlt
      refine dc_ixT x0 (by show x.toInt < 200; omega) ?_
      refine dc_letB ?_; rintro _ rfl
      exact dc_ret ⟨⟨sb_RE_a r2 (by decide), e2⟩, rfl, hlt⟩
    · refine dc_ret ?_
      rw [← e2]
      exact L178 S2 r2
  have L129 : ∀ S1 S0, sb_RE S S1 → S1.2.1 70 = S0 → dc_wp (mm_react_L129 S1 0) (Sum.elim (fun z => sb_RE S z.1 ∧ (z.2 = 0 ∨ z.2 = 1) ∧ (sb_un (z.1.2.1 70) (S.1 50).toInt.toNat : Int) + z.2.toInt ≤ (sb_un S0 (S.1 50).toInt.toNat : Int)) (fun z => False)) := by
    intro S1 S0 r e0
    unfold mm_react_L129
    refine dc_up ((S.1 45).toInt + (S.1 46).toInt) (by omega) (fun S2 => sb_RE S S2 ∧ S2.2.1 70 = S0) ⟨r, e0⟩ (by rw [il_0]; omega) ?_
    rintro S2 x ⟨r2, e2⟩ x0 x1
    obtain ⟨a1, a2, a3, a4, a5⟩ := eI r2
    unfold mm_react_s129 mm_react_b129
    show dc_wp (if x < (S2.1 45) + (S2.1 46) then _ else _) _
    rw [a1, a2]
    refine dc_ifI (fun hlt => ?_) (fun _ => ?_)
    · have hlt := i_lt.mp hlt
      rw [io.1] at hlt
      refine dc_ixT x0 (by show x.toInt < 400; omega) ?_
      refine dc_letB ?_; rintro _ rfl
      exact dc_ret ⟨⟨sb_RE_73 (x := x) r2 ⟨x0, by omega⟩, e2⟩, rfl, hlt⟩
    · refine dc_ret ?_
      exact L157 S2 S0 r2 e2
  have L99 : ∀ S1 S0, sb_RE S S1 → S1.2.1 70 = S0 → dc_wp (mm_react_L99 S1 0) (Sum.elim (fun z => sb_RE S z.1 ∧ (z.2 = 0 ∨ z.2 = 1) ∧ (sb_un (z.1.2.1 70) (S.1 50).toInt.toNat : Int) + z.2.toInt ≤ (sb_un S0 (S.1 50).toInt.toNat : Int)) (fun z => False)) := by
    intro S1 S0 r e0
    unfold mm_react_L99
    refine dc_up (S.1 50).toInt (by omega) (fun S2 => sb_RE S S2 ∧ S2.2.1 70 = S0) ⟨r, e0⟩ (by rw [il_0]; omega) ?_
    rintro S2 x ⟨r2, e2⟩ x0 x1
    obtain ⟨a1, a2, a3, a4, a5⟩ := eI r2
    unfold mm_react_s99 mm_react_b99
    show dc_wp (if x < (S2.1 50) then _ else _) _
    rw [a4]
    refine dc_ifI (fun hlt => ?_) (fun _ => ?_)
    · have hlt := i_lt.mp hlt
      refine dc_ixT x0 (by show x.toInt < 1662; omega) ?_
      refine dc_letB ?_; rintro _ rfl
      refine dc_ixT x0 (by show x.toInt < 1662; omega) ?_
      refine dc_letB ?_; rintro _ rfl
      exact dc_ret ⟨⟨sb_RE_71 (sb_RE_a r2 (by decide)), e2⟩, rfl, hlt⟩
    · refine dc_ret ?_
      exact L129 S2 S0 r2 e2
  have L93 : ∀ S1, sb_RE S S1 → dc_wp (mm_react_L93 S1 1) (fun q => sb_RE S q.1) := by
    intro S1 r
    unfold mm_react_L93
    refine dc_loopI (fun z => sb_RE S z.1 ∧ (z.2 = 0 ∨ z.2 = 1)) (fun z => 2 * sb_un (z.1.2.1 70) (S.1 50).toInt.toNat + z.2.toInt.toNat) ⟨r, .inr rfl⟩ ?_
    rintro ⟨S2, x⟩ ⟨r2, hx⟩
    replace r2 : sb_RE S S2 := r2
    replace hx : x = 0 ∨ x = 1 := hx
    unfold mm_react_s93 mm_react_b93
    refine dc_ifI (fun _ => dc_ret (L206 S2 r2)) (fun hn => ?_)
    have hx1 : x = 1 := hx.resolve_left hn
    refine dc_mono (L99 S2 _ r2 rfl) ?_
    rintro (⟨S3, z⟩ | z) hz
    · obtain ⟨b1, b2, b3⟩ := hz
      replace b2 : z = 0 ∨ z = 1 := b2
      replace b3 : (sb_un (S3.2.1 70) (S.1 50).toInt.toNat : Int) + z.toInt ≤ (sb_un (S2.2.1 70) (S.1 50).toInt.toNat : Int) := b3
      refine ⟨⟨b1, b2⟩, ?_⟩
      show 2 * sb_un (S3.2.1 70) (S.1 50).toInt.toNat + z.toInt.toNat < 2 * sb_un (S2.2.1 70) (S.1 50).toInt.toNat + x.toInt.toNat
      rw [hx1]
      rcases b2 with b2 | b2
      · rw [b2, il_0] at b3; rw [b2]; show _ + 0 < _ + 1; omega
      · rw [b2, il_1] at b3; rw [b2]; show _ + 1 < _ + 1; omega
    · exact hz.elim
  -- the start
  have L54 : ∀ S1, sb_RE S S1 → dc_wp (mm_react_L54 S1 p 0) (fun q => sb_RE S q.1) := by
    intro S1 r
    unfold mm_react_L54
    refine dc_up (S.1 50).toInt (by omega) (fun S2 => sb_RE S S2) r (by rw [il_0]; omega) ?_
    intro S2 x r2 x0 x1
    obtain ⟨a1, a2, a3, a4, a5⟩ := eI r2
    unfold mm_react_s54 mm_react_b54
    show dc_wp (if x < (S2.1 50) then _ else _) _
    rw [a4]
    refine dc_ifI (fun hlt => ?_) (fun _ => dc_ret (L93 S2 r2))
    have hlt := i_lt.mp hlt
    have L84 : ∀ z, dc_wp (mm_react_L84 S2 p x z x) (Sum.elim (fun y => sb_RE S y.1 ∧ y.2 = x + 1 ∧ x.toInt < (S.1 50).toInt) (fun z => dc_wp (mm_react_L91 z) (fun q => sb_RE S q.1))) := by
      intro z
      unfold mm_react_L84
      refine dc_ixT x0 (by show x.toInt < 1662; omega) ?_
      refine dc_letB ?_; rintro _ rfl
      exact dc_ret ⟨sb_RE_a r2 (by decide), rfl, hlt⟩
    exact dc_ifI (fun _ => L84 _) (fun _ => L84 _)
  unfold mm_react
  refine dc_ixT (by decide) (by decide) ?_
  refine dc_letB ?_; rintro _ rfl
  unfold mm_react_L9
  refine dc_up (S.1 47).toInt (by omega) (fun S2 => sb_RE S S2) (sb_RE_a (sb_RE_rf v.2.1) (by decide)) (by rw [il_0]; omega) ?_
  intro S2 x r2 x0 x1
  obtain ⟨a1, a2, a3, a4, a5⟩ := eI r2
  unfold mm_react_s9 mm_react_b9
  show dc_wp (if x < (S2.1 47) then _ else _) _
  rw [a3]
  refine dc_ifI (fun hlt => ?_) (fun _ => dc_ret (L54 S2 r2))
  have hlt := i_lt.mp hlt
  have e := ar1 x0 (by omega)
  have L44 : ∀ z w, dc_wp (mm_react_L44 S2 p x z w (x + 1)) (Sum.elim (fun y => sb_RE S y.1 ∧ y.2 = x + 1 ∧ x.toInt < (S.1 47).toInt) (fun z => dc_wp (mm_react_L52 z p) (fun q => sb_RE S q.1))) := by
    intro z w
    unfold mm_react_L44
    refine dc_ixT (by omega) (by show (x + 1).toInt < 201; omega) ?_
    refine dc_letB ?_; rintro _ rfl
    exact dc_ret ⟨sb_RE_a r2 (by decide), rfl, hlt⟩
  refine dc_ixT x0 (by show x.toInt < 201; omega) ?_
  refine dc_ixT x0 (by show x.toInt < 200; omega) ?_
  exact dc_ifI (fun _ => L44 _ _) (fun _ => L44 _ _)
