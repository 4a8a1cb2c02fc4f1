/-! explore: all choices of inputs, all states -/
theorem iv_it {α β : Type} {step : α → Option (α ⊕ β)} {x : α} {z : β} (h : dc_it step x = some z) : (∃ y, step x = some (.inl y) ∧ dc_it step y = some z) ∨ step x = some (.inr z) := by
  rw [dc_it_eq] at h
  obtain ⟨a, h1, h2⟩ := iv_bind h
  cases a with
  | inl y => exact Or.inl ⟨y, h1, h2⟩
  | inr y =>
    have h2 : some y = some z := h2
    rw [Option.some.inj h2] at h1
    exact Or.inr h1
theorem sh_ins : ∀ ins, ins ≤ 4 → (1 : Int32) <<< (Int32.ofNat ins &&& (31 : Int32)) = Int32.ofNat (2 ^ ins) ∧ 1 ≤ 2 ^ ins ∧ 2 ^ ins ≤ 16 := by
  intro ins h
  have : ins = 0 ∨ ins = 1 ∨ ins = 2 ∨ ins = 3 ∨ ins = 4 := by omega
  rcases this with e | e | e | e | e <;> subst e <;> decide +kernel
section LPX
variable {G : hg_E} {S0 S : hg_S} {M0 M : md_S} {T : tT} {t0 u n ps sg io pa hA o ins out W cnt J I : Nat} {b : Nat → Nat} {R : Nat → Nat → Int32} {c : Nat → Int32} {F3 : Nat → Int32} {q : rsT} {hf : Nat → Int32}
theorem axC_n (h : axC q M J W W) : axC q M (J + 1) 0 W := fun j i hji => h j i (by omega)
theorem dcel_n {f : Nat → Int32} {j i : Nat} : dcel f (J + 1) 0 W j i ↔ dcel f J W W j i := by
  unfold dcel
  constructor
  · rintro ⟨h1, h2⟩
    exact ⟨by omega, h2⟩
  · rintro ⟨h1, h2⟩
    exact ⟨by omega, h2⟩
theorem axD_n {q' : rsT} (h : axD q M cnt J W W) (hJ : J < cnt) (e10 : q'.2 10 = q.2 10) (e13 : q'.2 13 = q.2 13) (e14 : q'.2 14 = q.2 14) (e11 : q'.2 11 = Int32.ofNat (stJ (M.2.1 92) W J + if rcI (M.2.1 92) J W = W then 1 else 0)) : axD q' M cnt (J + 1) 0 W := by
  obtain ⟨⟨d10, d11⟩, dd, ⟨m1, m2⟩, dn⟩ := h
  refine ⟨⟨by rw [e10, d10]; rfl, e11⟩, ?_, ⟨m1, fun hc j hj => ?_⟩, fun j i hji => dn.1 j i (by omega), dn.2⟩
  · rcases dd with ⟨g0, g⟩ | ⟨d, e, g1, g2, g3, g4, g5, g6⟩
    · exact Or.inl ⟨by rw [e13, g0], fun j i hd => g j i (dcel_n.mp hd)⟩
    · exact Or.inr ⟨d, e, g1, dcel_n.mpr g2, by rw [e13, g3], by rw [e14, g4], g5, fun j i hd => g6 j i (dcel_n.mp hd)⟩
  · have a1 := m2 hJ j hj
    have a2 := m1 J (J + 1) (by omega) hc
    omega
/-- the class's tryAll beside the reference's loop over the inputs -/
theorem try_w {r1 : Int32} {Mz : md_S} (hL : xpL t0 u hA o b) (hP : xpP G S0 M0 t0 u n ps sg io pa ins out R c T F3) (hX : xpW G S0 M0 u n ps sg io pa hA o b R F3 S M q) (hS : axS q M cnt pa) (hC : axC q M J 0 (2 ^ ins)) (hD : axD q M cnt J 0 (2 ^ ins)) (hJ : J < cnt) (h8 : q.2 8 = Int32.ofNat (2 ^ ins)) (hh : hg_at S.1 hA = some (.inl (G.1 2, pa, .inl hf))) (hz : dc_it (mm_explore_s149 r1 (Int32.ofNat J)) (M, 0) = some Mz) : dc_wp (hm_AT_tryAll G S o (M.2.1 88 J) (some u) (some (u + 18)) (some hA)) (fun S' => ∃ q' cnt' hf', xpW G S0 M0 u n ps sg io pa hA o b R F3 S' Mz q' ∧ cnt ≤ cnt' ∧ axS q' Mz cnt' pa ∧ axC q' Mz (J + 1) 0 (2 ^ ins) ∧ axD q' Mz cnt' (J + 1) 0 (2 ^ ins) ∧ q'.2 8 = Int32.ofNat (2 ^ ins) ∧ hg_at S'.1 hA = some (.inl (G.1 2, pa, .inl hf'))) := by
  have hP0 := hP
  have hL0 := hL
  obtain ⟨l1, l2, l3, l4, l5, l6⟩ := hL
  obtain ⟨-, -, e45, -, i4, -, -, pa8⟩ := hP
  obtain ⟨sh1, sh2, sh3⟩ := sh_ins ins i4
  have c257 := hS.1.2.2
  refine hdt_w hX.1.1 hh (by omega) ?_
  rintro S1 ⟨s1, s2, s3, hf1, s4, s5⟩
  have aw1 : AW G (S1, o, b) S1 q := AW_o hX.2.1 s1 (s3 o (fun e => l5 e.symm)) (fun i hi => s3 _ (fun e => l6 i hi e.symm))
  have X1 : xpW G S0 M0 u n ps sg io pa hA o b R F3 S1 M q := by
    obtain ⟨⟨x1, x2⟩, x3, x4, ⟨X, cn, x5', x6', x7⟩, x8, x9⟩ := hX
    refine ⟨⟨s1, s2.trans x2⟩, aw1, fun e e1 e2 e3 e4 => ?_, ⟨X, cn, REv_c x5' (fun i i1 i2 => ?_) (s3 _ (by omega)), x6', x7⟩, x8, x9⟩
    · rw [s3 e e4]; exact x4 e e1 e2 e3 e4
    · have := reB_b (u := u) i1 i2
      exact s3 _ (by omega)
  have d10 := hD.1.1
  delta hm_AT_tryAll_L36 hm_AT_tryAll_L45
  refine aw_i aw1 (i := 10) (by decide) (by decide) ?_
  have key := dc_itK (step := hm_AT_tryAll_s45 G o (M.2.1 88 J) (some u) (some (u + 18)) (some hA) (q.2 10)) (fun d (y : hg_S × Int32) => ∃ I M' q' cnt', y.2 = Int32.ofNat I ∧ I ≤ 2 ^ ins ∧ d = 2 ^ ins - I ∧ dc_it (mm_explore_s149 r1 (Int32.ofNat J)) (M', Int32.ofNat I) = some Mz ∧ xpW G S0 M0 u n ps sg io pa hA o b R F3 y.1 M' q' ∧ cnt ≤ cnt' ∧ axS q' M' cnt' pa ∧ axC q' M' J I (2 ^ ins) ∧ axD q' M' cnt' J I (2 ^ ins) ∧ q'.2 8 = Int32.ofNat (2 ^ ins) ∧ hg_at y.1.1 hA = some (.inl (G.1 2, pa, .inl hf1)) ∧ M'.2.1 88 J = M.2.1 88 J ∧ rcJ (M'.2.1 92) (2 ^ ins) J = rcJ (M.2.1 92) (2 ^ ins) J) (F := fun S' => ∃ q' cnt', xpW G S0 M0 u n ps sg io pa hA o b R F3 S' Mz q' ∧ cnt ≤ cnt' ∧ axS q' Mz cnt' pa ∧ axC q' Mz J (2 ^ ins) (2 ^ ins) ∧ axD q' Mz cnt' J (2 ^ ins) (2 ^ ins) ∧ q'.2 8 = Int32.ofNat (2 ^ ins) ∧ hg_at S'.1 hA = some (.inl (G.1 2, pa, .inl hf1)) ∧ rcJ (Mz.2.1 92) (2 ^ ins) J = rcJ (M.2.1 92) (2 ^ ins) J) (by
    rintro d ⟨Y, y⟩ ⟨I, M', q', cnt', ev, i1, ed, hit, gX, gc, gS, gC, gD, g8, gh, gJ, gr⟩
    have ev : y = Int32.ofNat I := ev
    subst ev
    have gX : xpW G S0 M0 u n ps sg io pa hA o b R F3 Y M' q' := gX
    have gh : hg_at Y.1 hA = some (.inl (G.1 2, pa, .inl hf1)) := gh
    have tI : (Int32.ofNat I).toInt = (I : Int) := Int32.toInt_ofNat_of_lt (by omega)
    have tW : (Int32.ofNat (2 ^ ins)).toInt = ((2 ^ ins : Nat) : Int) := Int32.toInt_ofNat_of_lt (by omega)
    have m45 : M'.1 45 = Int32.ofNat ins := by rw [gX.2.2.2.2.1.1 45 (by omega)]; exact e45
    show dc_wp (hm_AT_tryAll_b45 G Y o (M.2.1 88 J) (some u) (some (u + 18)) (some hA) (q.2 10) (Int32.ofNat I)) _
    by_cases c : I < 2 ^ ins
    · have hI2 : Int32.ofNat I < ((1 : Int32) <<< ((M'.1 45) &&& (31 : Int32))) := by
        rw [m45, sh1, i_lt, tI, tW]
        omega
      rw [← gJ]
      have run : ∀ z, mm_explore_b149 M' r1 (Int32.ofNat J) (Int32.ofNat I) = some z → dc_wp (hm_AT_tryAll_b45 G Y o (M'.2.1 88 J) (some u) (some (u + 18)) (some hA) (q.2 10) (Int32.ofNat I)) (fun y => ∃ S' M'' q'' cnt'', y = .inl (S', Int32.ofNat (I + 1)) ∧ z = .inl (M'', Int32.ofNat (I + 1)) ∧ xpW G S0 M0 u n ps sg io pa hA o b R F3 S' M'' q'' ∧ cnt' ≤ cnt'' ∧ axS q'' M'' cnt'' pa ∧ axC q'' M'' J (I + 1) (2 ^ ins) ∧ axD q'' M'' cnt'' J (I + 1) (2 ^ ins) ∧ q''.2 8 = q'.2 8 ∧ hg_at S'.1 hA = some (.inl (G.1 2, pa, .inl hf1)) ∧ M''.2.1 88 J = M'.2.1 88 J ∧ ∀ k, ¬ k = 16 * J + I → M''.2.1 92 k = M'.2.1 92 k) := fun z hz => stp_w hL0 hP0 gX gS gC gD (by omega) c sh3 g8 gh (by rw [gJ]; exact s5) hz hI2
      rcases iv_it hit with ⟨y2, h1, h2⟩ | h1
      · refine wq_w (run _ h1) ?_
        rintro y ⟨S', M'', q'', cnt'', k1, k2, k3, k4, k5, k6, k7, k8, k9, k10, k11⟩
        subst k1
        have k2 : y2 = (M'', Int32.ofNat (I + 1)) := Sum.inl.inj k2
        rw [k2] at h2
        refine ⟨2 ^ ins - (I + 1), by omega, I + 1, M'', q'', cnt'', rfl, by omega, rfl, h2, k3, by omega, k5, k6, k7, k8.trans g8, k9, k10, ?_⟩
        rw [← gr]
        exact rcJ_cg J (fun j k hj hk => by rw [k11 (16 * j + k) (by omega)])
      · obtain ⟨z, hz, S', M'', q'', cnt'', k1, k2, -⟩ := run _ h1
        cases k2
    · have ei : I = 2 ^ ins := by omega
      have hI2 : ¬ Int32.ofNat I < ((1 : Int32) <<< ((M'.1 45) &&& (31 : Int32))) := by
        rw [m45, sh1, i_lt, tI, tW]
        omega
      have em : M' = Mz := by
        rcases iv_it hit with ⟨y2, h1, h2⟩ | h1
        · rcases x149_r h1 with ⟨yes, -⟩ | ⟨-, e⟩
          · exact absurd yes hI2
          · cases e
        · rcases x149_r h1 with ⟨yes, -⟩ | ⟨-, e⟩
          · exact absurd yes hI2
          · exact (Sum.inr.inj e).symm
      delta hm_AT_tryAll_b45
      refine aw_i gX.2.1 (i := 8) (by decide) (by decide) ?_
      rw [g8, if_neg (by rw [i_lt, tI, tW]; omega)]
      rw [ei] at gC gD
      rw [em] at gX gS gC gD gr
      exact ⟨_, rfl, q', cnt', gX, gc, gS, gC, gD, g8, gh, gr⟩)
  refine wq_call (key (2 ^ ins) (S1, 0) ⟨0, M, q, cnt, rfl, Nat.zero_le _, rfl, hz, X1, Nat.le_refl _, hS, hC, hD, h8, s4, rfl, rfl⟩) ?_
  rintro S2 ⟨q2, cnt2, k1, k2, k3, k4, k5, k6, k7, k8⟩
  delta hm_AT_tryAll_L158
  refine aw_i k1.2.1 (i := 10) (by decide) (by decide) ?_
  refine aw_i k1.2.1 (i := 8) (by decide) (by decide) ?_
  have cond : ((q2.2 10 - q.2 10) = q2.2 8) ↔ rcI (Mz.2.1 92) J (2 ^ ins) = 2 ^ ins := by
    rw [k5.1.1, d10, k6, k8]
    have b1 := rcJ_le (f := M.2.1 92) sh3 J
    have b2 := rcI_le (f := Mz.2.1 92) (j := J) (2 ^ ins)
    have z0 : rcI (M.2.1 92) J 0 = 0 := rfl
    rw [z0, Nat.add_zero]
    generalize rcJ (M.2.1 92) (2 ^ ins) J = A at *
    generalize rcI (Mz.2.1 92) J (2 ^ ins) = B at *
    generalize 2 ^ ins = C at *
    have e : Int32.ofNat (A + B) - Int32.ofNat A = Int32.ofNat B := by
      rw [Int32.ofNat_add, Int32.add_comm, Int32.add_sub_cancel]
    rw [e]
    have t1 : (Int32.ofNat B).toInt = (B : Int) := Int32.toInt_ofNat_of_lt (by omega)
    have t2 : (Int32.ofNat C).toInt = (C : Int) := Int32.toInt_ofNat_of_lt (by omega)
    rw [i_eq, t1, t2]
    omega
  have d11 := k5.1.2
  have sl := stJ_le (f := Mz.2.1 92) (W := 2 ^ ins) J
  refine wq_if (fun cc => ?_) (fun cc => ?_)
  · refine aw_i k1.2.1 (i := 11) (by decide) (by decide) ?_
    refine aw_f k1.2.1 (j := 11) (by decide) (by decide) (fun S3 g3 => ?_)
    delta hm_AT_tryAll_L182
    have hn : ∀ e, e ≠ o → (∀ i, i < 8 → e ≠ b i) → hg_at S3.1 e = hg_at S2.1 e := g3.2.2
    refine ⟨_, rfl, uC q2 11 (q2.2 11 + 1), cnt2, hf1, ?_, k2, axS_k k3 (fun _ _ _ => rfl) (uC_n (by omega)) rfl (fun _ _ _ => rfl), axC_n k4, axD_n k5 (by omega) (uC_n (by omega)) (uC_n (by omega)) (uC_n (by omega)) ?_, ?_, ?_⟩
    · obtain ⟨⟨x1, x2⟩, x3, x4, ⟨X, cn, x5', x6', x7⟩, x8, x9⟩ := k1
      refine ⟨⟨g3.1.1, g3.1.2.1.trans x2⟩, AW_b g3, fun e e1 e2 e3 e4 => ?_, ⟨X, cn, REv_c x5' (fun i i1 i2 => ?_) (hn _ (by omega) (fun i hi => by have := l3 i hi; omega)), x6', x7⟩, x8, x9⟩
      · rw [hn e e1 e2]; exact x4 e e1 e2 e3 e4
      · have := reB_b (u := u) i1 i2
        exact hn _ (by omega) (fun i hi => by have := l3 i hi; omega)
    · rw [uC_s, d11, if_pos (cond.mp cc), ad_m (by omega)]
    · rw [uC_n (by omega), k6]
    · rw [hn hA l5 l6, k7]
  · delta hm_AT_tryAll_L182
    refine ⟨_, rfl, q2, cnt2, hf1, k1, k2, k3, axC_n k4, axD_n k5 (by omega) rfl rfl rfl ?_, k6, k7⟩
    rw [d11, if_neg (fun z => cc (cond.mpr z)), Nat.add_zero]
/-- all states: the class's survey beside the reference's loop -/
theorem svy_w {r1 : Int32} {Mz : md_S} (hL : xpL t0 u hA o b) (hP : xpP G S0 M0 t0 u n ps sg io pa ins out R c T F3) (hX : xpW G S0 M0 u n ps sg io pa hA o b R F3 S M q) (hS : axS q M cnt pa) (hC : axC q M 0 0 (2 ^ ins)) (hD : axD q M cnt 0 0 (2 ^ ins)) (h8 : q.2 8 = Int32.ofNat (2 ^ ins)) (hh : hg_at S.1 hA = some (.inl (G.1 2, pa, .inl hf))) (hz : dc_it (mm_explore_s139 r1) (M, 0) = some Mz) : dc_wp (dc_it (hm_AT_survey_s57 G o (some u) (some (u + 18)) (some hA)) (S, 0)) (fun S' => ∃ q' cnt' hf', xpW G S0 M0 u n ps sg io pa hA o b R F3 S' Mz q' ∧ axS q' Mz cnt' pa ∧ axC q' Mz cnt' 0 (2 ^ ins) ∧ axD q' Mz cnt' cnt' 0 (2 ^ ins) ∧ q'.2 8 = Int32.ofNat (2 ^ ins) ∧ hg_at S'.1 hA = some (.inl (G.1 2, pa, .inl hf'))) := by
  refine dc_itK (fun d (y : hg_S × Int32) => ∃ J M' q' cnt' hf', y.2 = Int32.ofNat J ∧ J ≤ cnt' ∧ d = 257 - J ∧ dc_it (mm_explore_s139 r1) (M', Int32.ofNat J) = some Mz ∧ xpW G S0 M0 u n ps sg io pa hA o b R F3 y.1 M' q' ∧ axS q' M' cnt' pa ∧ axC q' M' J 0 (2 ^ ins) ∧ axD q' M' cnt' J 0 (2 ^ ins) ∧ q'.2 8 = Int32.ofNat (2 ^ ins) ∧ hg_at y.1.1 hA = some (.inl (G.1 2, pa, .inl hf'))) ?_ 257 (S, 0) ⟨0, M, q, cnt, hf, rfl, Nat.zero_le _, rfl, hz, hX, hS, hC, hD, h8, hh⟩
  rintro d ⟨Y, y⟩ ⟨J, M', q', cnt', hf', ev, j1, ed, hit, gX, gS, gC, gD, g8, gh⟩
  have ev : y = Int32.ofNat J := ev
  subst ev
  have gX : xpW G S0 M0 u n ps sg io pa hA o b R F3 Y M' q' := gX
  have gh : hg_at Y.1 hA = some (.inl (G.1 2, pa, .inl hf')) := gh
  have c257 := gS.1.2.2
  have tJ : (Int32.ofNat J).toInt = (J : Int) := Int32.toInt_ofNat_of_lt (by omega)
  have tJn : (Int32.ofNat J).toInt.toNat = J := by omega
  have tc : (Int32.ofNat cnt').toInt = (cnt' : Int) := Int32.toInt_ofNat_of_lt (by omega)
  have w5 : (wN 5 : Int) = 257 := rfl
  show dc_wp (hm_AT_survey_b57 G Y o (some u) (some (u + 18)) (some hA) (Int32.ofNat J)) _
  delta hm_AT_survey_b57
  refine aw_i gX.2.1 (i := 9) (by decide) (by decide) ?_
  rw [gS.1.1]
  by_cases cc : J < cnt'
  · rw [if_pos (by rw [i_lt, tJ, tc]; omega), if_pos (by rw [i_lt, tJ, il_257]; omega)]
    refine aw_g gX.2.1 (i := 5) (by decide) ?_
    refine aw_l gX.2.1 (i := 5) (by decide) (by omega) (by omega) ?_
    rw [tJn, (gS.2.1 J cc).2.2.1]
    refine aw_c gX.2.1 ?_
    have run : ∀ z, mm_explore_b139 M' r1 (Int32.ofNat J) = some z → ∃ Mw, dc_it (mm_explore_s149 r1 (Int32.ofNat J)) (M', 0) = some Mw ∧ z = .inl (Mw, Int32.ofNat (J + 1)) := by
      intro z hz
      delta mm_explore_b139 at hz
      rw [if_pos (by rw [gS.1.2.1, i_lt, tJ, tc]; omega)] at hz
      delta mm_explore_L149 at hz
      obtain ⟨Mw, h1, h2⟩ := iv_bind hz
      delta mm_explore_L335 at h2
      exact ⟨Mw, h1, by rw [← Option.some.inj h2, ad_m (by omega)]⟩
    rcases iv_it hit with ⟨y2, h1, h2⟩ | h1
    · obtain ⟨Mw, h3, h4⟩ := run _ h1
      have h4 : y2 = (Mw, Int32.ofNat (J + 1)) := Sum.inl.inj h4
      rw [h4] at h2
      refine wq_call (try_w hL hP gX gS gC gD cc g8 gh h3) ?_
      rintro S' ⟨q'', cnt'', hf'', k1, k2, k3, k4, k5, k6, k7⟩
      exact ⟨_, rfl, 257 - (J + 1), by omega, J + 1, Mw, q'', cnt'', hf'', ad_m (by omega), by omega, rfl, h2, k1, k3, k4, k5, k6, k7⟩
    · obtain ⟨Mw, h3, h4⟩ := run _ h1
      cases h4
  · have ej : J = cnt' := by omega
    have run : ∀ z, mm_explore_b139 M' r1 (Int32.ofNat J) = some z → z = .inr M' := by
      intro z hz
      delta mm_explore_b139 at hz
      rw [if_neg (by rw [gS.1.2.1, i_lt, tJ, tc]; omega)] at hz
      exact (Option.some.inj hz).symm
    have em : M' = Mz := by
      rcases iv_it hit with ⟨y2, h1, h2⟩ | h1
      · have := run _ h1
        cases this
      · exact (Sum.inr.inj (run _ h1)).symm
    rw [if_neg (by rw [i_lt, tJ, tc]; omega)]
    rw [ej] at gC gD
    rw [em] at gX gS gC gD
    exact ⟨_, rfl, q', cnt', hf', gX, gS, gC, gD, g8, gh⟩
end LPX
