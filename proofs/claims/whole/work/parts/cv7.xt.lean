/-! the reference's explore, whole, comes to its end -/
/-- states met, cells filled -/
def xpJ (K : md_S → Prop) (Y : md_S) (cnt ins out pa J I : Nat) : Prop := K Y ∧ (Y.1 45 = Int32.ofNat ins ∧ Y.1 46 = Int32.ofNat out ∧ Y.1 47 = Int32.ofNat pa ∧ Y.1 87 = Int32.ofNat cnt ∧ cnt ≤ 257) ∧ (∀ j, j < cnt → 0 ≤ (Y.2.1 88 j).toInt ∧ (Y.2.1 88 j).toInt < 257) ∧ (∀ i j, i < cnt → j < cnt → Y.2.1 88 i = Y.2.1 88 j → i = j) ∧ (∀ p, p < 200 → Y.2.1 74 p = 0 ∨ Y.2.1 74 p = 1) ∧ ∀ j i, (j < J ∧ i < 2 ^ ins) ∨ (j = J ∧ i < I) → Y.2.1 92 (16 * j + i) = -1 ∨ Y.2.1 92 (16 * j + i) = 257 ∨ ∃ k, k < cnt ∧ Y.2.1 92 (16 * j + i) = Y.2.1 88 k
section XTW
variable {K : md_S → Prop} {M Y : md_S} {x1 : Int32} {cnt ins out pa J I : Nat}
theorem pl_74 {S r : md_S} {x : Int32} (hq : mm_place S x = some r) : ∀ p, p < 200 → r.2.1 74 p = 0 ∨ r.2.1 74 p = 1 := fun p hp => by
  rw [(place_r hq).2.2.2 p hp]
  split
  · exact Or.inr rfl
  · exact Or.inl rfl
theorem x149_t (hK : exK K) (i4 : ins ≤ 4) (o31 : out ≤ 31) (p8 : pa ≤ 8) (hJ : J < cnt) (hI : I < 2 ^ ins) (h : xpJ K Y cnt ins out pa J I) : dc_wp (mm_explore_b149 Y x1 (Int32.ofNat J) (Int32.ofNat I)) (fun z => ∃ Z cnt', z = .inl (Z, Int32.ofNat (I + 1)) ∧ cnt ≤ cnt' ∧ xpJ K Z cnt' ins out pa J (I + 1)) := by
  obtain ⟨k0, ⟨e45, e46, e47, e87, c257⟩, hr, hd, h74, hc⟩ := h
  obtain ⟨s1, s2, s3⟩ := sh_ins ins i4
  have tI : (Int32.ofNat I).toInt = (I : Int) := Int32.toInt_ofNat_of_lt (by omega)
  have tJ : (Int32.ofNat J).toInt = (J : Int) := Int32.toInt_ofNat_of_lt (by omega)
  have tw : (Int32.ofNat (2 ^ ins)).toInt = ((2 ^ ins : Nat) : Int) := Int32.toInt_ofNat_of_lt (by omega)
  delta mm_explore_b149
  rw [e45, s1, if_pos (by rw [i_lt, tI, tw]; omega)]
  refine wq_ix (by omega) (by omega) ?_
  rw [show (Int32.ofNat J).toInt.toNat = J by omega]
  obtain ⟨P, hP, -⟩ := pl_t (S := Y) (Y.2.1 88 J)
  rw [hP]
  obtain ⟨pl1, pl2, pl3, -⟩ := place_r hP
  have pl4 := pl_74 hP
  have kP : K P := hK.2 Y P k0 (fun i hi => pl1 i (by omega)) (fun i hi => pl3 i (by omega)) pl4
  show dc_wp ((mm_react P (Int32.ofNat I)).bind _) _
  refine wq_call (hK.1 P (Int32.ofNat I) kP) ?_
  rintro ⟨R, a⟩ ⟨kR, fr⟩
  have kR : K R := kR
  have fr1 : ∀ i, i < 78 ∨ 81 < i → R.1 i = P.1 i := fun i hi => fr.1 i (by simp; omega)
  have fr2 : ∀ i, i = 74 ∨ 84 ≤ i → R.2.1 i = P.2.1 i := fun i hi => fr.2.1 i (by simp; omega)
  have n1 : ∀ i, i = 45 ∨ i = 46 ∨ i = 47 ∨ i = 87 → R.1 i = Y.1 i := fun i hi => by rw [fr1 i (by omega), pl1 i (by omega)]
  have n2 : ∀ i, 84 ≤ i → R.2.1 i = Y.2.1 i := fun i hi => by rw [fr2 i (by omega), pl3 i (by omega)]
  have hcl : 16 * Int32.ofNat J + Int32.ofNat I = Int32.ofNat (16 * J + I) := by
    rw [Int32.ofNat_add, Int32.ofNat_mul]; rfl
  have go : dc_wp (mm_explore_L188 R x1 (Int32.ofNat J) (Int32.ofNat I) a (if a = 0 then 257 else -1)) (fun z => ∃ Z cnt', z = .inl (Z, Int32.ofNat (I + 1)) ∧ cnt ≤ cnt' ∧ xpJ K Z cnt' ins out pa J (I + 1)) := by
    refine wq_w (x188_t (cl := 16 * J + I) (cnt := cnt) p8 (by rw [n1 47 (by omega)]; exact e47) c257 (by rw [n1 87 (by omega)]; exact e87) o31 (by rw [n1 45 (by omega)]; exact e45) (by omega) (by rw [n1 46 (by omega)]; exact e46) hcl (by omega) (by omega) rfl (by rw [n2 88 (by omega)]; exact hr) (by rw [n2 88 (by omega)]; exact hd)) ?_
    rintro z ⟨Z, ez, hA⟩
    obtain ⟨b1, -⟩ := oB_b (σ := R.2.1 75) p8
    have r74 : ∀ p, p < 200 → R.2.1 74 p = 0 ∨ R.2.1 74 p = 1 := by rw [fr2 74 (by omega)]; exact pl4
    -- the cells of before
    have cel : ∀ (cnt' : Nat) (v : Int32), cnt ≤ cnt' → (∀ j, j < cnt → Z.2.1 88 j = Y.2.1 88 j) → Z.2.1 92 = upd (Y.2.1 92) (16 * J + I) v → (v = -1 ∨ v = 257 ∨ ∃ k, k < cnt' ∧ v = Z.2.1 88 k) → ∀ j i, (j < J ∧ i < 2 ^ ins) ∨ (j = J ∧ i < I + 1) → Z.2.1 92 (16 * j + i) = -1 ∨ Z.2.1 92 (16 * j + i) = 257 ∨ ∃ k, k < cnt' ∧ Z.2.1 92 (16 * j + i) = Z.2.1 88 k := fun cnt' v hle h88 h92 hv j i hij => by
      rw [h92]
      by_cases e : j = J ∧ i = I
      · rw [e.1, e.2, upd_s]; exact hv
      · rw [upd_n (by omega)]
        rcases hc j i (by omega) with w | w | ⟨k, k1, k2⟩
        · exact Or.inl w
        · exact Or.inr (Or.inl w)
        · exact Or.inr (Or.inr ⟨k, by omega, by rw [h88 k k1]; exact k2⟩)
    rcases hA with ⟨a1, r, hm, ⟨g1, g2, g3, -⟩⟩ | ⟨a1, ⟨g1, g2, g3, -⟩⟩
    · rcases hm with ⟨⟨j0, j1, j2⟩, er⟩ | ⟨hn, hlt, m1, m2, m3, m4, -⟩
      · rw [er] at g1 g2 g3
        have z88 : Z.2.1 88 = Y.2.1 88 := by rw [g2 88 (by decide) (by decide), n2 88 (by omega)]
        refine ⟨Z, cnt, by rw [ez, ad_m (by omega)], Nat.le_refl _, hK.2 R Z kR (fun i _ => by rw [g1]) (fun i hi => g2 i (by omega) (by omega)) (by rw [g2 74 (by decide) (by decide)]; exact r74), ⟨by rw [g1, n1 45 (by omega)]; exact e45, by rw [g1, n1 46 (by omega)]; exact e46, by rw [g1, n1 47 (by omega)]; exact e47, by rw [g1, n1 87 (by omega)]; exact e87, c257⟩, by rw [z88]; exact hr, by rw [z88]; exact hd, by rw [g2 74 (by decide) (by decide)]; exact r74, ?_⟩
        refine cel cnt _ (Nat.le_refl _) (fun j _ => by rw [z88]) (by rw [g3, n2 92 (by omega)]) (Or.inr (Or.inr ⟨j0, j1, ?_⟩))
        rw [z88, ← n2 88 (by omega)]; exact j2.symm
      · have z88 : Z.2.1 88 = upd (Y.2.1 88) cnt (oB (thB (R.2.1 75)) pa) := by rw [g2 88 (by decide) (by decide), m4, n2 88 (by omega)]
        have zo : ∀ j, j < cnt → Z.2.1 88 j = Y.2.1 88 j := fun j hj => by rw [z88, upd_n (by omega)]
        have zc : Z.2.1 88 cnt = oB (thB (R.2.1 75)) pa := by rw [z88, upd_s]
        have nn : ∀ j, j < cnt → ¬ Z.2.1 88 j = Z.2.1 88 cnt := fun j hj e => hn j hj (by rw [n2 88 (by omega), ← zo j hj, e, zc])
        refine ⟨Z, cnt + 1, by rw [ez, ad_m (by omega)], by omega, hK.2 R Z kR (fun i hi => by rw [g1, m1 i (by omega)]) (fun i hi => by rw [g2 i (by omega) (by omega), m3 i (by omega)]) (by rw [g2 74 (by decide) (by decide), m3 74 (by decide)]; exact r74), ⟨by rw [g1, m1 45 (by decide), n1 45 (by omega)]; exact e45, by rw [g1, m1 46 (by decide), n1 46 (by omega)]; exact e46, by rw [g1, m1 47 (by decide), n1 47 (by omega)]; exact e47, by rw [g1]; exact m2, by omega⟩, fun j hj => ?_, fun i j hi' hj e => ?_, by rw [g2 74 (by decide) (by decide), m3 74 (by decide)]; exact r74, ?_⟩
        · by_cases ej : j = cnt
          · rw [ej, zc]; omega
          · rw [zo j (by omega)]; exact hr j (by omega)
        · by_cases ci : i = cnt
          · by_cases cj : j = cnt
            · omega
            · rw [ci] at e
              exact absurd e.symm (nn j (by omega))
          · by_cases cj : j = cnt
            · rw [cj] at e
              exact absurd e (nn i (by omega))
            · rw [zo i (by omega), zo j (by omega)] at e
              exact hd i j (by omega) (by omega) e
        · exact cel (cnt + 1) _ (by omega) zo (by rw [g3, m3 92 (by decide), n2 92 (by omega)]) (Or.inr (Or.inr ⟨cnt, by omega, zc.symm⟩))
    · have z88 : Z.2.1 88 = Y.2.1 88 := by rw [g2 88 (by decide) (by decide), n2 88 (by omega)]
      refine ⟨Z, cnt, by rw [ez, ad_m (by omega)], Nat.le_refl _, hK.2 R Z kR (fun i _ => by rw [g1]) (fun i hi => g2 i (by omega) (by omega)) (by rw [g2 74 (by decide) (by decide)]; exact r74), ⟨by rw [g1, n1 45 (by omega)]; exact e45, by rw [g1, n1 46 (by omega)]; exact e46, by rw [g1, n1 47 (by omega)]; exact e47, by rw [g1, n1 87 (by omega)]; exact e87, c257⟩, by rw [z88]; exact hr, by rw [z88]; exact hd, by rw [g2 74 (by decide) (by decide)]; exact r74, ?_⟩
      refine cel cnt _ (Nat.le_refl _) (fun j _ => by rw [z88]) (by rw [g3, n2 92 (by omega)]) ?_
      by_cases a0 : a = 0
      · rw [if_pos a0]; exact Or.inr (Or.inl rfl)
      · rw [if_neg a0]; exact Or.inl rfl
  show dc_wp (if a = 0 then mm_explore_L188 R x1 (Int32.ofNat J) (Int32.ofNat I) a 257 else mm_explore_L188 R x1 (Int32.ofNat J) (Int32.ofNat I) a (-1)) _
  refine wq_if (fun c => ?_) (fun c => ?_)
  · rw [if_pos c] at go; exact go
  · rw [if_neg c] at go; exact go
/-- all inputs of a state -/
theorem xL149_t (hK : exK K) (i4 : ins ≤ 4) (o31 : out ≤ 31) (p8 : pa ≤ 8) (hJ : J < cnt) (h : xpJ K Y cnt ins out pa J 0) : dc_wp (mm_explore_L149 Y x1 (Int32.ofNat J) 0) (fun z => ∃ Z cnt', z = .inl (Z, Int32.ofNat (J + 1)) ∧ cnt ≤ cnt' ∧ xpJ K Z cnt' ins out pa (J + 1) 0) := by
  obtain ⟨s1, s2, s3⟩ := sh_ins ins i4
  have c257 := h.2.1.2.2.2.2
  have key := dc_itK (step := mm_explore_s149 x1 (Int32.ofNat J)) (fun d (y : md_S × Int32) => ∃ I cnt', y.2 = Int32.ofNat I ∧ I ≤ 2 ^ ins ∧ d = 2 ^ ins - I ∧ cnt ≤ cnt' ∧ xpJ K y.1 cnt' ins out pa J I) (F := fun Z => ∃ cnt', cnt ≤ cnt' ∧ xpJ K Z cnt' ins out pa (J + 1) 0) (by
    rintro d ⟨Z, y⟩ ⟨I, cnt', e, I1, ed, hle, hx⟩
    have e : y = Int32.ofNat I := e
    have hx : xpJ K Z cnt' ins out pa J I := hx
    subst e
    have tI : (Int32.ofNat I).toInt = (I : Int) := Int32.toInt_ofNat_of_lt (by omega)
    have tw : (Int32.ofNat (2 ^ ins)).toInt = ((2 ^ ins : Nat) : Int) := Int32.toInt_ofNat_of_lt (by omega)
    show dc_wp (mm_explore_b149 Z x1 (Int32.ofNat J) (Int32.ofNat I)) _
    by_cases c : I < 2 ^ ins
    · refine wq_w (x149_t hK i4 o31 p8 (by omega) c hx) ?_
      rintro z ⟨Z', cnt2, ez, l2, hx2⟩
      rw [ez]
      exact ⟨2 ^ ins - (I + 1), by omega, I + 1, cnt2, rfl, by omega, rfl, by omega, hx2⟩
    · have eI : I = 2 ^ ins := by omega
      delta mm_explore_b149
      rw [hx.2.1.1, s1, if_neg (by rw [i_lt, tI, tw]; omega)]
      obtain ⟨a1, a2, a3, a4, a5, a6⟩ := hx
      refine ⟨_, rfl, cnt', hle, a1, a2, a3, a4, a5, fun j i hij => a6 j i ?_⟩
      rcases hij with ⟨h1, h2⟩ | ⟨-, h2⟩
      · by_cases ej : j = J
        · exact Or.inr ⟨ej, by omega⟩
        · exact Or.inl ⟨by omega, h2⟩
      · omega)
  delta mm_explore_L149 mm_explore_L335
  refine wq_call (key (2 ^ ins) (Y, 0) ⟨0, cnt, rfl, by omega, rfl, Nat.le_refl _, h⟩) ?_
  rintro Z ⟨cnt', hle, hx⟩
  exact ⟨_, rfl, Z, cnt', by rw [ad_m (by omega)], hle, hx⟩
/-- all states -/
theorem xL139_t (hK : exK K) (i4 : ins ≤ 4) (o31 : out ≤ 31) (p8 : pa ≤ 8) (h : xpJ K Y cnt ins out pa 0 0) : dc_wp (mm_explore_L139 Y x1 0) (fun r => K r.1) := by
  have key := dc_itK (step := mm_explore_s139 x1) (fun d (y : md_S × Int32) => ∃ J cnt, y.2 = Int32.ofNat J ∧ J ≤ cnt ∧ d = 257 - J ∧ xpJ K y.1 cnt ins out pa J 0) (F := fun Z => ∃ cnt, xpJ K Z cnt ins out pa cnt 0) (by
    rintro d ⟨Z, y⟩ ⟨J, cnt, e, J1, ed, hx⟩
    have e : y = Int32.ofNat J := e
    have hx : xpJ K Z cnt ins out pa J 0 := hx
    subst e
    have c257 := hx.2.1.2.2.2.2
    have tJ : (Int32.ofNat J).toInt = (J : Int) := Int32.toInt_ofNat_of_lt (by omega)
    have tc : (Int32.ofNat cnt).toInt = (cnt : Int) := Int32.toInt_ofNat_of_lt (by omega)
    show dc_wp (mm_explore_b139 Z x1 (Int32.ofNat J)) _
    delta mm_explore_b139
    rw [hx.2.1.2.2.2.1]
    refine wq_if (fun c => ?_) (fun c => ?_)
    · have c := i_lt.mp c
      rw [tJ, tc] at c
      refine wq_w (xL149_t hK i4 o31 p8 (by omega) hx) ?_
      rintro z ⟨Z', cnt2, ez, l2, hx2⟩
      rw [ez]
      have c2 := hx2.2.1.2.2.2.2
      exact ⟨257 - (J + 1), by omega, J + 1, cnt2, rfl, by omega, rfl, hx2⟩
    · have c : ¬ (Int32.ofNat J).toInt < (Int32.ofNat cnt).toInt := fun z => c (i_lt.mpr z)
      rw [tJ, tc] at c
      have eJ : J = cnt := by omega
      rw [eJ] at hx
      exact ⟨_, rfl, cnt, hx⟩)
  delta mm_explore_L139
  refine wq_call (key 257 (Y, 0) ⟨0, cnt, rfl, by omega, rfl, h⟩) ?_
  rintro Z ⟨cnt, a1, ⟨e45, e46, e47, e87, c257⟩, hr, hd, h74, hc⟩
  delta mm_explore_L341
  obtain ⟨P, hP, -⟩ := pl_t (S := Z) x1
  rw [hP]
  obtain ⟨pl1, pl2, pl3, -⟩ := place_r hP
  show dc_wp (dc_let (md_i P 85 1) fun S2 => (mm_markPairs S2).bind fun q3 => some (q3, q3.1 87)) _
  refine wq_let (fun S2 e2 => ?_)
  have f1 : ∀ i, ¬ i = 77 → ¬ i = 85 → S2.1 i = Z.1 i := fun i h1 h2 => by rw [e2, md_i1, if_neg h2, pl1 i h1]
  have f2 : ∀ i, ¬ i = 74 → S2.2.1 i = Z.2.1 i := fun i h1 => by rw [e2]; exact pl3 i h1
  have hmp := mp_t (M := S2) (cnt := cnt) (ins := ins) ⟨⟨by rw [f1 87 (by decide) (by decide)]; exact e87, c257, by rw [f1 45 (by decide) (by decide)]; exact e45, i4⟩, by rw [f2 88 (by decide)]; exact hr, by rw [f2 88 (by decide)]; exact hd, by
    rw [f2 88 (by decide), f2 92 (by decide)]
    exact fun j i hj hi => hc j i (Or.inl ⟨hj, hi⟩)⟩
  refine wq_call (dc_wpw hmp (mm_markPairs_fr S2)) (fun r hr => ⟨_, rfl, hK.2 Z r a1 (fun i hi => ?_) (fun i hi => ?_) (fun p hp => ?_)⟩)
  · rw [hr.2.1 i (fun z => by cases z)]
    exact f1 i (by omega) (by omega)
  · rw [hr.2.2.1 i (by simp only [List.mem_cons, List.mem_nil_iff, or_false]; omega)]
    exact f2 i (by omega)
  · rw [hr.2.2.1 74 (by decide), e2]
    exact pl_74 hP p hp
/-- explore, of a program that was read -/
theorem exp_t (hK : exK K) (k0 : K M) (h41 : M.1 41 = 1) (h74 : ∀ p, p < 200 → M.2.1 74 p = 0 ∨ M.2.1 74 p = 1) (h45 : 0 ≤ (M.1 45).toInt) (h46 : 0 ≤ (M.1 46).toInt ∧ (M.1 46).toInt ≤ 31) (h47 : 0 ≤ (M.1 47).toInt) : dc_wp (mm_explore M) (fun r => K r.1) := by
  have t8 : (8 : Int32).toInt = 8 := by decide
  have t4 : (4 : Int32).toInt = 4 := by decide
  have mi : ∀ i, ¬ i = 0 → (md_i M 0 0).1 i = M.1 i := fun i hi => by rw [md_i1, if_neg hi]
  have km : K (md_i M 0 0) := hK.2 M _ k0 (fun i hi => mi i (by omega)) (fun i _ => rfl) h74
  delta mm_explore mm_explore_L13 mm_explore_L59
  rw [if_neg (by rw [h41]; decide), f0_0]
  refine wq_call (P := fun q => q = (md_i M 0 0, 0)) ⟨_, rfl, rfl⟩ ?_
  rintro q22 e22
  subst e22
  refine wq_if (fun _ => ?_) (fun c => absurd rfl c)
  refine wq_if (fun _ => ⟨_, rfl, km⟩) (fun c1 => ?_)
  refine wq_if (fun _ => ⟨_, rfl, km⟩) (fun c2 => ?_)
  refine wq_if (fun _ => ⟨_, rfl, km⟩) (fun _ => ?_)
  refine wq_if (fun _ => ⟨_, rfl, km⟩) (fun _ => ?_)
  have c1 : ¬ (8 : Int32).toInt < (M.1 47).toInt := fun z => c1 (i_lt.mpr (by rw [mi 47 (by decide)]; exact z))
  have c2 : ¬ (4 : Int32).toInt < (M.1 45).toInt := fun z => c2 (i_lt.mpr (by rw [mi 45 (by decide)]; exact z))
  rw [t8] at c1
  rw [t4] at c2
  have e45 := ofN_t (x := M.1 45) h45 (by omega)
  have e46 := ofN_t (x := M.1 46) h46.1 (by omega)
  have e47 := ofN_t (x := M.1 47) h47 (by omega)
  have go : ∀ b : Int32, dc_wp (mm_explore_L87 (md_i M 0 0) b) (fun r => K r.1) := fun b => by
    delta mm_explore_L87 mm_explore_L90
    refine wq_call (x90_t (S := md_i M 0 0) (pa := (M.1 47).toInt.toNat) (by omega) (by rw [mi 47 (by decide), e47])) (fun w _ => ?_)
    delta mm_explore_L123
    refine wq_let (fun S18 e18 => ?_)
    have z1 : ∀ i, ¬ i = 0 → ¬ i = 87 → S18.1 i = M.1 i := fun i h1 h2 => by rw [e18, md_i1, if_neg h2, mi i h1]
    have z2 : S18.2 = M.2 := by rw [e18]; rfl
    have z87 : S18.1 87 = Int32.ofNat 0 := by rw [e18, md_i1, if_pos rfl]; rfl
    refine wq_call (met_t (cnt := 0) (by omega) z87 (fun _ => by omega) (Or.inl rfl)) (fun r hr => ?_)
    rcases hr with ⟨⟨j, hj, -⟩, -⟩ | ⟨-, -, m1, m2, m3, m4, -⟩
    · omega
    · have r74 : ∀ p, p < 200 → r.2.1 74 p = 0 ∨ r.2.1 74 p = 1 := by rw [m3 74 (by decide), z2]; exact h74
      refine xL139_t (cnt := 1) (ins := (M.1 45).toInt.toNat) (out := (M.1 46).toInt.toNat) (pa := (M.1 47).toInt.toNat) hK (by omega) (by omega) (by omega) ⟨hK.2 M r k0 (fun i hi => by rw [m1 i (by omega), z1 i (by omega) (by omega)]) (fun i hi => by rw [m3 i (by omega), z2]) r74, ⟨by rw [m1 45 (by decide), z1 45 (by decide) (by decide), e45], by rw [m1 46 (by decide), z1 46 (by decide) (by decide), e46], by rw [m1 47 (by decide), z1 47 (by decide) (by decide), e47], m2, by omega⟩, fun j hj => ?_, fun i j hi hj _ => by omega, r74, fun j i hij => by omega⟩
      have : j = 0 := by omega
      rw [this, m4, upd_s]
      decide
  refine wq_if (fun _ => ?_) (fun _ => ⟨_, rfl, km⟩)
  exact wq_if (fun _ => go 0) (fun _ => go 256)
end XTW
