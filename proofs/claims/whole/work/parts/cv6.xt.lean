/-! the reference's explore comes to its end, where react does -/
theorem wq_zb {τ : Type} {v : Int32} (h : v = 0 ∨ v = 1) {E : Unit → Option τ} {F : τ → Prop} (kk : dc_wp (E ()) F) : dc_wp ((dc_zb v).bind E) F := by
  have e : dc_zb v = some () := if_pos h
  rw [e]; exact kk
/-- what goes with react: kept by react, and by all that explore writes -/
def exK (K : md_S → Prop) : Prop := (∀ S p, K S → dc_wp (mm_react S p) (fun q => K q.1 ∧ md_fr [78, 79, 80, 81] [67, 70, 71, 72, 73, 75, 76] false false S q.1)) ∧ ∀ S S' : md_S, K S → (∀ i, ¬ (i = 0 ∨ (77 ≤ i ∧ i ≤ 87) ∨ i = 106) → S'.1 i = S.1 i) → (∀ i, ¬ (i = 74 ∨ 84 ≤ i) → S'.2.1 i = S.2.1 i) → (∀ p, p < 200 → S'.2.1 74 p = 0 ∨ S'.2.1 74 p = 1) → K S'
section XTT
variable {K : md_S → Prop} {S M Y : md_S} {x1 x2 x3 p1 p2 p3 : Int32} {cnt ins out pa cl : Nat}
theorem pl_t (x : Int32) : dc_wp (mm_place S x) (fun _ => True) := by
  have t200 : (200 : Int32).toInt = 200 := by decide
  have key := dc_itK (step := mm_place_s18 x) (fun d (y : md_S × Int32) => ∃ k, y.2 = Int32.ofNat k ∧ k ≤ 200 ∧ d = 200 - k) (F := fun _ => True) (by
    rintro d ⟨Z, y⟩ ⟨k, e, k1, ed⟩
    have e : y = Int32.ofNat k := e
    subst e
    have tk : (Int32.ofNat k).toInt = (k : Int) := Int32.toInt_ofNat_of_lt (by omega)
    show dc_wp (mm_place_b18 Z x (Int32.ofNat k)) _
    delta mm_place_b18 mm_place_L56
    refine wq_if (fun c => ?_) (fun c => ⟨_, rfl, trivial⟩)
    have c := i_lt.mp c
    rw [tk, t200] at c
    have go : ∀ v : Int32, (v = 0 ∨ v = 1) → dc_wp (mm_place_L57 Z x (Int32.ofNat k) v (Int32.ofNat k)) (Sum.elim (fun y => ∃ d', d' < d ∧ ∃ k, y.2 = Int32.ofNat k ∧ k ≤ 200 ∧ d' = 200 - k) (fun _ => True)) := fun v hv => by
      delta mm_place_L57
      refine wq_zb hv ?_
      refine wq_ix (by omega) (by omega) ?_
      exact ⟨_, rfl, 200 - (k + 1), by omega, k + 1, ad_m (by omega), by omega, rfl⟩
    exact wq_if (fun _ => wq_if (fun _ => wq_if (fun _ => go 1 (Or.inr rfl)) (fun _ => go 0 (Or.inl rfl))) (fun _ => go 0 (Or.inl rfl))) (fun _ => go 0 (Or.inl rfl)))
  have go : ∀ (Z : md_S) (v : Int32), (v = 0 ∨ v = 1) → dc_wp (mm_place_L13 Z x v) (fun _ => True) := fun Z v hv => by
    delta mm_place_L13
    refine wq_zb hv ?_
    refine wq_let (fun Z' _ => ?_)
    delta mm_place_L18 mm_place_L64
    exact wq_call (key 200 (Z', 0) ⟨0, rfl, by omega, rfl⟩) (fun z _ => ⟨_, rfl, trivial⟩)
  delta mm_place
  exact wq_if (fun _ => go S 1 (Or.inr rfl)) (fun _ => go S 0 (Or.inl rfl))
/-- a loop over the pauses' bits -/
theorem x202_t (hpa : pa ≤ 200) (e47 : S.1 47 = Int32.ofNat pa) : dc_wp (dc_it (mm_explore_s202 S x1 x2 x3) (0, 0)) (fun w => w = oB (thB (S.2.1 75)) pa) := by
  have tp : (Int32.ofNat pa).toInt = (pa : Int) := Int32.toInt_ofNat_of_lt (by omega)
  refine dc_itK (step := mm_explore_s202 S x1 x2 x3) (fun d (y : Int32 × Int32) => ∃ k, y.2 = Int32.ofNat k ∧ k ≤ pa ∧ d = pa - k ∧ y.1 = oB (thB (S.2.1 75)) k) (F := fun w => w = oB (thB (S.2.1 75)) pa) (by
    rintro d ⟨w, y⟩ ⟨k, e0, k1, ed, hw0⟩
    have e : y = Int32.ofNat k := e0
    have hw : w = oB (thB (S.2.1 75)) k := hw0
    clear hw0 e0
    subst e
    have tk : (Int32.ofNat k).toInt = (k : Int) := Int32.toInt_ofNat_of_lt (by omega)
    have tkn : (Int32.ofNat k).toInt.toNat = k := by omega
    show dc_wp (mm_explore_b202 S x1 x2 x3 w (Int32.ofNat k)) _
    delta mm_explore_b202 mm_explore_L231
    rw [e47]
    refine wq_if (fun c => ?_) (fun c => ?_)
    · have c := i_lt.mp c
      rw [tk, tp] at c
      refine wq_ix (by omega) (by omega) ?_
      rw [tkn]
      have g : ∀ v, v = thB (S.2.1 75) k → w ||| v = oB (thB (S.2.1 75)) (k + 1) := fun v hv => by rw [hw, hv]; rfl
      refine wq_if (fun z => ⟨_, rfl, pa - (k + 1), by omega, k + 1, ad_m (by omega), by omega, rfl, g 0 ?_⟩) (fun z => ⟨_, rfl, pa - (k + 1), by omega, k + 1, ad_m (by omega), by omega, rfl, g _ ?_⟩)
      · unfold thB; rw [if_pos z]
      · unfold thB; rw [if_neg z]
    · have c : ¬ (Int32.ofNat k).toInt < (Int32.ofNat pa).toInt := fun z => c (i_lt.mpr z)
      rw [tk, tp] at c
      have ek : k = pa := by omega
      exact ⟨_, rfl, by rw [← ek]; exact hw⟩) pa (0, 0) ⟨0, rfl, by omega, rfl, rfl⟩
theorem x90_t (hpa : pa ≤ 200) (e47 : S.1 47 = Int32.ofNat pa) {b : Int32} : dc_wp (dc_it (mm_explore_s90 S) (b, 0)) (fun _ => True) := by
  have tp : (Int32.ofNat pa).toInt = (pa : Int) := Int32.toInt_ofNat_of_lt (by omega)
  refine dc_itK (step := mm_explore_s90 S) (fun d (y : Int32 × Int32) => ∃ k, y.2 = Int32.ofNat k ∧ k ≤ pa ∧ d = pa - k) (F := fun _ => True) (by
    rintro d ⟨w, y⟩ ⟨k, e, k1, ed⟩
    have e : y = Int32.ofNat k := e
    subst e
    have tk : (Int32.ofNat k).toInt = (k : Int) := Int32.toInt_ofNat_of_lt (by omega)
    show dc_wp (mm_explore_b90 S w (Int32.ofNat k)) _
    delta mm_explore_b90 mm_explore_L115
    rw [e47]
    refine wq_if (fun c => ?_) (fun c => ⟨_, rfl, trivial⟩)
    have c := i_lt.mp c
    rw [tk, tp] at c
    refine wq_ix (by omega) (by omega) ?_
    exact wq_if (fun _ => ⟨_, rfl, pa - (k + 1), by omega, k + 1, ad_m (by omega), by omega, rfl⟩) (fun _ => ⟨_, rfl, pa - (k + 1), by omega, k + 1, ad_m (by omega), by omega, rfl⟩)) pa (b, 0) ⟨0, rfl, by omega, rfl⟩
theorem met_t (hc : cnt ≤ 257) (e87 : S.1 87 = Int32.ofNat cnt) (hn : (∀ i, i < cnt → ¬ S.2.1 88 i = p1) → cnt < 257) (h2 : p2 = -1 ∨ (0 ≤ p2.toInt ∧ p2.toInt < 257)) : dc_wp (mm_meet S p1 p2 p3) (fun r => metO S r p1 p2 p3 cnt) := by
  have tc : (Int32.ofNat cnt).toInt = (cnt : Int) := Int32.toInt_ofNat_of_lt (by omega)
  have tot : dc_wp (mm_meet S p1 p2 p3) (fun _ => True) := by
    delta mm_meet mm_meet_L65
    refine wq_call (fnd_t hc e87) (fun v hv => ?_)
    refine wq_if (fun c => ?_) (fun c => ⟨_, rfl, trivial⟩)
    have cl : cnt < 257 := by
      rcases hv with ⟨j, j1, j2, -⟩ | ⟨-, h⟩
      · exfalso
        rw [j2] at c
        have c := i_eq.mp c
        rw [Int32.toInt_ofNat_of_lt (by omega), il_m1] at c
        omega
      · exact hn h
    have ix : ∀ Z : md_S, Z.1 87 = S.1 87 → 0 ≤ (Z.1 87).toInt ∧ (Z.1 87).toInt < ((257 : Nat) : Int) := fun Z hZ => by rw [hZ, e87, tc]; omega
    refine wq_ix (ix S rfl).1 (ix S rfl).2 ?_
    refine wq_let (fun S6 e6 => ?_)
    have f6 : S6.1 = S.1 := by rw [e6]; rfl
    refine wq_ix (ix S6 (by rw [f6])).1 (ix S6 (by rw [f6])).2 ?_
    refine wq_let (fun S8 e8 => ?_)
    have f8 : S8.1 = S.1 := by rw [e8]; exact f6
    refine wq_ix (ix S8 (by rw [f8])).1 (ix S8 (by rw [f8])).2 ?_
    refine wq_let (fun S10 e10 => ?_)
    have f10 : S10.1 = S.1 := by rw [e10]; exact f8
    refine wq_if (fun d => ?_) (fun d => ?_)
    · exact wq_ix (ix S10 (by rw [f10])).1 (ix S10 (by rw [f10])).2 ⟨_, rfl, trivial⟩
    · obtain ⟨q1, q2⟩ := h2.resolve_left d
      refine wq_ix q1 q2 ?_
      exact wq_ix (ix S10 (by rw [f10])).1 (ix S10 (by rw [f10])).2 ⟨_, rfl, trivial⟩
  obtain ⟨r, hr, -⟩ := tot
  exact ⟨r, hr, met_r hc e87 hr⟩
theorem x276_t (ho : out ≤ 31) (e45 : S.1 45 = Int32.ofNat ins) (hi : ins ≤ 31) (e46 : S.1 46 = Int32.ofNat out) (hcl : 16 * x2 + x3 = Int32.ofNat cl) (hc2 : cl < 4112) : dc_wp (mm_explore_L276 S x1 x2 x3 0) (fun _ => True) := by
  have to : (Int32.ofNat out).toInt = (out : Int) := Int32.toInt_ofNat_of_lt (by omega)
  have tcl : (Int32.ofNat cl).toInt = (cl : Int) := Int32.toInt_ofNat_of_lt (by omega)
  delta mm_explore_L276 mm_explore_L329
  refine wq_call (dc_itK (step := mm_explore_s276 x1 x2 x3) (fun d (y : md_S × Int32) => ∃ k, y.2 = Int32.ofNat k ∧ k ≤ out ∧ d = out - k ∧ y.1.1 = S.1) (F := fun _ => True) (by
    rintro d ⟨Z, y⟩ ⟨k, e, k1, ed, hZ⟩
    have e : y = Int32.ofNat k := e
    have hZ : Z.1 = S.1 := hZ
    subst e
    have tk : (Int32.ofNat k).toInt = (k : Int) := Int32.toInt_ofNat_of_lt (by omega)
    show dc_wp (mm_explore_b276 Z x1 x2 x3 (Int32.ofNat k)) _
    delta mm_explore_b276 mm_explore_L321
    rw [hZ, e46, e45, hcl]
    refine wq_if (fun c => ?_) (fun c => ⟨_, rfl, trivial⟩)
    have c := i_lt.mp c
    rw [tk, to] at c
    have ti : (Int32.ofNat ins + Int32.ofNat k).toInt = ((ins + k : Nat) : Int) := by
      rw [← Int32.ofNat_add]
      exact Int32.toInt_ofNat_of_lt (by omega)
    refine wq_ix (by omega) (by omega) ?_
    refine wq_ix (by omega) (by omega) ?_
    exact wq_if (fun _ => wq_ix (by omega) (by omega) ⟨_, rfl, out - (k + 1), by omega, k + 1, ad_m (by omega), by omega, rfl, hZ⟩) (fun _ => wq_ix (by omega) (by omega) ⟨_, rfl, out - (k + 1), by omega, k + 1, ad_m (by omega), by omega, rfl, hZ⟩)) out (S, 0) ⟨0, rfl, by omega, rfl, rfl⟩) (fun z _ => ⟨_, rfl, trivial⟩)
theorem x248_t {v : Int32} (ho : out ≤ 31) (e45 : S.1 45 = Int32.ofNat ins) (hi : ins ≤ 31) (e46 : S.1 46 = Int32.ofNat out) (hcl : 16 * x2 + x3 = Int32.ofNat cl) (hc2 : cl < 4112) : dc_wp (mm_explore_L248 S x1 x2 x3 v) (fun _ => True) := by
  have tcl : (Int32.ofNat cl).toInt = (cl : Int) := Int32.toInt_ofNat_of_lt (by omega)
  delta mm_explore_L248
  rw [hcl]
  refine wq_ix (by omega) (by omega) ?_
  refine wq_let (fun S9 e9 => ?_)
  refine wq_ix (by omega) (by omega) ?_
  refine wq_let (fun S11 e11 => ?_)
  have f : S11.1 = S.1 := by rw [e11, e9]; rfl
  exact x276_t ho (by rw [f]; exact e45) hi (by rw [f]; exact e46) hcl hc2
/-- what an answer leads to -/
theorem x188_t {a y : Int32} (hpa : pa ≤ 8) (e47 : S.1 47 = Int32.ofNat pa) (hc : cnt ≤ 257) (e87 : S.1 87 = Int32.ofNat cnt) (ho : out ≤ 31) (e45 : S.1 45 = Int32.ofNat ins) (hi : ins ≤ 31) (e46 : S.1 46 = Int32.ofNat out) (hcl : 16 * x2 + x3 = Int32.ofNat cl) (hc2 : cl < 4112) (hx2 : 0 ≤ x2.toInt ∧ x2.toInt < 257) (hy : y = if a = 0 then 257 else -1) (hr : ∀ j, j < cnt → 0 ≤ (S.2.1 88 j).toInt ∧ (S.2.1 88 j).toInt < 257) (hd : ∀ i j, i < cnt → j < cnt → S.2.1 88 i = S.2.1 88 j → i = j) : dc_wp (mm_explore_L188 S x1 x2 x3 a y) (fun z => ∃ Z : md_S, z = .inl (Z, x3 + 1) ∧ ansO S Z a x2 x3 cnt cl ins out pa) := by
  have tot : dc_wp (mm_explore_L188 S x1 x2 x3 a y) (fun _ => True) := by
    delta mm_explore_L188
    refine wq_if (fun _ => ?_) (fun _ => x248_t ho e45 hi e46 hcl hc2)
    obtain ⟨w, hw, ew⟩ := x202_t (S := S) (x1 := x1) (x2 := x2) (x3 := x3) (by omega) e47
    have e : mm_explore_L202 S x1 x2 x3 0 0 = mm_explore_L240 S x1 x2 x3 w := by
      delta mm_explore_L202
      rw [hw]; rfl
    rw [e]
    obtain ⟨b1, -⟩ := oB_b (σ := S.2.1 75) hpa
    rw [← ew] at b1
    delta mm_explore_L240
    refine wq_call (met_t (cnt := cnt) hc e87 (fun hn => ?_) (Or.inr hx2)) (fun r hr' => ?_)
    · have h := ctP_inj (P := fun _ => True) (f := fun j => if j = cnt then w.toInt.toNat else (S.2.1 88 j).toInt.toNat) (m := 257) (cnt + 1) (fun _ => True) (fun k hk _ => ⟨?_, trivial⟩) (fun i j hi' hj _ _ e => ?_)
      · rw [ctP_all _ (fun _ _ => trivial), ctP_all _ (fun _ _ => trivial)] at h
        omega
      · by_cases c : k = cnt
        · rw [if_pos c]; omega
        · rw [if_neg c]
          have := hr k (by omega)
          omega
      · by_cases c : i = cnt
        · by_cases c' : j = cnt
          · omega
          · rw [if_pos c, if_neg c'] at e
            exact absurd (t_nn b1.1 (hr j (by omega)).1 e).symm (hn j (by omega))
        · by_cases c' : j = cnt
          · rw [if_neg c, if_pos c'] at e
            exact absurd (t_nn (hr i (by omega)).1 b1.1 e) (hn i (by omega))
          · rw [if_neg c, if_neg c'] at e
            exact hd i j (by omega) (by omega) (t_nn (hr i (by omega)).1 (hr j (by omega)).1 e)
    · have f : ∀ i, ¬ i = 87 → r.1 i = S.1 i := by
        rcases hr' with ⟨-, e⟩ | ⟨-, -, h, -⟩
        · intro i _; rw [e]
        · exact h
      exact x248_t ho (by rw [f 45 (by decide)]; exact e45) hi (by rw [f 46 (by decide)]; exact e46) hcl hc2
  obtain ⟨z, hz, -⟩ := tot
  exact ⟨z, hz, x188_r (by omega) e47 hc e87 ho e45 hi e46 hcl hc2 hy hz⟩
end XTT
