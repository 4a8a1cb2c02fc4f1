/-! the reference's instant -/
section INR
variable {M : md_S} {x1 : Int32} {io pa : Nat}
/-- the statuses shown are kept -/
theorem in_58 {S r : md_S × Int32} {x3 : Int32} (hio : io ≤ 62) (eio : S.1.1 45 + S.1.1 46 = Int32.ofNat io) (hq : mm_instant_L58 S.1 x3 0 = some r) : ∃ Z : md_S, Z.1 = S.1.1 ∧ (∀ i, ¬ i = 84 → Z.2.1 i = S.1.2.1 i) ∧ (∀ i, i < io → Z.2.1 84 i = S.1.2.1 70 i) ∧ mm_instant_L92 Z x3 = some r := by
  have key : dc_pw (mm_instant_L58 S.1 x3 0) (fun r => ∃ Z : md_S, Z.1 = S.1.1 ∧ (∀ i, ¬ i = 84 → Z.2.1 i = S.1.2.1 i) ∧ (∀ i, i < io → Z.2.1 84 i = S.1.2.1 70 i) ∧ mm_instant_L92 Z x3 = some r) := by
    delta mm_instant_L58
    refine pw_loop (fun (y : md_S × Int32) => ∃ k, y.2 = Int32.ofNat k ∧ k ≤ io ∧ y.1.1 = S.1.1 ∧ (∀ i, ¬ i = 84 → y.1.2.1 i = S.1.2.1 i) ∧ ∀ i, i < k → y.1.2.1 84 i = S.1.2.1 70 i) (fun Z => Z.1 = S.1.1 ∧ (∀ i, ¬ i = 84 → Z.2.1 i = S.1.2.1 i) ∧ ∀ i, i < io → Z.2.1 84 i = S.1.2.1 70 i) ⟨0, rfl, by omega, rfl, fun _ _ => rfl, fun i hi => absurd hi (by omega)⟩ ?_ (fun Z hZ r hr => ⟨Z, hZ.1, hZ.2.1, hZ.2.2, hr⟩)
    rintro ⟨Y, v⟩ ⟨k, ev, k1, f1, f2, f3⟩
    have ev : v = Int32.ofNat k := ev
    have f1 : Y.1 = S.1.1 := f1
    have f2 : ∀ i, ¬ i = 84 → Y.2.1 i = S.1.2.1 i := f2
    have f3 : ∀ i, i < k → Y.2.1 84 i = S.1.2.1 70 i := f3
    subst ev
    have tk : (Int32.ofNat k).toInt = (k : Int) := Int32.toInt_ofNat_of_lt (by omega)
    have tkn : (Int32.ofNat k).toInt.toNat = k := by omega
    have tb : (Int32.ofNat io).toInt = (io : Int) := Int32.toInt_ofNat_of_lt (by omega)
    show dc_pw (mm_instant_b58 Y x3 (Int32.ofNat k)) _
    delta mm_instant_b58
    rw [f1, eio]
    refine pw_ifc (fun c => ?_) (fun c => ?_)
    · have c := i_lt.mp c
      rw [tk, tb] at c
      refine pw_ix (fun _ _ => ?_)
      refine pw_ix (fun _ _ => ?_)
      rw [tkn]
      refine pw_some ⟨k + 1, ad_m (by omega), by omega, f1, fun i hi => by show (md_a Y 84 k (Y.2.1 70 k)).2.1 i = _; rw [md_a2, if_neg hi]; exact f2 i hi, fun i hi => ?_⟩
      show (md_a Y 84 k (Y.2.1 70 k)).2.1 84 i = _
      rw [md_a2, if_pos rfl]
      by_cases e : i = k
      · subst e
        rw [upd_s, f2 70 (by omega)]
      · rw [upd_n e]
        exact f3 i (by omega)
    · have c : ¬ (Int32.ofNat k).toInt < (Int32.ofNat io).toInt := fun z => c (i_lt.mpr z)
      rw [tk, tb] at c
      have : k = io := by omega
      subst this
      exact pw_some ⟨f1, f2, f3⟩
  exact key r hq
/-- pauses chosen become those held -/
theorem in_117 {S : md_S} {r : md_S × Int32} {x3 : Int32} (hpa : pa ≤ 200) (e47 : S.1 47 = Int32.ofNat pa) (hq : mm_instant_L117 S x3 0 = some r) : ∃ Z : md_S, Z.1 = S.1 ∧ (∀ i, ¬ i = 74 → Z.2.1 i = S.2.1 i) ∧ (∀ p, p < pa → Z.2.1 74 p = if x3 = 1 ∧ ¬ S.2.1 75 p = 0 then 1 else 0) ∧ r = (md_i Z 82 (if x3 = 1 then 1 else 2), if x3 = 1 then 0 else 1) := by
  have key : dc_pw (mm_instant_L117 S x3 0) (fun r => ∃ Z : md_S, Z.1 = S.1 ∧ (∀ i, ¬ i = 74 → Z.2.1 i = S.2.1 i) ∧ (∀ p, p < pa → Z.2.1 74 p = if x3 = 1 ∧ ¬ S.2.1 75 p = 0 then 1 else 0) ∧ r = (md_i Z 82 (if x3 = 1 then 1 else 2), if x3 = 1 then 0 else 1)) := by
    delta mm_instant_L117
    refine pw_loop (fun (y : md_S × Int32) => ∃ k, y.2 = Int32.ofNat k ∧ k ≤ pa ∧ y.1.1 = S.1 ∧ (∀ i, ¬ i = 74 → y.1.2.1 i = S.2.1 i) ∧ ∀ p, p < k → y.1.2.1 74 p = if x3 = 1 ∧ ¬ S.2.1 75 p = 0 then 1 else 0) (fun Z => Z.1 = S.1 ∧ (∀ i, ¬ i = 74 → Z.2.1 i = S.2.1 i) ∧ ∀ p, p < pa → Z.2.1 74 p = if x3 = 1 ∧ ¬ S.2.1 75 p = 0 then 1 else 0) ⟨0, rfl, by omega, rfl, fun _ _ => rfl, fun i hi => absurd hi (by omega)⟩ ?_ (fun Z hZ => ?_)
    · rintro ⟨Y, v⟩ ⟨k, ev, k1, f1, f2, f3⟩
      have ev : v = Int32.ofNat k := ev
      have f1 : Y.1 = S.1 := f1
      have f2 : ∀ i, ¬ i = 74 → Y.2.1 i = S.2.1 i := f2
      have f3 : ∀ p, p < k → Y.2.1 74 p = if x3 = 1 ∧ ¬ S.2.1 75 p = 0 then 1 else 0 := f3
      subst ev
      have tk : (Int32.ofNat k).toInt = (k : Int) := Int32.toInt_ofNat_of_lt (by omega)
      have tkn : (Int32.ofNat k).toInt.toNat = k := by omega
      have tb : (Int32.ofNat pa).toInt = (pa : Int) := Int32.toInt_ofNat_of_lt (by omega)
      have last : ∀ u : Int32, (u = 0 ∨ u = 1) → k < pa → u = (if x3 = 1 ∧ ¬ S.2.1 75 k = 0 then 1 else 0) → dc_pw (mm_instant_L152 Y x3 (Int32.ofNat k) u (Int32.ofNat k)) (Sum.elim (fun (y : md_S × Int32) => ∃ k, y.2 = Int32.ofNat k ∧ k ≤ pa ∧ y.1.1 = S.1 ∧ (∀ i, ¬ i = 74 → y.1.2.1 i = S.2.1 i) ∧ ∀ p, p < k → y.1.2.1 74 p = if x3 = 1 ∧ ¬ S.2.1 75 p = 0 then 1 else 0) (fun Z => Z.1 = S.1 ∧ (∀ i, ¬ i = 74 → Z.2.1 i = S.2.1 i) ∧ ∀ p, p < pa → Z.2.1 74 p = if x3 = 1 ∧ ¬ S.2.1 75 p = 0 then 1 else 0)) := by
        intro u hu hk he
        delta mm_instant_L152
        have ez : dc_zb u = some () := if_pos hu
        rw [ez]
        show dc_pw ((dc_ix (Int32.ofNat k) 200).bind _) _
        refine pw_ix (fun _ _ => ?_)
        rw [tkn]
        refine pw_some ⟨k + 1, ad_m (by omega), by omega, f1, fun i hi => by show (md_a Y 74 k u).2.1 i = _; rw [md_a2, if_neg hi]; exact f2 i hi, fun p hp => ?_⟩
        show (md_a Y 74 k u).2.1 74 p = _
        rw [md_a2, if_pos rfl]
        by_cases e : p = k
        · subst e
          rw [upd_s]; exact he
        · rw [upd_n e]
          exact f3 p (by omega)
      show dc_pw (mm_instant_b117 Y x3 (Int32.ofNat k)) _
      delta mm_instant_b117
      rw [f1, e47]
      refine pw_ifc (fun c => ?_) (fun c => ?_)
      · have c := i_lt.mp c
        rw [tk, tb] at c
        refine pw_ifc (fun c1 => ?_) (fun c1 => ?_)
        · refine pw_ix (fun _ _ => ?_)
          rw [tkn, f2 75 (by omega)]
          refine pw_ifc (fun c2 => ?_) (fun c2 => ?_)
          · delta mm_instant_L151
            exact last 0 (Or.inl rfl) (by omega) (by rw [if_neg (fun z => z.2 c2)])
          · exact last 1 (Or.inr rfl) (by omega) (by rw [if_pos ⟨c1, c2⟩])
        · delta mm_instant_L151
          exact last 0 (Or.inl rfl) (by omega) (by rw [if_neg (fun z => c1 z.1)])
      · have c : ¬ (Int32.ofNat k).toInt < (Int32.ofNat pa).toInt := fun z => c (i_lt.mpr z)
        rw [tk, tb] at c
        have : k = pa := by omega
        subst this
        exact pw_some ⟨f1, f2, f3⟩
    · intro r hr
      refine ⟨Z, hZ.1, hZ.2.1, hZ.2.2, ?_⟩
      have hr : mm_instant_L159 Z x3 = some r := hr
      delta mm_instant_L159 mm_instant_L170 mm_instant_L183 at hr
      by_cases c1 : x3 = 1
      · rw [if_pos c1] at hr
        delta dc_let at hr
        dsimp only at hr
        rw [if_pos c1] at hr
        rw [if_pos c1, if_pos c1]
        exact (Option.some.inj hr).symm
      · rw [if_neg c1] at hr
        delta dc_let at hr
        dsimp only at hr
        rw [if_neg c1] at hr
        rw [if_neg c1, if_neg c1]
        exact (Option.some.inj hr).symm
  exact key r hq
/-- what the reference's instant comes to -/
def inO (M : md_S) (x1 : Int32) (io pa : Nat) (r : md_S × Int32) : Prop :=
  (¬ M.1 82 = 1 ∧ r = (md_i M 0 1, 0)) ∨ (M.1 82 = 1 ∧ mm_isInput M x1 = some 0 ∧ r = (md_i M 0 2, 0)) ∨
  (M.1 82 = 1 ∧ (∃ v, mm_isInput M x1 = some v ∧ ¬ v = 0) ∧ ∃ q : md_S × Int32, mm_react (md_i M 0 0) x1 = some q ∧ (∀ i, i < io → r.1.2.1 84 i = q.1.2.1 70 i) ∧ ((q.2 = -1 ∧ r.2 = 2 ∧ r.1.1 = q.1.1 ∧ ∀ i, ¬ i = 84 → r.1.2.1 i = q.1.2.1 i) ∨ (¬ q.2 = -1 ∧ r.2 = (if q.2 = 1 then 0 else 1) ∧ (∀ i, ¬ (i = 77 ∨ i = 82 ∨ i = 83) → r.1.1 i = q.1.1 i) ∧ r.1.1 77 = 0 ∧ r.1.1 82 = (if q.2 = 1 then 1 else 2) ∧ r.1.1 83 = q.1.1 83 + 1 ∧ (∀ i, ¬ (i = 84 ∨ i = 74) → r.1.2.1 i = q.1.2.1 i) ∧ ∀ p, p < pa → r.1.2.1 74 p = if q.2 = 1 ∧ ¬ q.1.2.1 75 p = 0 then 1 else 0)))
theorem in_r (hio : io ≤ 62) (eio : M.1 45 + M.1 46 = Int32.ofNat io) (hpa : pa ≤ 200) (e47 : M.1 47 = Int32.ofNat pa) (hF : ∀ q, mm_react (md_i M 0 0) x1 = some q → rxF (md_i M 0 0) q.1) {r : md_S × Int32} (hq : mm_instant M x1 = some r) : inO M x1 io pa r := by
  have f1 : ∀ S : md_S, mm_fails S 1 0 = some (md_i S 0 1, 1) := by
    intro S
    delta mm_fails mm_fails_L18 mm_fails_L33
    rw [if_neg (by decide)]
    rfl
  have f2 : ∀ S : md_S, mm_fails S 0 1 = some (md_i S 0 2, 1) := by
    intro S
    delta mm_fails mm_fails_L18 mm_fails_L33
    rw [if_pos rfl, if_neg (by decide)]
    rfl
  have f0 : ∀ S : md_S, mm_fails S 0 0 = some (md_i S 0 0, 0) := by
    intro S
    delta mm_fails mm_fails_L18 mm_fails_L33
    rw [if_pos rfl, if_pos rfl]
    rfl
  delta mm_instant mm_instant_L13 mm_instant_L24 mm_instant_L40 mm_instant_L41 at hq
  by_cases c : M.1 82 = 1
  · rw [if_pos c, if_neg (by decide), if_neg (by decide)] at hq
    obtain ⟨v, hv, hq⟩ := iv_bind hq
    by_cases v0 : v = 0
    · rw [if_pos v0, f2] at hq
      refine Or.inr (Or.inl ⟨c, by rw [hv, v0], ?_⟩)
      have hq : (if (1 : Int32) = 0 then (mm_react (md_i M 0 2) x1).bind (fun q12 => mm_instant_L58 q12.1 q12.2 0) else some (md_i M 0 2, 0)) = some r := hq
      rw [if_neg (by decide)] at hq
      exact (Option.some.inj hq).symm
    · rw [if_neg v0, f0] at hq
      refine Or.inr (Or.inr ⟨c, ⟨v, hv, v0⟩, ?_⟩)
      have hq : (if (0 : Int32) = 0 then (mm_react (md_i M 0 0) x1).bind (fun q12 => mm_instant_L58 q12.1 q12.2 0) else some (md_i M 0 0, 0)) = some r := hq
      rw [if_pos rfl] at hq
      obtain ⟨q, e, hq⟩ := iv_bind hq
      have rF := hF q e
      have e45 : q.1.1 45 = M.1 45 := by rw [rF.1 45 (by omega)]; rfl
      have e46 : q.1.1 46 = M.1 46 := by rw [rF.1 46 (by omega)]; rfl
      have e47' : q.1.1 47 = M.1 47 := by rw [rF.1 47 (by omega)]; rfl
      obtain ⟨Z, z1, z2, z3, hq⟩ := in_58 hio (by rw [e45, e46]; exact eio) hq
      refine ⟨q, e, ?_⟩
      delta mm_instant_L92 at hq
      by_cases cm : q.2 = -1
      · rw [if_pos cm] at hq
        have er : r = (Z, 2) := (Option.some.inj hq).symm
        rw [er]
        exact ⟨z3, Or.inl ⟨cm, rfl, z1, z2⟩⟩
      · rw [if_neg cm] at hq
        have hq : mm_instant_L117 (md_i (md_i Z 83 (Z.1 83 + 1)) 77 0) q.2 0 = some r := hq
        obtain ⟨Y, y1, y2, y3, er⟩ := in_117 hpa (by show (md_i (md_i Z 83 (Z.1 83 + 1)) 77 0).1 47 = _; rw [md_i1, if_neg (by decide), md_i1, if_neg (by decide), z1, e47']; exact e47) hq
        have y2 : ∀ i, ¬ i = 74 → Y.2.1 i = Z.2.1 i := y2
        rw [er]
        refine ⟨fun i hi => ?_, Or.inr ⟨cm, rfl, fun i hi => ?_, ?_, ?_, ?_, fun i hi => ?_, fun p hp => ?_⟩⟩
        · show Y.2.1 84 i = _
          rw [y2 84 (by omega)]; exact z3 i hi
        · show (md_i Y 82 _).1 i = _
          rw [md_i1, if_neg (by omega), y1, md_i1, if_neg (by omega), md_i1, if_neg (by omega), z1]
        · show (md_i Y 82 _).1 77 = _
          rw [md_i1, if_neg (by omega), y1, md_i1, if_pos rfl]
        · show (md_i Y 82 _).1 82 = _
          rw [md_i1, if_pos rfl]
        · show (md_i Y 82 _).1 83 = _
          rw [md_i1, if_neg (by omega), y1, md_i1, if_neg (by omega), md_i1, if_pos rfl, z1]
        · show Y.2.1 i = _
          rw [y2 i (by omega), z2 i (by omega)]
        · show Y.2.1 74 p = _
          rw [y3 p hp]
          show (if q.2 = 1 ∧ ¬ Z.2.1 75 p = 0 then (1 : Int32) else 0) = _
          rw [z2 75 (by omega)]
  · rw [if_neg c, if_pos rfl, if_pos rfl, f1] at hq
    refine Or.inl ⟨c, ?_⟩
    have hq : (if (1 : Int32) = 0 then (mm_react (md_i M 0 1) x1).bind (fun q12 => mm_instant_L58 q12.1 q12.2 0) else some (md_i M 0 1, 0)) = some r := hq
    rw [if_neg (by decide)] at hq
    exact (Option.some.inj hq).symm
end INR
