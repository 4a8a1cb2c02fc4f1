/-! the reference's states: find, meet; bits gathered -/
section FMR
variable {S : md_S} {p1 p2 p3 : Int32} {cnt pa out ins : Nat}
theorem fnd_r (hc : cnt ≤ 257) (e87 : S.1 87 = Int32.ofNat cnt) {v : Int32} (hq : mm_find S p1 = some v) : (∃ j, j < cnt ∧ v = Int32.ofNat j ∧ S.2.1 88 j = p1 ∧ ∀ i, i < j → ¬ S.2.1 88 i = p1) ∨ (v = -1 ∧ ∀ i, i < cnt → ¬ S.2.1 88 i = p1) := by
  have key : dc_pw (mm_find S p1) (fun v => (∃ j, j < cnt ∧ v = Int32.ofNat j ∧ S.2.1 88 j = p1 ∧ ∀ i, i < j → ¬ S.2.1 88 i = p1) ∨ (v = -1 ∧ ∀ i, i < cnt → ¬ S.2.1 88 i = p1)) := by
    delta mm_find mm_find_L2
    refine pw_loop (fun (y : Int32) => ∃ k, y = Int32.ofNat k ∧ k ≤ cnt ∧ ∀ i, i < k → ¬ S.2.1 88 i = p1) (fun z => match z with | .inl y => ∃ j, j < cnt ∧ y = Int32.ofNat j ∧ S.2.1 88 j = p1 ∧ ∀ i, i < j → ¬ S.2.1 88 i = p1 | .inr _ => ∀ i, i < cnt → ¬ S.2.1 88 i = p1) ⟨0, rfl, by omega, fun i hi => absurd hi (by omega)⟩ ?_ (fun z hz => ?_)
    · rintro y ⟨k, ev, k1, f1⟩
      subst ev
      have tk : (Int32.ofNat k).toInt = (k : Int) := Int32.toInt_ofNat_of_lt (by omega)
      have tkn : (Int32.ofNat k).toInt.toNat = k := by omega
      have tc : (Int32.ofNat cnt).toInt = (cnt : Int) := Int32.toInt_ofNat_of_lt (by omega)
      show dc_pw (mm_find_b2 S p1 (Int32.ofNat k)) _
      delta mm_find_b2
      rw [e87]
      refine pw_ifc (fun c => ?_) (fun c => ?_)
      · have c := i_lt.mp c
        rw [tk, tc] at c
        refine pw_ix (fun _ _ => ?_)
        rw [tkn]
        refine pw_ifc (fun d => ?_) (fun d => ?_)
        · exact pw_some ⟨k, by omega, rfl, d, f1⟩
        · refine pw_some ⟨k + 1, ad_m (by omega), by omega, fun i hi => ?_⟩
          by_cases e : i = k
          · rw [e]; exact d
          · exact f1 i (by omega)
      · have c : ¬ (Int32.ofNat k).toInt < (Int32.ofNat cnt).toInt := fun z => c (i_lt.mpr z)
        rw [tk, tc] at c
        have : k = cnt := by omega
        subst this
        exact pw_some f1
    · cases z with
      | inl y =>
        intro v hv
        have hv : some y = some v := hv
        rw [← Option.some.inj hv]
        exact Or.inl hz
      | inr y =>
        intro v hv
        have hv : some (-1) = some v := hv
        rw [← Option.some.inj hv]
        exact Or.inr ⟨rfl, hz⟩
  exact key v hq
/-- what meeting a state leaves -/
def metO (S r : md_S) (p1 p2 p3 : Int32) (cnt : Nat) : Prop :=
  ((∃ j, j < cnt ∧ S.2.1 88 j = p1) ∧ r = S) ∨ ((∀ i, i < cnt → ¬ S.2.1 88 i = p1) ∧ cnt < 257 ∧ (∀ i, ¬ i = 87 → r.1 i = S.1 i) ∧ r.1 87 = Int32.ofNat (cnt + 1) ∧ (∀ i, ¬ (88 ≤ i ∧ i ≤ 91) → r.2.1 i = S.2.1 i) ∧ r.2.1 88 = upd (S.2.1 88) cnt p1 ∧ r.2.1 90 = upd (S.2.1 90) cnt p2 ∧ r.2.1 91 = upd (S.2.1 91) cnt p3 ∧ r.2.1 89 = upd (S.2.1 89) cnt (if p2 = -1 then 0 else S.2.1 89 p2.toInt.toNat + 1))
theorem met_r (hc : cnt ≤ 257) (e87 : S.1 87 = Int32.ofNat cnt) {r : md_S} (hq : mm_meet S p1 p2 p3 = some r) : metO S r p1 p2 p3 cnt := by
  have tc : (Int32.ofNat cnt).toInt = (cnt : Int) := Int32.toInt_ofNat_of_lt (by omega)
  have tcn : (Int32.ofNat cnt).toInt.toNat = cnt := by omega
  delta mm_meet dc_let at hq
  dsimp only at hq
  obtain ⟨v, hv, hq⟩ := iv_bind hq
  rcases fnd_r hc e87 hv with ⟨j, j1, j2, j3, -⟩ | ⟨v1, v2⟩
  · have nv : ¬ v = -1 := by rw [j2]; exact nk_1 (by omega)
    rw [if_neg nv] at hq
    exact Or.inl ⟨⟨j, j1, j3⟩, (Option.some.inj hq).symm⟩
  · rw [if_pos v1] at hq
    obtain ⟨-, lt, hq⟩ := iv_ix hq
    rw [e87, tc] at lt
    have a1 : (md_a S 88 (S.1 87).toInt.toNat p1).1 87 = Int32.ofNat cnt := e87
    obtain ⟨-, -, hq⟩ := iv_ix hq
    obtain ⟨-, -, hq⟩ := iv_ix hq
    have e88 : (S.1 87).toInt.toNat = cnt := by rw [e87]; exact tcn
    have base : ∀ w : Int32, w = (if p2 = -1 then 0 else S.2.1 89 p2.toInt.toNat + 1) → ∀ X : md_S, X = md_a (md_a (md_a S 88 cnt p1) 90 cnt p2) 91 cnt p3 → mm_meet_L65 X w (X.1 87) = some r → metO S r p1 p2 p3 cnt := by
      intro w ew X eX h
      have x87 : X.1 87 = Int32.ofNat cnt := by rw [eX]; exact e87
      delta mm_meet_L65 dc_let at h
      dsimp only at h
      obtain ⟨-, -, h⟩ := iv_ix h
      rw [x87, tcn] at h
      have er : r = md_i (md_a X 89 cnt w) 87 ((md_a X 89 cnt w).1 87 + 1) := (Option.some.inj h).symm
      have y87 : (md_a X 89 cnt w).1 87 = Int32.ofNat cnt := x87
      rw [y87, ad_m (by omega)] at er
      rw [er]
      refine Or.inr ⟨v2, by omega, fun i hi => ?_, by rw [md_i1, if_pos rfl], fun i hi => ?_, ?_, ?_, ?_, ?_⟩
      · rw [md_i1, if_neg hi, eX]; rfl
      · show (md_a X 89 cnt w).2.1 i = _
        rw [md_a2, if_neg (by omega), eX, md_a2, if_neg (by omega), md_a2, if_neg (by omega), md_a2, if_neg (by omega)]
      · show (md_a X 89 cnt w).2.1 88 = _
        rw [md_a2, if_neg (by omega), eX, md_a2, if_neg (by omega), md_a2, if_neg (by omega), md_a2, if_pos rfl]
      · show (md_a X 89 cnt w).2.1 90 = _
        rw [md_a2, if_neg (by omega), eX, md_a2, if_neg (by omega), md_a2, if_pos rfl, md_a2, if_neg (by omega)]
      · show (md_a X 89 cnt w).2.1 91 = _
        rw [md_a2, if_neg (by omega), eX, md_a2, if_pos rfl, md_a2, if_neg (by omega), md_a2, if_neg (by omega)]
      · show (md_a X 89 cnt w).2.1 89 = _
        rw [md_a2, if_pos rfl, eX, md_a2, if_neg (by omega), md_a2, if_neg (by omega), md_a2, if_neg (by omega), ew]
    have eX : md_a (md_a (md_a S 88 (S.1 87).toInt.toNat p1) 90 ((md_a S 88 (S.1 87).toInt.toNat p1).1 87).toInt.toNat p2) 91 ((md_a (md_a S 88 (S.1 87).toInt.toNat p1) 90 ((md_a S 88 (S.1 87).toInt.toNat p1).1 87).toInt.toNat p2).1 87).toInt.toNat p3 = md_a (md_a (md_a S 88 cnt p1) 90 cnt p2) 91 cnt p3 := by
      show md_a (md_a (md_a S 88 (S.1 87).toInt.toNat p1) 90 (S.1 87).toInt.toNat p2) 91 (S.1 87).toInt.toNat p3 = _
      rw [e88]
    by_cases c2 : p2 = -1
    · rw [if_pos c2] at hq
      exact base 0 (by rw [if_pos c2]) _ eX hq
    · rw [if_neg c2] at hq
      obtain ⟨-, -, hq⟩ := iv_ix hq
      refine base _ ?_ _ eX hq
      rw [if_neg c2]
      rfl
end FMR
