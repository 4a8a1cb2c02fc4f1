/-! the reference's explore: one state on one choice of inputs -/
/-- the bit of an output that is present -/
def psB (σ : Nat → Int32) (ins k : Nat) : Int32 := if σ (ins + k) = 1 then (1 : Int32) <<< (Int32.ofNat k &&& (31 : Int32)) else 0
section XSR
variable {S r : md_S} {x1 x2 x3 : Int32} {cnt pa out ins cl : Nat}
theorem x202_r {z : (md_S × Int32) ⊕ md_S} (hpa : pa ≤ 200) (e47 : S.1 47 = Int32.ofNat pa) (hq : mm_explore_L202 S x1 x2 x3 0 0 = some z) : mm_explore_L240 S x1 x2 x3 (oB (thB (S.2.1 75)) pa) = some z := by
  have key : dc_pw (mm_explore_L202 S x1 x2 x3 0 0) (fun z => mm_explore_L240 S x1 x2 x3 (oB (thB (S.2.1 75)) pa) = some z) := by
    delta mm_explore_L202
    refine pw_loop (fun (y : Int32 × Int32) => ∃ k, y.2 = Int32.ofNat k ∧ k ≤ pa ∧ y.1 = oB (thB (S.2.1 75)) k) (fun v => v = oB (thB (S.2.1 75)) pa) ⟨0, rfl, by omega, rfl⟩ ?_ (fun v hv z hz => by rw [← hv]; exact hz)
    rintro ⟨y1, y2⟩ ⟨k, ev, k1, ey⟩
    have ev : y2 = Int32.ofNat k := ev
    have ey : y1 = oB (thB (S.2.1 75)) k := ey
    have tk : (Int32.ofNat k).toInt = (k : Int) := Int32.toInt_ofNat_of_lt (by omega)
    have tkn : (Int32.ofNat k).toInt.toNat = k := by omega
    have tp : (Int32.ofNat pa).toInt = (pa : Int) := Int32.toInt_ofNat_of_lt (by omega)
    show dc_pw (mm_explore_b202 S x1 x2 x3 y1 y2) _
    rw [ev, ey]
    delta mm_explore_b202
    rw [e47]
    refine pw_ifc (fun c => ?_) (fun c => ?_)
    · have c := i_lt.mp c
      rw [tk, tp] at c
      refine pw_ix (fun _ _ => ?_)
      rw [tkn]
      delta mm_explore_L231
      refine pw_ifc (fun d => ?_) (fun d => ?_)
      · refine pw_some ⟨k + 1, ad_m (by omega), by omega, ?_⟩
        show oB (thB (S.2.1 75)) k ||| 0 = oB (thB (S.2.1 75)) k ||| thB (S.2.1 75) k
        unfold thB
        rw [if_pos d]
      · refine pw_some ⟨k + 1, ad_m (by omega), by omega, ?_⟩
        show oB (thB (S.2.1 75)) k ||| ((1 : Int32) <<< (Int32.ofNat k &&& (31 : Int32))) = oB (thB (S.2.1 75)) k ||| thB (S.2.1 75) k
        unfold thB
        rw [if_neg d]
    · have c : ¬ (Int32.ofNat k).toInt < (Int32.ofNat pa).toInt := fun z => c (i_lt.mpr z)
      rw [tk, tp] at c
      have : k = pa := by omega
      subst this
      exact pw_some rfl
  exact key z hq
theorem x276_r {z : (md_S × Int32) ⊕ md_S} (ho : out ≤ 31) (e45 : S.1 45 = Int32.ofNat ins) (hi : ins ≤ 31) (e46 : S.1 46 = Int32.ofNat out) (hcl : 16 * x2 + x3 = Int32.ofNat cl) (hc2 : cl < 4112) (h93 : S.2.1 93 cl = 0) (hq : mm_explore_L276 S x1 x2 x3 0 = some z) : ∃ Z : md_S, z = .inl (Z, x3 + 1) ∧ Z.1 = S.1 ∧ (∀ i, ¬ i = 93 → Z.2.1 i = S.2.1 i) ∧ ∀ i, Z.2.1 93 i = if i = cl then oB (psB (S.2.1 70) ins) out else S.2.1 93 i := by
  have tcl : (Int32.ofNat cl).toInt.toNat = cl := by rw [Int32.toInt_ofNat_of_lt (by omega)]; omega
  have key : dc_pw (mm_explore_L276 S x1 x2 x3 0) (fun z => ∃ Z : md_S, z = .inl (Z, x3 + 1) ∧ Z.1 = S.1 ∧ (∀ i, ¬ i = 93 → Z.2.1 i = S.2.1 i) ∧ ∀ i, Z.2.1 93 i = if i = cl then oB (psB (S.2.1 70) ins) out else S.2.1 93 i) := by
    delta mm_explore_L276
    refine pw_loop (fun (y : md_S × Int32) => ∃ k, y.2 = Int32.ofNat k ∧ k ≤ out ∧ y.1.1 = S.1 ∧ (∀ i, ¬ i = 93 → y.1.2.1 i = S.2.1 i) ∧ ∀ i, y.1.2.1 93 i = if i = cl then oB (psB (S.2.1 70) ins) k else S.2.1 93 i) (fun Z => Z.1 = S.1 ∧ (∀ i, ¬ i = 93 → Z.2.1 i = S.2.1 i) ∧ ∀ i, Z.2.1 93 i = if i = cl then oB (psB (S.2.1 70) ins) out else S.2.1 93 i) ⟨0, rfl, by omega, rfl, fun _ _ => rfl, fun i => ?_⟩ ?_ (fun Z hZ z hz => ⟨Z, (Option.some.inj hz).symm, hZ⟩)
    · show S.2.1 93 i = if i = cl then (0 : Int32) else S.2.1 93 i
      by_cases e : i = cl
      · rw [if_pos e, e, h93]
      · rw [if_neg e]
    rintro ⟨Y, v⟩ ⟨k, ev, k1, f1, f2, f3⟩
    have ev : v = Int32.ofNat k := ev
    have f1 : Y.1 = S.1 := f1
    have f2 : ∀ i, ¬ i = 93 → Y.2.1 i = S.2.1 i := f2
    have f3 : ∀ i, Y.2.1 93 i = if i = cl then oB (psB (S.2.1 70) ins) k else S.2.1 93 i := f3
    subst ev
    have tk : (Int32.ofNat k).toInt = (k : Int) := Int32.toInt_ofNat_of_lt (by omega)
    have to : (Int32.ofNat out).toInt = (out : Int) := Int32.toInt_ofNat_of_lt (by omega)
    have e3 : Int32.ofNat ins + Int32.ofNat k = Int32.ofNat (ins + k) := by rw [Int32.ofNat_add]
    have t3 : (Int32.ofNat (ins + k)).toInt.toNat = ins + k := by rw [Int32.toInt_ofNat_of_lt (by omega)]; omega
    have put : ∀ w : Int32, w = psB (S.2.1 70) ins k → k < out → dc_pw (mm_explore_L321 Y x1 x2 x3 (Int32.ofNat k) w (Y.2.1 93 cl) (Int32.ofNat cl)) (Sum.elim (fun (y : md_S × Int32) => ∃ k, y.2 = Int32.ofNat k ∧ k ≤ out ∧ y.1.1 = S.1 ∧ (∀ i, ¬ i = 93 → y.1.2.1 i = S.2.1 i) ∧ ∀ i, y.1.2.1 93 i = if i = cl then oB (psB (S.2.1 70) ins) k else S.2.1 93 i) (fun Z => Z.1 = S.1 ∧ (∀ i, ¬ i = 93 → Z.2.1 i = S.2.1 i) ∧ ∀ i, Z.2.1 93 i = if i = cl then oB (psB (S.2.1 70) ins) out else S.2.1 93 i)) := by
      intro w ew hk
      delta mm_explore_L321
      refine pw_ix (fun _ _ => ?_)
      rw [tcl]
      refine pw_some ⟨k + 1, ad_m (by omega), by omega, f1, fun i hi => by show (md_a Y 93 cl (Y.2.1 93 cl ||| w)).2.1 i = _; rw [md_a2, if_neg hi]; exact f2 i hi, fun i => ?_⟩
      show (md_a Y 93 cl (Y.2.1 93 cl ||| w)).2.1 93 i = _
      rw [md_a2, if_pos rfl]
      by_cases e : i = cl
      · subst e
        rw [upd_s, if_pos rfl, f3, if_pos rfl, ew]
        rfl
      · rw [upd_n e, f3, if_neg e, if_neg e]
    show dc_pw (mm_explore_b276 Y x1 x2 x3 (Int32.ofNat k)) _
    delta mm_explore_b276
    rw [f1, e46, e45, e3, hcl]
    refine pw_ifc (fun c => ?_) (fun c => ?_)
    · have c := i_lt.mp c
      rw [tk, to] at c
      refine pw_ix (fun _ _ => ?_)
      refine pw_ix (fun _ _ => ?_)
      rw [tcl, t3, f2 70 (by omega)]
      refine pw_ifc (fun d => ?_) (fun d => ?_)
      · exact put _ (by unfold psB; rw [if_pos d]) (by omega)
      · exact put 0 (by unfold psB; rw [if_neg d]) (by omega)
    · have c : ¬ (Int32.ofNat k).toInt < (Int32.ofNat out).toInt := fun z => c (i_lt.mpr z)
      rw [tk, to] at c
      have : k = out := by omega
      subst this
      exact pw_some ⟨f1, f2, f3⟩
  exact key z hq
end XSR
