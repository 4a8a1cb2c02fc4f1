/-! laying out what was read -/
theorem dc_it1 {α β : Type} {step : α → Option (α ⊕ β)} {x : α} {F : β → Prop} (h : dc_wp (step x) (Sum.elim (fun y => dc_wp (dc_it step y) F) F)) : dc_wp (dc_it step x) F := by
  obtain ⟨q, e, hf⟩ := h
  cases q with
  | inl y =>
    obtain ⟨b, e2, hb⟩ := hf
    obtain ⟨n, e3⟩ := dc_it_iff.mp e2
    refine ⟨b, dc_it_iff.mpr ⟨n + 1, ?_⟩, hb⟩
    unfold dc_itN; rw [e]; exact e3
  | inr z =>
    refine ⟨z, dc_it_iff.mpr ⟨1, ?_⟩, hf⟩
    unfold dc_itN; rw [e]
theorem dc_ixT {τ : Type} {i : Int32} {n : Nat} {f : Nat → Option τ} {F : τ → Prop} (h0 : 0 ≤ i.toInt) (h1 : i.toInt < (n : Int)) (k : dc_wp (f i.toInt.toNat) F) : dc_wp ((dc_ix i n).bind f) F :=
  dc_ixI h0 h1 (fun j hj => by rw [show j = i.toInt.toNat by omega]; exact k)
theorem dc_ifP {τ : Type} {c : Prop} [Decidable c] {E1 E2 : Option τ} {F : τ → Prop} (h : c) (k : dc_wp E1 F) : dc_wp (if c then E1 else E2) F := by rw [if_pos h]; exact k
theorem dc_ifN {τ : Type} {c : Prop} [Decidable c] {E1 E2 : Option τ} {F : τ → Prop} (h : ¬ c) (k : dc_wp E2 F) : dc_wp (if c then E1 else E2) F := by rw [if_neg h]; exact k
theorem sb_dn (f : Nat → Int32) {j i : Nat} (x : Int32) (h : ¬ i = j) : upd f j x i = f i := if_neg h
theorem sb_ue (f : Nat → Int32) {j i : Nat} (x : Int32) (h : i = j) : upd f j x i = x := if_pos h
/-- what a laid piece points to is there -/
def sb_pl (S : md_S) (i : Nat) : Prop := (S.2.1 63 i = 0 ∧ 0 ≤ (S.2.1 64 i).toInt ∧ (S.2.1 64 i).toInt < 400) ∨ (S.2.1 63 i = 1 ∧ 0 ≤ (S.2.1 64 i).toInt ∧ (S.2.1 64 i).toInt < 1000) ∨ ((S.2.1 63 i = 2 ∨ S.2.1 63 i = 3) ∧ (0 ≤ (S.2.1 64 i).toInt ∧ (S.2.1 64 i).toInt < 1000) ∧ (0 ≤ (S.2.1 65 i).toInt ∧ (S.2.1 65 i).toInt < 1000))
/-- a test of c pieces is laid; up is where it hangs -/
def sb_AR (S q : md_S) (up : Int) (c n : Int) : Prop :=
  md_fr [43] [63, 64, 65, 99] false false S q ∧ ((S.1 43).toInt < (q.1 43).toInt ∧ (q.1 43).toInt ≤ (S.1 43).toInt + c) ∧
  (∀ i : Nat, (i : Int) < (S.1 43).toInt → q.2.1 63 i = S.2.1 63 i ∧ (¬ up = 2 * (i : Int) → q.2.1 64 i = S.2.1 64 i) ∧ (¬ up = 2 * (i : Int) + 1 → q.2.1 65 i = S.2.1 65 i)) ∧
  ((q.1 43).toInt ≤ 1000 → (∀ i : Nat, (i : Int) < (S.1 43).toInt → (up = 2 * (i : Int) → q.2.1 64 i = S.1 43) ∧ (up = 2 * (i : Int) + 1 → q.2.1 65 i = S.1 43)) ∧ ∀ i : Nat, (S.1 43).toInt ≤ (i : Int) → (i : Int) < (q.1 43).toInt → sb_pl q i) ∧
  (∀ i : Nat, (i : Int) < n → q.2.1 99 i = S.2.1 99 i)
theorem i_shr1 (x : Int32) : (x >>> (1 &&& (31 : Int32))).toInt = x.toInt / 2 := by
  have e : (1 &&& (31 : Int32)) = 1 := by decide
  rw [e, ← Int32.toInt_toBitVec]
  simp [Int.shiftRight_eq_div_pow]
theorem i_and1 (x : Int32) : (x &&& 1).toInt = x.toInt % 2 := by
  have e1 : (x &&& 1).toInt = (x.toBitVec &&& 1#32).toInt := rfl
  have e2 : x.toInt = x.toBitVec.toInt := rfl
  have h1 : (x.toBitVec &&& 1#32).toNat = x.toBitVec.toNat % 2 := by
    rw [BitVec.toNat_and]; exact Nat.and_one_is_mod _
  rw [e1, e2, BitVec.toInt_eq_toNat_cond, BitVec.toInt_eq_toNat_cond, h1]
  have := x.toBitVec.isLt
  split <;> split <;> omega
theorem i_and1' (x : Int32) : (x &&& 1) = 1 ↔ x.toInt % 2 = 1 := by
  rw [i_eq, i_and1, il_1]
section ASK
variable {pk pf ps : Nat → Int32} {nm : Int32}
/-- the link from above -/
theorem ask_link {S : md_S} {x2 x3 r up : Int32} {F : (md_S × Int32) ⊕ md_S → Prop} (h43 : 0 ≤ (S.1 43).toInt) (hx : 1 ≤ x3.toInt) (hx2 : x3.toInt ≤ 4000) (e1 : S.2.1 99 (2 * (x3.toInt - 1)).toNat = r) (e2 : S.2.1 99 (2 * (x3.toInt - 1) + 1).toNat = up) (hu : up = -1 ∨ (0 ≤ up.toInt ∧ up.toInt < 2 * (S.1 43).toInt))
    (k : ∀ S1 : md_S, md_fr [] [64, 65] false false S S1 → (∀ i : Nat, (¬ up.toInt = 2 * (i : Int) → S1.2.1 64 i = S.2.1 64 i) ∧ (¬ up.toInt = 2 * (i : Int) + 1 → S1.2.1 65 i = S.2.1 65 i)) → ((S.1 43).toInt < 1000 → ∀ i : Nat, (up.toInt = 2 * (i : Int) → S1.2.1 64 i = S.1 43) ∧ (up.toInt = 2 * (i : Int) + 1 → S1.2.1 65 i = S.1 43)) → dc_wp (mm_ask_L117 S1 x2 (x3 + (-1)) r) F) : dc_wp (mm_ask_b23 S x2 x3) F := by
  have a1 : (x3 + (-1)).toInt = x3.toInt - 1 := by rw [a_add, il_m1]; omega
  have a2 : (2 * (x3 + (-1))).toInt = 2 * (x3.toInt - 1) := by rw [a_mul, il_2, a1]; omega
  have a3 : (2 * (x3 + (-1)) + 1).toInt = 2 * (x3.toInt - 1) + 1 := by rw [a_add, il_1, a2]; omega
  have hno : up = -1 → dc_wp (mm_ask_L117 S x2 (x3 + (-1)) r) F := by
    intro hz
    refine k S md_fr_rf (fun i => ⟨fun _ => rfl, fun _ => rfl⟩) (fun _ i => ?_)
    rw [hz, il_m1]
    exact ⟨fun h => by omega, fun h => by omega⟩
  have hbig : ¬ (S.1 43).toInt < 1000 → dc_wp (mm_ask_L117 S x2 (x3 + (-1)) r) F := fun hz => k S md_fr_rf (fun i => ⟨fun _ => rfl, fun _ => rfl⟩) (fun h => absurd h hz)
  have L88 : (up = -1 ∨ up.toInt % 2 = 0 ∨ ¬ (S.1 43).toInt < 1000) → dc_wp (mm_ask_L88 S x2 (x3 + (-1)) r up) F := by
    intro hz
    unfold mm_ask_L88
    refine dc_ifI hno (fun h1 => ?_)
    have hu2 := hu.resolve_left h1
    refine dc_ifI (fun h2 => ?_) (fun h2 => hbig (fun h3 => h2 (i_lt.mpr (by rw [il_1000]; exact h3))))
    have h2' := i_lt.mp h2
    rw [il_1000] at h2'
    have hev : up.toInt % 2 = 0 := by
      rcases hz with hz | hz | hz
      · exact absurd hz h1
      · exact hz
      · exact absurd h2' hz
    refine dc_ixT (by rw [i_shr1]; omega) (by rw [i_shr1]; omega) ?_
    refine dc_letB ?_; rintro _ rfl
    refine k _ ⟨fun _ _ => rfl, fun j hj => ?_, fun _ => rfl, fun _ => rfl⟩ (fun i => ⟨fun hi => ?_, fun _ => rfl⟩) (fun _ i => ⟨fun hi => ?_, fun hi => by omega⟩)
    · rw [md_a2]; exact if_neg (fun h => hj (by rw [h]; decide))
    · show upd (S.2.1 64) _ _ i = _
      exact sb_dn _ _ (by rw [i_shr1]; omega)
    · show upd (S.2.1 64) _ _ i = _
      exact sb_ue _ _ (by rw [i_shr1]; omega)
  unfold mm_ask_b23
  refine dc_ifP (i_lt.mpr (by rw [il_0]; omega)) ?_
  refine dc_ixT (by omega) (by omega) ?_
  refine dc_letB ?_; rintro _ rfl
  refine dc_ixT (by omega) (by omega) ?_
  refine dc_letB ?_; rintro _ rfl
  rw [a2, a3, e1, e2]
  refine dc_ifI (fun h => L88 (.inl h)) (fun h1 => ?_)
  have hu2 := hu.resolve_left h1
  refine dc_ifI (fun h2 => ?_) (fun h2 => L88 (.inr (.inl ?_)))
  · have h2' := (i_and1' up).mp h2
    refine dc_ifI (fun h3 => ?_) (fun h3 => L88 (.inr (.inr (fun h4 => h3 (i_lt.mpr (by rw [il_1000]; exact h4))))))
    have h3' := i_lt.mp h3
    rw [il_1000] at h3'
    refine dc_ixT (by rw [i_shr1]; omega) (by rw [i_shr1]; omega) ?_
    refine dc_letB ?_; rintro _ rfl
    refine k _ ⟨fun _ _ => rfl, fun j hj => ?_, fun _ => rfl, fun _ => rfl⟩ (fun i => ⟨fun _ => rfl, fun hi => ?_⟩) (fun _ i => ⟨fun hi => by omega, fun hi => ?_⟩)
    · rw [md_a2]; exact if_neg (fun h => hj (by rw [h]; decide))
    · show upd (S.2.1 65) _ _ i = _
      exact sb_dn _ _ (by rw [i_shr1]; omega)
    · show upd (S.2.1 65) _ _ i = _
      exact sb_ue _ _ (by rw [i_shr1]; omega)
  · have : ¬ up.toInt % 2 = 1 := fun h => h2 ((i_and1' up).mpr h)
    omega
end ASK
