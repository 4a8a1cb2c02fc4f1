/-! the class copies a test: one piece -/
theorem it_go {α β : Type} {step : α → Option (α ⊕ β)} {x : α} {Φ : β → Prop} (h : dc_wp (step x) (Sum.elim (fun y => dc_wp (dc_it step y) Φ) Φ)) : dc_wp (dc_it step x) Φ := by
  obtain ⟨q, eq, hq⟩ := h
  rw [dc_it_eq, eq, Option.bind_some]
  cases q with
  | inl y => exact hq
  | inr z => exact ⟨z, rfl, hq⟩
theorem upd_uu {f : Nat → Int32} {k : Nat} {x y : Int32} : upd (upd f k x) k y = upd f k y := by
  funext j
  by_cases c : j = k
  · rw [c, upd_s, upd_s]
  · rw [upd_n c, upd_n c, upd_n c]
section CPP
variable {G : hg_E} {S0 S : hg_S} {o pc dp : Nat} {a N : Nat → Nat} {R : Nat → Nat → Int32} {made : Int32}
/-- what a piece's copying has changed -/
def cpR (R R' : Nat → Nat → Int32) (e k : Nat) : Prop :=
  (∀ i, ¬ (i = 11 ∨ i = 12 ∨ i = 13 ∨ i = 14 ∨ i = 16) → R' i = R i) ∧ R' 11 = upd (R 11) k (R 17 e) ∧ R' 14 = upd (R 14) k (R 20 e) ∧ R' 12 = upd (R 12) k (if R 17 e = 0 then R 18 e else Int32.ofNat (k + 1)) ∧ R' 13 = upd (R 13) k (if R 19 e = -1 then -1 else Int32.ofNat (k + 1) + R 20 (R 18 e).toInt.toNat) ∧ ∀ j, R' 16 j = if ¬ R 19 e = -1 ∧ j = (R 19 e).toInt.toNat then Int32.ofNat (k + 1) + R 20 (R 18 e).toInt.toNat else if ¬ R 17 e = 0 ∧ j = (R 18 e).toInt.toNat then Int32.ofNat (k + 1) else R 16 j
theorem cp90 (v : GV G S0 S o pc dp a N R made) {k : Nat} {x4 x5 : Int32} (hk : k < 5000 ∧ k < N 13) (h5 : x5 = -1 ∨ ((0 ≤ x5.toInt ∧ x5.toInt < (N 16 : Int)) ∧ 0 ≤ x4.toInt ∧ x4.toInt < (N 20 : Int))) {Φ : hg_S → Prop} (kk : ∀ S' R', GV G S0 S' o pc dp a N R' made → (R' = if x5 = -1 then R else fU (fU R 13 k (Int32.ofNat (k + 1) + R 20 x4.toInt.toNat)) 16 x5.toInt.toNat (Int32.ofNat (k + 1) + R 20 x4.toInt.toNat)) → Φ S') : dc_wp (hm_PI_copyPiece_L90 G S pc (some dp) (Int32.ofNat k) x4 x5) Φ := by
  have tk : (Int32.ofNat k).toInt = (k : Int) := Int32.toInt_ofNat_of_lt (by omega)
  have tkn : (Int32.ofNat k).toInt.toNat = k := by omega
  delta hm_PI_copyPiece_L90
  refine wq_if (fun c => ?_) (fun c => ?_)
  · exact ⟨S, rfl, kk S R v (by rw [if_pos c])⟩
  · obtain ⟨h6, h7⟩ := h5.resolve_left c
    refine wg_pi v (i := 2) (by omega) ?_
    refine wg_dr v (i := 3) (by omega) ?_
    refine wg_ld v (i := 20) (by omega) h7.1 h7.2 ?_
    refine wg_st v (i := 13) (by omega) (by omega) (by rw [tk]; omega) (fun S1 v1 => ?_)
    rw [tkn, ad_n (by omega)] at v1
    refine wg_dr v1 (i := 4) (by omega) ?_
    refine wg_pi v1 (i := 2) (by omega) ?_
    refine wg_ld v1 (i := 13) (by omega) (by omega) (by rw [tk]; omega) ?_
    rw [tkn, fU_s]
    refine wg_st v1 (i := 16) (by omega) h6.1 h6.2 (fun S2 v2 => ?_)
    exact ⟨S2, rfl, kk S2 _ v2 (by rw [if_neg c])⟩
/-- the same, ahead of the second part -/
def cpM (R R' : Nat → Nat → Int32) (e k : Nat) : Prop :=
  (∀ i, ¬ (i = 11 ∨ i = 12 ∨ i = 13 ∨ i = 14 ∨ i = 16) → R' i = R i) ∧ R' 11 = upd (R 11) k (R 17 e) ∧ R' 14 = upd (R 14) k (R 20 e) ∧ R' 12 = upd (R 12) k (if R 17 e = 0 then R 18 e else Int32.ofNat (k + 1)) ∧ R' 13 = upd (R 13) k (-1) ∧ ∀ j, R' 16 j = if ¬ R 17 e = 0 ∧ j = (R 18 e).toInt.toNat then Int32.ofNat (k + 1) else R 16 j
theorem cp_fin {R' R2 : Nat → Nat → Int32} {e k : Nat} (h : cpM R R' e k) (e2 : R2 = if R 19 e = -1 then R' else fU (fU R' 13 k (Int32.ofNat (k + 1) + R' 20 (R 18 e).toInt.toNat)) 16 (R 19 e).toInt.toNat (Int32.ofNat (k + 1) + R' 20 (R 18 e).toInt.toNat)) : cpR R R2 e k := by
  obtain ⟨h1, h2, h3, h4, h5, h6⟩ := h
  unfold cpR
  rw [h1 20 (by omega)] at e2
  by_cases c : R 19 e = -1
  · rw [if_pos c] at e2
    subst e2
    rw [if_pos c]
    refine ⟨h1, h2, h3, h4, h5, fun j => ?_⟩
    rw [if_neg (fun z => z.1 c)]
    exact h6 j
  · rw [if_neg c] at e2
    subst e2
    rw [if_neg c]
    refine ⟨fun i hi => ?_, ?_, ?_, ?_, ?_, fun j => ?_⟩
    · rw [fU_r (by omega), fU_r (by omega)]; exact h1 i hi
    · rw [fU_r (by omega), fU_r (by omega)]; exact h2
    · rw [fU_r (by omega), fU_r (by omega)]; exact h3
    · rw [fU_r (by omega), fU_r (by omega)]; exact h4
    · rw [fU_r (by omega), fU_ru, h5, upd_uu]
    · by_cases d : j = (R 19 e).toInt.toNat
      · rw [if_pos ⟨c, d⟩, d, fU_s]
      · rw [if_neg (fun z => d z.2), fU_k d, fU_i (by omega)]
        exact h6 j
theorem cpp_w (v : GV G S0 S o pc dp a N R made) {e k : Nat} (he : e < 100000 ∧ ∀ i, 16 ≤ i → i < 21 → e < N i) (hk : k < 5000 ∧ ∀ i, 11 ≤ i → i < 15 → k < N i) (h16 : R 16 e = Int32.ofNat k) (h0 : R 17 e = 0 ∨ (0 ≤ (R 18 e).toInt ∧ (R 18 e).toInt < (N 16 : Int))) (h5 : R 19 e = -1 ∨ ((0 ≤ (R 19 e).toInt ∧ (R 19 e).toInt < (N 16 : Int)) ∧ 0 ≤ (R 18 e).toInt ∧ (R 18 e).toInt < (N 20 : Int))) : dc_wp (hm_PI_copyPiece G S pc (some dp) (Int32.ofNat e)) (fun S' => ∃ R', GV G S0 S' o pc dp a N R' made ∧ cpR R R' e k) := by
  have te : (Int32.ofNat e).toInt = (e : Int) := Int32.toInt_ofNat_of_lt (by omega)
  have ten : (Int32.ofNat e).toInt.toNat = e := by omega
  have tk : (Int32.ofNat k).toInt = (k : Int) := Int32.toInt_ofNat_of_lt (by omega)
  have tkn : (Int32.ofNat k).toInt.toNat = k := by omega
  have n16 := he.2 16 (by omega) (by omega)
  have n17 := he.2 17 (by omega) (by omega)
  have n18 := he.2 18 (by omega) (by omega)
  have n19 := he.2 19 (by omega) (by omega)
  have n20 := he.2 20 (by omega) (by omega)
  have n11 := hk.2 11 (by omega) (by omega)
  have n12 := hk.2 12 (by omega) (by omega)
  have n13 := hk.2 13 (by omega) (by omega)
  have n14 := hk.2 14 (by omega) (by omega)
  delta hm_PI_copyPiece
  refine wg_dr v (i := 4) (by omega) ?_
  refine wg_ld v (i := 16) (by omega) (by omega) (by rw [te]; omega) ?_
  rw [ten, h16]
  refine wg_dr v (i := 1) (by omega) ?_
  refine wg_ld v (i := 18) (by omega) (by omega) (by rw [te]; omega) ?_
  rw [ten]
  refine wg_dr v (i := 2) (by omega) ?_
  refine wg_ld v (i := 19) (by omega) (by omega) (by rw [te]; omega) ?_
  rw [ten]
  refine wg_pi v (i := 0) (by omega) ?_
  refine wg_dr v (i := 0) (by omega) ?_
  refine wg_ld v (i := 17) (by omega) (by omega) (by rw [te]; omega) ?_
  rw [ten]
  refine wg_st v (i := 11) (by omega) (by omega) (by rw [tk]; omega) (fun S1 v1 => ?_)
  rw [tkn] at v1
  refine wg_pi v1 (i := 3) (by omega) ?_
  refine wg_dr v1 (i := 3) (by omega) ?_
  refine wg_ld v1 (i := 20) (by omega) (by omega) (by rw [te]; omega) ?_
  rw [ten]
  refine wg_st v1 (i := 14) (by omega) (by omega) (by rw [tk]; omega) (fun S2 v2 => ?_)
  rw [tkn] at v2
  refine wg_pi v2 (i := 1) (by omega) ?_
  refine wg_st v2 (i := 12) (by omega) (by omega) (by rw [tk]; omega) (fun S3 v3 => ?_)
  rw [tkn] at v3
  refine wg_pi v3 (i := 2) (by omega) ?_
  refine wg_st v3 (i := 13) (by omega) (by omega) (by rw [tk]; omega) (fun S4 v4 => ?_)
  rw [tkn] at v4
  refine wg_pi v4 (i := 0) (by omega) ?_
  refine wg_ld v4 (i := 11) (by omega) (by omega) (by rw [tk]; omega) ?_
  have f4 : ∀ i, ¬ (i = 11 ∨ i = 12 ∨ i = 13 ∨ i = 14) → fU (fU (fU (fU R 11 k (R 17 e)) 14 k (fU R 11 k (R 17 e) 20 e)) 12 k (R 18 e)) 13 k (-1) i = R i := fun i hi => by
    rw [fU_r (by omega), fU_r (by omega), fU_r (by omega), fU_r (by omega)]
  have f11 : fU (fU (fU (fU R 11 k (R 17 e)) 14 k (fU R 11 k (R 17 e) 20 e)) 12 k (R 18 e)) 13 k (-1) 11 = upd (R 11) k (R 17 e) := by
    rw [fU_r (by omega), fU_r (by omega), fU_r (by omega), fU_ru]
  have f14 : fU (fU (fU (fU R 11 k (R 17 e)) 14 k (fU R 11 k (R 17 e) 20 e)) 12 k (R 18 e)) 13 k (-1) 14 = upd (R 14) k (R 20 e) := by
    rw [fU_r (by omega), fU_r (by omega), fU_ru, fU_r (by omega), fU_i (by omega)]
  have f12 : fU (fU (fU (fU R 11 k (R 17 e)) 14 k (fU R 11 k (R 17 e) 20 e)) 12 k (R 18 e)) 13 k (-1) 12 = upd (R 12) k (R 18 e) := by
    rw [fU_r (by omega), fU_ru, fU_r (by omega), fU_r (by omega)]
  have f13 : fU (fU (fU (fU R 11 k (R 17 e)) 14 k (fU R 11 k (R 17 e) 20 e)) 12 k (R 18 e)) 13 k (-1) 13 = upd (R 13) k (-1) := by
    rw [fU_ru, fU_r (by omega), fU_r (by omega), fU_r (by omega)]
  generalize fU (fU (fU (fU R 11 k (R 17 e)) 14 k (fU R 11 k (R 17 e) 20 e)) 12 k (R 18 e)) 13 k (-1) = R4 at v4 f4 f11 f14 f12 f13
  rw [tkn, f11, upd_s]
  refine wq_if (fun c => ?_) (fun c => ?_)
  · refine cp90 v4 ⟨hk.1, n13⟩ h5 (fun S' R' v' eR => ⟨R', v', cp_fin (R' := R4) ⟨fun i hi => f4 i (by omega), f11, f14, by rw [if_pos c]; exact f12, f13, fun j => ?_⟩ eR⟩)
    rw [if_neg (fun z => z.1 c), f4 16 (by omega)]
  · have h0' := h0.resolve_left c
    refine wg_pi v4 (i := 1) (by omega) ?_
    refine wg_st v4 (i := 12) (by omega) (by omega) (by rw [tk]; omega) (fun S5 v5 => ?_)
    rw [tkn, ad_n (by omega)] at v5
    refine wg_dr v5 (i := 4) (by omega) ?_
    refine wg_st v5 (i := 16) (by omega) h0'.1 h0'.2 (fun S6 v6 => ?_)
    rw [ad_n (by omega)] at v6
    refine cp90 v6 ⟨hk.1, n13⟩ h5 (fun S' R' v' eR => ⟨R', v', cp_fin (R' := fU (fU R4 12 k (Int32.ofNat (k + 1))) 16 (R 18 e).toInt.toNat (Int32.ofNat (k + 1))) ⟨fun i hi => ?_, ?_, ?_, ?_, ?_, fun j => ?_⟩ eR⟩)
    · rw [fU_r (by omega), fU_r (by omega)]; exact f4 i (by omega)
    · rw [fU_r (by omega), fU_r (by omega)]; exact f11
    · rw [fU_r (by omega), fU_r (by omega)]; exact f14
    · rw [fU_r (by omega), fU_ru, f12, upd_uu, if_neg c]
    · rw [fU_r (by omega), fU_r (by omega)]; exact f13
    · by_cases d : j = (R 18 e).toInt.toNat
      · rw [if_pos ⟨c, d⟩, d, fU_s]
      · rw [if_neg (fun z => d z.2), fU_k d, fU_i (by omega), f4 16 (by omega)]
end CPP
