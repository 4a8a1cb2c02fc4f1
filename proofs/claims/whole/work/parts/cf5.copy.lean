/-! the class's program: the rows are copied -/
section CPY
variable {G : hg_E} {S0 S : hg_S} {o pc dp : Nat} {a N : Nat → Nat} {R : Nat → Nat → Int32} {made : Int32} {P : Nat → Nat} {c1 c2 : Nat → Option Nat} {F : Nat → Nat → Int32} {m a5 a7 xc : Nat} {xx : Nat → Int32} {D : Nat → Int32}
/-- the draft is as it was -/
theorem GV_DV (d : DV G S0 a5 dp a7 P m c1 c2 (a 20) xc xx F D) (v : GV G S0 S o pc dp a N R made) (hx : R 20 = xx) (n5 : a5 ≠ pc) (n7 : a7 ≠ pc) (nP : ∀ i, i < m → P i ≠ pc) : DV G S a5 dp a7 P m c1 c2 (a 20) xc xx F D := by
  obtain ⟨⟨w1, w2⟩, w3, ⟨y0, y1, y2, y4, y5, w4⟩, w5, ⟨e, md, cap, el, w6, w7, w8, w9⟩, w10⟩ := d
  have ndp : dp ≠ pc := by obtain ⟨-, -, h⟩ := v.2.2.2.2.2.2; exact h
  refine ⟨⟨v.1.1, w2⟩, v.ob w3 n5, ⟨y0, y1, y2, y4, y5, v.ob w4 ndp⟩, ?_, ⟨e, md, cap, el, v.ob w6 n7, ?_, w8, w9⟩, fun i hi => ⟨v.ob (w10 i hi).1 (nP i hi), (w10 i hi).2⟩⟩
  · obtain ⟨h1, f, h2⟩ := v.2.1 20 (by omega)
    rw [w5] at h2
    have h2 := Option.some.inj h2
    have h3 : xc = N 20 := by
      have := congrArg (fun y : va_E => match y with | .inl (_, n, _) => n | .inr _ => 0) h2
      exact this
    rw [h1, hx, h3]
  · refine (v.2.2.2.2.1 e (fun i hi t => ?_) (fun t => ?_)).trans w7
    · obtain ⟨-, f, h2⟩ := v.2.1 i hi
      rw [← t, w7] at h2
      have h2 : false = true := congrArg (fun y : Option va_E => match y with | some (.inl (_, _, .inl _)) => true | _ => false) h2
      cases h2
    · obtain ⟨y, h2⟩ := v.2.2.2.1.2
      rw [← t, w7] at h2
      cases h2
/-- where a child lies, or none -/
def plN (F : Nat → Nat → Int32) : Option Nat → Int32
  | none => -1
  | some c => F c 8
/-- what a node's copying has changed -/
def cyR (c1 c2 : Nat → Option Nat) (F : Nat → Nat → Int32) (R R' : Nat → Nat → Int32) (i p : Nat) : Prop :=
  (∀ k, ¬ k < 8 → R' k = R k) ∧ R' 0 = upd (R 0) p (F i 0) ∧ R' 1 = upd (R 1) p (plN F (c1 i)) ∧ R' 2 = upd (R 2) p (plN F (c2 i)) ∧ R' 3 = upd (R 3) p (F i 9) ∧ R' 4 = upd (R 4) p (F i 4) ∧ R' 5 = upd (R 5) p (F i 12) ∧ R' 6 = upd (R 6) p (F i 1) ∧ R' 7 = upd (R 7) p (F i 11)
theorem cy62 (v : GV G S0 S o pc dp a N R made) (no : o ≠ pc) {i p : Nat} {x : Int32} (hn : hg_at S0.1 (P i) = some (.inr (8, nrow P (c1 i) (c2 i) (F i)))) (nP : P i ≠ pc) (hx : x.toInt = (p : Int)) (hp : ∀ k, k < 11 → p < N k) {y0 : Int32} {Φ : hg_S → Prop} (kk : ∀ S' R', GV G S0 S' o pc dp a N R' made → (∀ k, ¬ (k = 2 ∨ (3 ≤ k ∧ k ≤ 7)) → R' k = R k) → R' 2 = upd (R 2) p y0 → R' 3 = upd (R 3) p (F i 9) → R' 4 = upd (R 4) p (F i 4) → R' 5 = upd (R 5) p (F i 12) → R' 6 = upd (R 6) p (F i 1) → R' 7 = upd (R 7) p (F i 11) → Φ S') : dc_wp (hm_PG_copy_L62 G S o (some (P i)) x y0 x (some (a 2))) Φ := by
  have xn : x.toInt.toNat = p := by omega
  have n2 := hp 2 (by omega)
  have n3 := hp 3 (by omega)
  have n4 := hp 4 (by omega)
  have n5 := hp 5 (by omega)
  have n6 := hp 6 (by omega)
  have n7 := hp 7 (by omega)
  delta hm_PG_copy_L62
  refine wg_st v (i := 2) (by omega) (by omega) (by omega) (fun S1 v1 => ?_)
  rw [xn] at v1
  refine wg_pg v1 no (i := 3) (by omega) rfl ?_
  refine wq_gi (x := F i 9) (v1.ob hn nP) rfl ?_
  refine wg_st v1 (i := 3) (by omega) (by omega) (by omega) (fun S2 v2 => ?_)
  rw [xn] at v2
  refine wg_pg v2 no (i := 4) (by omega) rfl ?_
  refine wq_gi (x := F i 4) (v2.ob hn nP) rfl ?_
  refine wg_st v2 (i := 4) (by omega) (by omega) (by omega) (fun S3 v3 => ?_)
  rw [xn] at v3
  refine wg_pg v3 no (i := 5) (by omega) rfl ?_
  refine wq_gi (x := F i 12) (v3.ob hn nP) rfl ?_
  refine wg_st v3 (i := 5) (by omega) (by omega) (by omega) (fun S4 v4 => ?_)
  rw [xn] at v4
  refine wg_pg v4 no (i := 6) (by omega) rfl ?_
  refine wq_gi (x := F i 1) (v4.ob hn nP) rfl ?_
  refine wg_st v4 (i := 6) (by omega) (by omega) (by omega) (fun S5 v5 => ?_)
  rw [xn] at v5
  refine wg_pg v5 no (i := 7) (by omega) rfl ?_
  refine wq_gi (x := F i 11) (v5.ob hn nP) rfl ?_
  refine wg_st v5 (i := 7) (by omega) (by omega) (by omega) (fun S6 v6 => ?_)
  rw [xn] at v6
  refine ⟨S6, rfl, kk S6 _ v6 (fun k hk => ?_) ?_ ?_ ?_ ?_ ?_ ?_⟩
  · rw [fU_r (by omega), fU_r (by omega), fU_r (by omega), fU_r (by omega), fU_r (by omega), fU_r (by omega)]
  · rw [fU_r (by omega), fU_r (by omega), fU_r (by omega), fU_r (by omega), fU_r (by omega), fU_ru]
  · rw [fU_r (by omega), fU_r (by omega), fU_r (by omega), fU_r (by omega), fU_ru, fU_r (by omega)]
  · rw [fU_r (by omega), fU_r (by omega), fU_r (by omega), fU_ru, fU_r (by omega), fU_r (by omega)]
  · rw [fU_r (by omega), fU_r (by omega), fU_ru, fU_r (by omega), fU_r (by omega), fU_r (by omega)]
  · rw [fU_r (by omega), fU_ru, fU_r (by omega), fU_r (by omega), fU_r (by omega), fU_r (by omega)]
  · rw [fU_ru, fU_r (by omega), fU_r (by omega), fU_r (by omega), fU_r (by omega), fU_r (by omega)]
theorem cy38 (v : GV G S0 S o pc dp a N R made) (no : o ≠ pc) {i p : Nat} {x : Int32} (hn : ∀ j, j < m → hg_at S0.1 (P j) = some (.inr (8, nrow P (c1 j) (c2 j) (F j))) ∧ P j ≠ pc) (hi : i < m) (hc2 : ∀ c, c2 i = some c → c < m) (hx : x.toInt = (p : Int)) (hp : ∀ k, k < 11 → p < N k) {y0 : Int32} {Φ : hg_S → Prop} (kk : ∀ S' R', GV G S0 S' o pc dp a N R' made → (∀ k, ¬ (1 ≤ k ∧ k ≤ 7) → R' k = R k) → R' 1 = upd (R 1) p y0 → R' 2 = upd (R 2) p (plN F (c2 i)) → R' 3 = upd (R 3) p (F i 9) → R' 4 = upd (R 4) p (F i 4) → R' 5 = upd (R 5) p (F i 12) → R' 6 = upd (R 6) p (F i 1) → R' 7 = upd (R 7) p (F i 11) → Φ S') : dc_wp (hm_PG_copy_L38 G S o (some (P i)) x y0 x (some (a 1))) Φ := by
  have xn : x.toInt.toNat = p := by omega
  have n1 := hp 1 (by omega)
  obtain ⟨hni, nPi⟩ := hn i hi
  delta hm_PG_copy_L38
  refine wg_st v (i := 1) (by omega) (by omega) (by omega) (fun S1 v1 => ?_)
  rw [xn] at v1
  refine wg_pg v1 no (i := 2) (by omega) rfl ?_
  refine wq_gr (x := (c2 i).map P) (v1.ob hni nPi) rfl ?_
  have go : ∀ y, y = plN F (c2 i) → dc_wp (hm_PG_copy_L62 G S1 o (some (P i)) x y x (some (a 2))) Φ := by
    intro y ey
    refine cy62 v1 no hni nPi hx hp (fun S' R' v' e0 e2 e3 e4 e5 e6 e7 => kk S' R' v' (fun k hk => ?_) ?_ ?_ ?_ ?_ ?_ ?_ ?_)
    · rw [e0 k (by omega), fU_r (by omega)]
    · rw [e0 1 (by omega), fU_ru]
    · rw [e2, fU_r (by omega), ey]
    · rw [e3, fU_r (by omega)]
    · rw [e4, fU_r (by omega)]
    · rw [e5, fU_r (by omega)]
    · rw [e6, fU_r (by omega)]
    · rw [e7, fU_r (by omega)]
  cases ec : c2 i with
  | none =>
    show dc_wp (if (none : Option Nat) = none then _ else _) _
    rw [if_pos rfl]
    exact go _ (by rw [ec]; rfl)
  | some c =>
    show dc_wp (if some (P c) = none then _ else _) _
    rw [if_neg (fun z => by cases z)]
    refine wq_gr (x := some (P c)) (v1.ob hni nPi) ?_ ?_
    · show some (va_rf ((c2 i).map P)) = _
      rw [ec]; rfl
    · obtain ⟨hnc, nPc⟩ := hn c (hc2 c ec)
      refine wq_gi (x := F c 8) (v1.ob hnc nPc) rfl ?_
      exact go _ (by rw [ec]; rfl)
theorem cy_w (v : GV G S0 S o pc dp a N R made) (no : o ≠ pc) {i p : Nat} (hn : ∀ j, j < m → hg_at S0.1 (P j) = some (.inr (8, nrow P (c1 j) (c2 j) (F j))) ∧ P j ≠ pc) (hi : i < m) (hc1 : ∀ c, c1 i = some c → c < m) (hc2 : ∀ c, c2 i = some c → c < m) (hx : (F i 8).toInt = (p : Int)) (hp : ∀ k, k < 11 → p < N k) : dc_wp (hm_PG_copy G S o (some (P i))) (fun S' => ∃ R', GV G S0 S' o pc dp a N R' made ∧ cyR c1 c2 F R R' i p) := by
  have xn : (F i 8).toInt.toNat = p := by omega
  have n0 := hp 0 (by omega)
  obtain ⟨hni, nPi⟩ := hn i hi
  delta hm_PG_copy
  refine wq_gi (x := F i 8) (v.ob hni nPi) rfl ?_
  refine wg_pg v no (i := 0) (by omega) rfl ?_
  refine wq_gi (x := F i 0) (v.ob hni nPi) rfl ?_
  refine wg_st v (i := 0) (by omega) (by omega) (by omega) (fun S1 v1 => ?_)
  rw [xn] at v1
  refine wg_pg v1 no (i := 1) (by omega) rfl ?_
  refine wq_gr (x := (c1 i).map P) (v1.ob hni nPi) rfl ?_
  have go : ∀ y, y = plN F (c1 i) → dc_wp (hm_PG_copy_L38 G S1 o (some (P i)) (F i 8) y (F i 8) (some (a 1))) (fun S' => ∃ R', GV G S0 S' o pc dp a N R' made ∧ cyR c1 c2 F R R' i p) := by
    intro y ey
    refine cy38 v1 no hn hi hc2 hx hp (fun S' R' v' e0 e1 e2 e3 e4 e5 e6 e7 => ⟨R', v', fun k hk => ?_, ?_, ?_, ?_, ?_, ?_, ?_, ?_, ?_⟩)
    · rw [e0 k (by omega), fU_r (by omega)]
    · rw [e0 0 (by omega), fU_ru]
    · rw [e1, fU_r (by omega), ey]
    · rw [e2, fU_r (by omega)]
    · rw [e3, fU_r (by omega)]
    · rw [e4, fU_r (by omega)]
    · rw [e5, fU_r (by omega)]
    · rw [e6, fU_r (by omega)]
    · rw [e7, fU_r (by omega)]
  cases ec : c1 i with
  | none =>
    show dc_wp (if (none : Option Nat) = none then _ else _) _
    rw [if_pos rfl]
    exact go _ (by rw [ec]; rfl)
  | some c =>
    show dc_wp (if some (P c) = none then _ else _) _
    rw [if_neg (fun z => by cases z)]
    refine wq_gr (x := some (P c)) (v1.ob hni nPi) ?_ ?_
    · show some (va_rf ((c1 i).map P)) = _
      rw [ec]; rfl
    · obtain ⟨hnc, nPc⟩ := hn c (hc1 c ec)
      refine wq_gi (x := F c 8) (v1.ob hnc nPc) rfl ?_
      exact go _ (by rw [ec]; rfl)
end CPY
