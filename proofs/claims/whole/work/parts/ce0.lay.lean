/-! the reference's lay: the rest of one node -/
/-- a pause has a number -/
def lzP (X : md_S) (k : Nat) : md_S := if X.2.1 51 k = 1 then md_i (md_a X 54 k (X.1 47)) 47 (X.1 47 + 1) else X
def lzH (X : md_S) (n : Nat) (a b : Int32) : md_S := md_a (md_a X 39 n a) 40 n b
theorem lzP_f {X : md_S} {k : Nat} : ((lzP X k).1 47 = X.1 47 + (if X.2.1 51 k = 1 then 1 else 0) ∧ ∀ i, ¬ i = 47 → (lzP X k).1 i = X.1 i) ∧ (lzP X k).2.2 = X.2.2 ∧ ((lzP X k).2.1 54 = if X.2.1 51 k = 1 then upd (X.2.1 54) k (X.1 47) else X.2.1 54) ∧ ∀ i, ¬ i = 54 → (lzP X k).2.1 i = X.2.1 i := by
  unfold lzP
  by_cases h : X.2.1 51 k = 1
  · rw [if_pos h, if_pos h, if_pos h]
    refine ⟨⟨rfl, fun i hi => md_ij (S := md_a X 54 k (X.1 47)) hi⟩, rfl, rfl, fun i hi => ?_⟩
    show (md_a X 54 k (X.1 47)).2.1 i = _
    rw [md_a2, if_neg hi]
  · rw [if_neg h, if_neg h, if_neg h]
    refine ⟨⟨?_, fun i hi => rfl⟩, rfl, rfl, fun i hi => rfl⟩
    exact (Int32.add_zero _).symm
theorem lzH_f {X : md_S} {n : Nat} {a b : Int32} : (lzH X n a b).1 = X.1 ∧ (lzH X n a b).2.2 = X.2.2 ∧ ((lzH X n a b).2.1 39 = upd (X.2.1 39) n a ∧ (lzH X n a b).2.1 40 = upd (X.2.1 40) n b) ∧ ∀ i, ¬ (i = 39 ∨ i = 40) → (lzH X n a b).2.1 i = X.2.1 i := by
  refine ⟨rfl, rfl, ⟨rfl, rfl⟩, fun i hi => ?_⟩
  unfold lzH
  rw [md_a2, if_neg (by omega), md_a2, if_neg (by omega)]
/-- a node's test is laid -/
def lzY (X : md_S) (k : Nat) (e : Int32) (Y : md_S) : Prop := (e = -1 ∧ Y = X) ∨ (¬ e = -1 ∧ ∃ q, mm_ask X e = some q ∧ Y = md_a q.1 54 k q.2)
theorem lay_c {X : md_S} {n k b : Nat} {q : (md_S × Int32) ⊕ md_S} (hn : n ≤ 3000) (hk : k < 1200) (hb : b < 1200) (hq : mm_lay_I_L298 X (Int32.ofNat n) (Int32.ofNat b) (Int32.ofNat k) = some q) : ∃ Y d, lzY (lzP (md_a X 62 k (X.1 47)) k) k ((lzP (md_a X 62 k (X.1 47)) k).2.1 35 b) Y ∧ mm_around Y (Int32.ofNat k) = some d ∧
    ((Y.2.1 32 b = -1 → Y.2.1 31 b = -1 → q = .inl (md_i Y 49 (dc_max (Y.1 49) d), Int32.ofNat n)) ∧
     (Y.2.1 32 b = -1 → ¬ Y.2.1 31 b = -1 → n < 1208 ∧ q = .inl (lzH (md_i Y 49 (dc_max (Y.1 49) d)) n (Y.2.1 31 b) (2 * Int32.ofNat k), Int32.ofNat (n + 1))) ∧
     (¬ Y.2.1 32 b = -1 → ¬ Y.2.1 31 b = -1 → n + 1 < 1208 ∧ q = .inl (lzH (lzH (md_i Y 49 (dc_max (Y.1 49) d)) n (Y.2.1 32 b) (2 * Int32.ofNat k + 1)) (n + 1) (Y.2.1 31 b) (2 * Int32.ofNat k), Int32.ofNat (n + 2)))) := by
  have tk : (Int32.ofNat k).toInt.toNat = k := by rw [Int32.toInt_ofNat_of_lt (by omega)]; omega
  have tb : (Int32.ofNat b).toInt.toNat = b := by rw [Int32.toInt_ofNat_of_lt (by omega)]; omega
  have tn : (Int32.ofNat n).toInt = (n : Int) := Int32.toInt_ofNat_of_lt (by omega)
  have tn1 : (Int32.ofNat (n + 1)).toInt = (n : Int) + 1 := by rw [Int32.toInt_ofNat_of_lt (by omega)]; omega
  have ad : ∀ m : Nat, m ≤ 3100 → Int32.ofNat m + 1 = Int32.ofNat (m + 1) := by
    intro m hm
    rw [i_eq, i_addS (by rw [Int32.toInt_ofNat_of_lt (by omega), il_1]; omega), Int32.toInt_ofNat_of_lt (by omega), il_1, Int32.toInt_ofNat_of_lt (by omega)]
    omega
  delta mm_lay_I_L298 at hq
  obtain ⟨-, -, hq⟩ := iv_ix hq
  rw [tk] at hq
  generalize eX : md_a X 62 k (X.1 47) = X1
  have hq : (dc_ix (Int32.ofNat k) 1200).bind (fun j26 => if (X1.2.1 51 j26) = 1 then ((dc_ix (Int32.ofNat k) 1200).bind fun j27 => mm_lay_I_L341 (md_i (md_a X1 54 j27 (X1.1 47)) 47 (X1.1 47 + 1)) (Int32.ofNat n) (Int32.ofNat b) (Int32.ofNat k)) else (mm_lay_I_L341 X1 (Int32.ofNat n) (Int32.ofNat b) (Int32.ofNat k))) = some q := by
    rw [← eX]
    exact hq
  obtain ⟨-, -, hq⟩ := iv_ix hq
  rw [tk] at hq
  have hq : mm_lay_I_L341 (lzP X1 k) (Int32.ofNat n) (Int32.ofNat b) (Int32.ofNat k) = some q := by
    rcases iv_if hq with ⟨c, h⟩ | ⟨c, h⟩
    · obtain ⟨-, -, h⟩ := iv_ix h
      rw [tk] at h
      rw [show lzP X1 k = md_i (md_a X1 54 k (X1.1 47)) 47 (X1.1 47 + 1) from if_pos c]
      exact h
    · rw [show lzP X1 k = X1 from if_neg c]
      exact h
  generalize lzP X1 k = X2 at hq
  have hq : ∃ Y, lzY X2 k (X2.2.1 35 b) Y ∧ mm_lay_I_L368 Y (Int32.ofNat n) (Int32.ofNat b) (Int32.ofNat k) = some q := by
    delta mm_lay_I_L341 at hq
    obtain ⟨-, -, hq⟩ := iv_ix hq
    rw [tb] at hq
    rcases iv_if hq with ⟨c, h⟩ | ⟨c, h⟩
    · exact ⟨X2, Or.inl ⟨c, rfl⟩, h⟩
    · obtain ⟨-, -, h⟩ := iv_ix h
      rw [tb] at h
      obtain ⟨a, ea, h⟩ := iv_bind h
      obtain ⟨-, -, h⟩ := iv_ix h
      rw [tk] at h
      exact ⟨_, Or.inr ⟨c, a, ea, rfl⟩, h⟩
  obtain ⟨Y, hY, hq⟩ := hq
  delta mm_lay_I_L368 at hq
  obtain ⟨d, ed, hq⟩ := iv_bind hq
  refine ⟨Y, d, hY, ed, ?_⟩
  generalize eZ : md_i Y 49 (dc_max (Y.1 49) d) = Z
  have Zr : Z.2.1 = Y.2.1 := by rw [← eZ]; rfl
  have hq : (dc_ix (Int32.ofNat b) 1200).bind (fun j13 => if (Z.2.1 32 j13) = (-1) then (mm_lay_I_L422 Z (Int32.ofNat n) (Int32.ofNat b) (Int32.ofNat k)) else ((dc_ix (Int32.ofNat b) 1200).bind fun j14 => (dc_ix (Int32.ofNat n) 1208).bind fun j15 => dc_let (md_a Z 39 j15 (Z.2.1 32 j14)) fun S16 => (dc_ix (Int32.ofNat n) 1208).bind fun j17 => dc_let (md_a S16 40 j17 ((2 * Int32.ofNat k) + 1)) fun S18 => mm_lay_I_L422 S18 (Int32.ofNat n + 1) (Int32.ofNat b) (Int32.ofNat k))) = some q := by
    rw [← eZ]
    exact hq
  obtain ⟨-, -, hq⟩ := iv_ix hq
  rw [tb] at hq
  have l422 : ∀ (W : md_S) (m : Nat), m ≤ 3050 → mm_lay_I_L422 W (Int32.ofNat m) (Int32.ofNat b) (Int32.ofNat k) = some q → (W.2.1 31 b = -1 ∧ q = .inl (W, Int32.ofNat m)) ∨ (¬ W.2.1 31 b = -1 ∧ m < 1208 ∧ q = .inl (lzH W m (W.2.1 31 b) (2 * Int32.ofNat k), Int32.ofNat (m + 1))) := by
    intro W m hm h
    have tm : (Int32.ofNat m).toInt = (m : Int) := Int32.toInt_ofNat_of_lt (by omega)
    delta mm_lay_I_L422 at h
    obtain ⟨-, -, h⟩ := iv_ix h
    rw [tb] at h
    rcases iv_if h with ⟨c, h⟩ | ⟨c, h⟩
    · exact Or.inl ⟨c, (Option.some.inj h).symm⟩
    · obtain ⟨-, -, h⟩ := iv_ix h
      rw [tb] at h
      obtain ⟨-, u2, h⟩ := iv_ix h
      rw [show (Int32.ofNat m).toInt.toNat = m by omega] at h
      have h : (dc_ix (Int32.ofNat m) 1208).bind (fun j9 => dc_let (md_a (md_a W 39 m (W.2.1 31 b)) 40 j9 (2 * Int32.ofNat k)) fun S10 => mm_lay_I_L457 S10 (Int32.ofNat m + 1)) = some q := h
      obtain ⟨-, -, h⟩ := iv_ix h
      rw [show (Int32.ofNat m).toInt.toNat = m by omega] at h
      refine Or.inr ⟨c, by omega, ?_⟩
      rw [← ad m (by omega)]
      exact (Option.some.inj h).symm
  rcases iv_if hq with ⟨c, h⟩ | ⟨c, h⟩
  · have c' : Y.2.1 32 b = -1 := by rw [← Zr]; exact c
    have r := l422 Z n (by omega) h
    rw [Zr] at r
    refine ⟨fun _ c1 => ?_, fun _ c1 => ?_, fun c0 => absurd c' c0⟩
    · rcases r with ⟨-, e⟩ | ⟨e, -⟩
      · exact e
      · exact absurd c1 e
    · rcases r with ⟨e, -⟩ | ⟨-, e⟩
      · exact absurd e c1
      · exact e
  · have c' : ¬ Y.2.1 32 b = -1 := by rw [← Zr]; exact c
    obtain ⟨-, -, h⟩ := iv_ix h
    rw [tb] at h
    obtain ⟨-, u2, h⟩ := iv_ix h
    rw [show (Int32.ofNat n).toInt.toNat = n by omega] at h
    have h : (dc_ix (Int32.ofNat n) 1208).bind (fun j17 => dc_let (md_a (md_a Z 39 n (Z.2.1 32 b)) 40 j17 ((2 * Int32.ofNat k) + 1)) fun S18 => mm_lay_I_L422 S18 (Int32.ofNat n + 1) (Int32.ofNat b) (Int32.ofNat k)) = some q := h
    obtain ⟨-, -, h⟩ := iv_ix h
    rw [show (Int32.ofNat n).toInt.toNat = n by omega] at h
    have h : mm_lay_I_L422 (lzH Z n (Z.2.1 32 b) (2 * Int32.ofNat k + 1)) (Int32.ofNat n + 1) (Int32.ofNat b) (Int32.ofNat k) = some q := h
    rw [ad n (by omega)] at h
    have r := l422 _ (n + 1) (by omega) h
    rw [(lzH_f (X := Z)).2.2.2 31 (by omega), Zr] at r
    refine ⟨fun c0 => absurd c0 c', fun c0 => absurd c0 c', fun _ c1 => ?_⟩
    rcases r with ⟨e, -⟩ | ⟨-, e⟩
    · exact absurd e c1
    · exact e
