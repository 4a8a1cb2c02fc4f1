/-! the reference's codes: one node -/
/-- the traps around, by trapOf, with their serials -/
def TE (R60 R54 : Nat → Int32) : List Int32 → Nat → Int32 → Prop
  | [], _, t => t = -1
  | e :: E, b, t => ∃ j, j < b ∧ t = Int32.ofNat j ∧ R54 j = e ∧ TE R60 R54 E j (R60 j)
theorem TE_e {R60 R54 R60' R54' : Nat → Int32} : ∀ (E : List Int32) (b : Nat) (t : Int32), (∀ j, j < b → R60' j = R60 j ∧ R54' j = R54 j) → TE R60 R54 E b t → TE R60' R54' E b t
  | [], _, _, _, h => h
  | e :: E, b, t, he, ⟨j, h1, h2, h3, h4⟩ => ⟨j, h1, h2, by rw [(he j h1).2]; exact h3, by rw [(he j h1).1]; exact TE_e E j _ (fun i hi => he i (by omega)) h4⟩
theorem TE_m {R60 R54 : Nat → Int32} {b b' : Nat} (hb : b ≤ b') : ∀ (E : List Int32) (t : Int32), TE R60 R54 E b t → TE R60 R54 E b' t
  | [], _, h => h
  | e :: E, t, ⟨j, h1, h2, h3, h4⟩ => ⟨j, by omega, h2, h3, h4⟩
/-- changed: row k of 54, 55, 59 -/
def cdF (S z : md_S) (k : Nat) : Prop := z.1 = S.1 ∧ z.2.2 = S.2.2 ∧ (∀ i, ¬ (i = 54 ∨ i = 55 ∨ i = 59) → z.2.1 i = S.2.1 i) ∧ ∀ i j, ¬ j = k → z.2.1 i j = S.2.1 i j
theorem cdF_a {S : md_S} {k i : Nat} {v : Int32} (hi : i = 54 ∨ i = 55 ∨ i = 59) : cdF S (md_a S i k v) k := by
  refine ⟨rfl, rfl, fun i' h => by rw [md_a2, if_neg (by omega)], fun i' j hj => ?_⟩
  rw [md_a2]
  by_cases c : i' = i
  · rw [if_pos c, upd_n hj, c]
  · rw [if_neg c]
theorem cdF_t {S S1 S2 : md_S} {k : Nat} (h : cdF S S1 k) (g : cdF S1 S2 k) : cdF S S2 k := ⟨g.1.trans h.1, g.2.1.trans h.2.1, fun i hi => (g.2.2.1 i hi).trans (h.2.2.1 i hi), fun i j hj => (g.2.2.2 i j hj).trans (h.2.2.2 i j hj)⟩
theorem ad_n {m : Nat} (hm : m ≤ 100000) : Int32.ofNat m + 1 = Int32.ofNat (m + 1) := by
  rw [i_eq, i_addS (by rw [Int32.toInt_ofNat_of_lt (by omega), il_1]; omega), Int32.toInt_ofNat_of_lt (by omega), il_1, Int32.toInt_ofNat_of_lt (by omega)]
  omega
/-- the search for an exit's trap -/
theorem ex_it {k : Nat} (hk : k < 1200) {sv : Int32} : ∀ (E : List Int32) (S z : md_S) (b c : Nat) (t : Int32), b ≤ k → TE (S.2.1 60) (S.2.1 54) E b t → sv ∈ E → S.2.1 54 k = Int32.ofNat c → c + E.length ≤ 5000 → dc_it (mm_code_s211 (Int32.ofNat k) sv) (S, t) = some z → cdF S z k ∧ z.2.1 54 k = Int32.ofNat (c + ixE sv E) ∧ z.2.1 55 = S.2.1 55 ∧ z.2.1 59 = S.2.1 59
  | [], S, z, b, c, t, hb, hT, hm, hc, hl, hz => by cases hm
  | e :: E, S, z, b, c, t, hb, ⟨j, h1, h2, h3, h4⟩, hm, hc, hl, hz => by
    have tk : (Int32.ofNat k).toInt.toNat = k := by rw [Int32.toInt_ofNat_of_lt (by omega)]; omega
    have tj : (Int32.ofNat j).toInt.toNat = j := by rw [Int32.toInt_ofNat_of_lt (by omega)]; omega
    have hl : c + (E.length + 1) ≤ 5000 := hl
    obtain ⟨q, eq⟩ := it_st hz
    have hs : mm_code_b211 S (Int32.ofNat k) sv t = some q := eq
    rw [h2] at hs
    delta mm_code_b211 at hs
    obtain ⟨-, -, hs⟩ := iv_ix hs
    rw [tj, h3] at hs
    rcases iv_if hs with ⟨d, hs⟩ | ⟨d, hs⟩
    · have e0 := (Option.some.inj hs).symm
      rw [e0] at eq
      have ez : S = z := it_un hz eq
      subst ez
      refine ⟨⟨rfl, rfl, fun _ _ => rfl, fun _ _ _ => rfl⟩, ?_, rfl, rfl⟩
      have e1 : ixE sv (e :: E) = 0 := if_pos d.symm
      rw [e1]
      exact hc
    · obtain ⟨-, -, hs⟩ := iv_ix hs
      obtain ⟨-, -, hs⟩ := iv_ix hs
      rw [tk, hc, ad_n (by omega)] at hs
      generalize eX : md_a S 54 k (Int32.ofNat (c + 1)) = X
      have hs : (dc_ix (Int32.ofNat j) 1200).bind (fun j8 => some (.inl (X, X.2.1 60 j8))) = some q := by
        rw [← eX]; exact hs
      obtain ⟨-, -, hs⟩ := iv_ix hs
      rw [tj] at hs
      have e0 := (Option.some.inj hs).symm
      rw [e0] at eq
      have hz' : dc_it (mm_code_s211 (Int32.ofNat k) sv) (X, X.2.1 60 j) = some z := it_un hz eq
      have cX : cdF S X k := by rw [← eX]; exact cdF_a (Or.inl rfl)
      have x60 : X.2.1 60 = S.2.1 60 := cX.2.2.1 60 (by omega)
      have xk : X.2.1 54 k = Int32.ofNat (c + 1) := by
        rw [← eX]
        show upd (S.2.1 54) k _ k = _
        exact upd_s
      have x55 : X.2.1 55 = S.2.1 55 := by rw [← eX]; rfl
      have x59 : X.2.1 59 = S.2.1 59 := by rw [← eX]; rfl
      have nm : sv ∈ E := by
        rcases List.mem_cons.mp hm with y | y
        · exact absurd y.symm d
        · exact y
      have hT' : TE (X.2.1 60) (X.2.1 54) E j (X.2.1 60 j) := by
        rw [x60]
        exact TE_e E j _ (fun i hi => ⟨rfl, cX.2.2.2 54 i (by omega)⟩) h4
      obtain ⟨r1, r2, r3, r4⟩ := ex_it hk E X z j (c + 1) _ (by omega) hT' nm xk (by omega) hz'
      refine ⟨cdF_t cX r1, ?_, r3.trans x55, r4.trans x59⟩
      have e1 : ixE sv (e :: E) = ixE sv E + 1 := if_neg (fun y => d y.symm)
      rw [r2, e1]
      exact congrArg Int32.ofNat (by omega)
section COD1
variable {S q : md_S} {k : Nat}
/-- what stands below: codes and the row behind -/
def cdA (S : md_S) (k : Nat) : Int32 := if S.2.1 52 k = -1 then 0 else S.2.1 55 (S.2.1 52 k).toInt.toNat
def cdB (S : md_S) (k : Nat) : Int32 := if S.2.1 53 k = -1 then 0 else S.2.1 55 (S.2.1 53 k).toInt.toNat
def cdL (S : md_S) (k : Nat) : Int32 := if S.2.1 53 k = -1 then (if S.2.1 52 k = -1 then Int32.ofNat (k + 1) else S.2.1 59 (S.2.1 52 k).toInt.toNat) else S.2.1 59 (S.2.1 53 k).toInt.toNat
theorem code_a (hk : k < 1200) (hq : mm_code S (Int32.ofNat k) = some q) : mm_code_L108 S (Int32.ofNat k) (cdA S k) (cdB S k) (cdL S k) (Int32.ofNat k) = some q := by
  have tk : (Int32.ofNat k).toInt.toNat = k := by rw [Int32.toInt_ofNat_of_lt (by omega)]; omega
  have l51 : ∀ a b : Int32, mm_code_L51 S (Int32.ofNat k) a b = some q → mm_code_L108 S (Int32.ofNat k) a b (cdL S k) (Int32.ofNat k) = some q := by
    intro a b h
    delta mm_code_L51 at h
    obtain ⟨-, -, h⟩ := iv_ix h
    rw [tk] at h
    unfold cdL
    rcases iv_if h with ⟨c, h⟩ | ⟨c, h⟩
    · rw [if_pos c]
      obtain ⟨-, -, h⟩ := iv_ix h
      rw [tk] at h
      rcases iv_if h with ⟨c, h⟩ | ⟨c, h⟩
      · rw [if_pos c, ← ad_n (by omega)]
        exact h
      · rw [if_neg c]
        obtain ⟨-, -, h⟩ := iv_ix h
        obtain ⟨-, -, h⟩ := iv_ix h
        rw [tk] at h
        exact h
    · rw [if_neg c]
      obtain ⟨-, -, h⟩ := iv_ix h
      obtain ⟨-, -, h⟩ := iv_ix h
      rw [tk] at h
      exact h
  have l25 : ∀ a : Int32, mm_code_L25 S (Int32.ofNat k) a = some q → mm_code_L51 S (Int32.ofNat k) a (cdB S k) = some q := by
    intro a h
    delta mm_code_L25 at h
    obtain ⟨-, -, h⟩ := iv_ix h
    rw [tk] at h
    unfold cdB
    rcases iv_if h with ⟨c, h⟩ | ⟨c, h⟩
    · rw [if_pos c]
      exact h
    · rw [if_neg c]
      obtain ⟨-, -, h⟩ := iv_ix h
      obtain ⟨-, -, h⟩ := iv_ix h
      rw [tk] at h
      exact h
  delta mm_code at hq
  obtain ⟨-, -, h⟩ := iv_ix hq
  rw [tk] at h
  refine l51 _ _ (l25 _ ?_)
  unfold cdA
  rcases iv_if h with ⟨c, h⟩ | ⟨c, h⟩
  · rw [if_pos c]
    exact h
  · rw [if_neg c]
    obtain ⟨-, -, h⟩ := iv_ix h
    obtain ⟨-, -, h⟩ := iv_ix h
    rw [tk] at h
    exact h
/-- a node's code by its kind -/
def cdP (v a b c : Int32) : Prop := (v = 0 ∧ c = 1) ∨ (v = 1 ∧ c = 2) ∨ (v = 2 ∧ c = 1) ∨ (v = 3 ∧ c = a ||| b) ∨ ((v = 4 ∨ v = 6 ∨ (¬ v = 0 ∧ ¬ v = 1 ∧ ¬ v = 2 ∧ ¬ v = 3 ∧ ¬ v = 5 ∧ ¬ v = 7 ∧ ¬ v = 8 ∧ ¬ v = 9)) ∧ c = a) ∨ (v = 5 ∧ mm_then a b = some c) ∨ (v = 7 ∧ mm_pairs a b = some c) ∨ (v = 8 ∧ mm_caught a = some c)
theorem code_b {a b l : Int32} (hk : k < 1200) (hq : mm_code_L108 S (Int32.ofNat k) a b l (Int32.ofNat k) = some q) : (¬ S.2.1 51 k = 9 → ∃ c, q = md_a (md_a S 59 k l) 55 k c ∧ cdP (S.2.1 51 k) a b c) ∧ (S.2.1 51 k = 9 → mm_code_L211 (md_a (md_a S 59 k l) 54 k 2) (Int32.ofNat k) (S.2.1 54 k) (S.2.1 60 k) = some q) := by
  have tk : (Int32.ofNat k).toInt.toNat = k := by rw [Int32.toInt_ofNat_of_lt (by omega)]; omega
  delta mm_code_L108 at hq
  obtain ⟨-, -, hq⟩ := iv_ix hq
  rw [tk] at hq
  generalize eX : md_a S 59 k l = X at hq
  obtain ⟨-, -, hq⟩ := iv_ix hq
  rw [tk] at hq
  have x51 : X.2.1 51 = S.2.1 51 := by rw [← eX]; rfl
  have x54 : X.2.1 54 = S.2.1 54 := by rw [← eX]; rfl
  have x60 : X.2.1 60 = S.2.1 60 := by rw [← eX]; rfl
  rw [x51] at hq
  generalize ev : S.2.1 51 k = v at hq
  have one : ∀ c : Int32, (dc_ix (Int32.ofNat k) 1200).bind (fun j => dc_let (md_a X 55 j c) fun S' => mm_code_L322 S') = some q → q = md_a X 55 k c := by
    intro c h
    obtain ⟨-, -, h⟩ := iv_ix h
    rw [tk] at h
    exact (Option.some.inj h).symm
  unfold cdP
  rcases iv_if hq with ⟨c0, h⟩ | ⟨c0, hq⟩
  · exact ⟨fun _ => ⟨1, one _ h, Or.inl ⟨c0, rfl⟩⟩, fun t => absurd (c0.symm.trans t) (by decide)⟩
  rcases iv_if hq with ⟨c1, h⟩ | ⟨c1, hq⟩
  · exact ⟨fun _ => ⟨2, one _ h, Or.inr (Or.inl ⟨c1, rfl⟩)⟩, fun t => absurd (c1.symm.trans t) (by decide)⟩
  rcases iv_if hq with ⟨c2, h⟩ | ⟨c2, hq⟩
  · exact ⟨fun _ => ⟨1, one _ h, Or.inr (Or.inr (Or.inl ⟨c2, rfl⟩))⟩, fun t => absurd (c2.symm.trans t) (by decide)⟩
  rcases iv_if hq with ⟨c3, h⟩ | ⟨c3, hq⟩
  · exact ⟨fun _ => ⟨_, one _ h, Or.inr (Or.inr (Or.inr (Or.inl ⟨c3, rfl⟩)))⟩, fun t => absurd (c3.symm.trans t) (by decide)⟩
  rcases iv_if hq with ⟨c4, h⟩ | ⟨c4, hq⟩
  · exact ⟨fun _ => ⟨_, one _ h, Or.inr (Or.inr (Or.inr (Or.inr (Or.inl ⟨Or.inl c4, rfl⟩))))⟩, fun t => absurd (c4.symm.trans t) (by decide)⟩
  rcases iv_if hq with ⟨c5, h⟩ | ⟨c5, hq⟩
  · obtain ⟨c, ec, h⟩ := iv_bind h
    exact ⟨fun _ => ⟨c, one _ h, Or.inr (Or.inr (Or.inr (Or.inr (Or.inr (Or.inl ⟨c5, ec⟩)))))⟩, fun t => absurd (c5.symm.trans t) (by decide)⟩
  rcases iv_if hq with ⟨c6, h⟩ | ⟨c6, hq⟩
  · exact ⟨fun _ => ⟨_, one _ h, Or.inr (Or.inr (Or.inr (Or.inr (Or.inl ⟨Or.inr (Or.inl c6), rfl⟩))))⟩, fun t => absurd (c6.symm.trans t) (by decide)⟩
  rcases iv_if hq with ⟨c7, h⟩ | ⟨c7, hq⟩
  · obtain ⟨c, ec, h⟩ := iv_bind h
    exact ⟨fun _ => ⟨c, one _ h, Or.inr (Or.inr (Or.inr (Or.inr (Or.inr (Or.inr (Or.inl ⟨c7, ec⟩))))))⟩, fun t => absurd (c7.symm.trans t) (by decide)⟩
  rcases iv_if hq with ⟨c8, h⟩ | ⟨c8, hq⟩
  · obtain ⟨c, ec, h⟩ := iv_bind h
    exact ⟨fun _ => ⟨c, one _ h, Or.inr (Or.inr (Or.inr (Or.inr (Or.inr (Or.inr (Or.inr ⟨c8, ec⟩))))))⟩, fun t => absurd (c8.symm.trans t) (by decide)⟩
  rcases iv_if hq with ⟨c9, h⟩ | ⟨c9, hq⟩
  · refine ⟨fun t => absurd c9 t, fun _ => ?_⟩
    obtain ⟨-, -, h⟩ := iv_ix h
    rw [tk] at h
    have h : (dc_ix (Int32.ofNat k) 1200).bind (fun j46 => dc_let (md_a X 54 j46 2) fun S47 => (dc_ix (Int32.ofNat k) 1200).bind fun j48 => dc_let ((S47.2.1 60 j48) : Int32) fun v49 => mm_code_L211 S47 (Int32.ofNat k) (X.2.1 54 k) v49) = some q := h
    obtain ⟨-, -, h⟩ := iv_ix h
    rw [tk] at h
    have h : (dc_ix (Int32.ofNat k) 1200).bind (fun j48 => mm_code_L211 (md_a X 54 k 2) (Int32.ofNat k) (X.2.1 54 k) (X.2.1 60 j48)) = some q := h
    obtain ⟨-, -, h⟩ := iv_ix h
    rw [tk, x54, x60] at h
    exact h
  · exact ⟨fun _ => ⟨_, one _ hq, Or.inr (Or.inr (Or.inr (Or.inr (Or.inl ⟨Or.inr (Or.inr ⟨c0, c1, c2, c3, c5, c7, c8, c9⟩), rfl⟩))))⟩, fun t => absurd t c9⟩
end COD1
