/-! the class copies a test, whole -/
/-- the class's rows under the reference's numbers -/
def cR (R : Nat → Nat → Int32) : Nat → Nat → Int32 := fun i j => if i = 51 then R 0 j else if i = 52 then R 1 j else if i = 53 then R 2 j else if i = 54 then R 4 j else if i = 55 then R 5 j else if i = 56 then R 6 j else if i = 57 then R 7 j else if i = 58 then R 3 j else if i = 62 then R 8 j else if i = 63 then R 11 j else if i = 64 then R 12 j else if i = 65 then R 13 j else if i = 66 then Int32.ofNat j + R 14 j else 0
theorem cR_63 {R : Nat → Nat → Int32} {j : Nat} : cR R 63 j = R 11 j ∧ cR R 64 j = R 12 j ∧ cR R 65 j = R 13 j ∧ cR R 66 j = Int32.ofNat j + R 14 j := ⟨rfl, rfl, rfl, rfl⟩
def cpG (R R' : Nat → Nat → Int32) (e k : Nat) (w : Int) : Prop := (∀ i, ¬ (i = 11 ∨ i = 12 ∨ i = 13 ∨ i = 14 ∨ i = 16) → R' i = R i) ∧ (∀ i j : Nat, 11 ≤ i → i ≤ 14 → ¬ ((k : Int) ≤ (j : Int) ∧ (j : Int) < (k : Int) + w) → R' i j = R i j) ∧ ∀ j : Nat, ¬ ((e : Int) - w < (j : Int) ∧ (j : Int) < (e : Int)) → R' 16 j = R 16 j
section CPE
variable {G : hg_E} {S0 : hg_S} {o pc dp : Nat} {a N : Nat → Nat} {made names : Int32} {kk ff ss xx : Nat → Int32} {m L : Nat} {x2 x3 : Int32} {rt : Nat}
theorem cpR_1 {R R' : Nat → Nat → Int32} {e k : Nat} (h : cpR R R' e k) : ∀ i j : Nat, 11 ≤ i → i ≤ 14 → ¬ j = k → R' i j = R i j := by
  obtain ⟨h1, h2, h3, h4, h5, h6⟩ := h
  intro i j i1 i2 hj
  have : i = 11 ∨ i = 12 ∨ i = 13 ∨ i = 14 := by omega
  rcases this with e | e | e | e <;> subst e
  · rw [h2, upd_n hj]
  · rw [h4, upd_n hj]
  · rw [h5, upd_n hj]
  · rw [h3, upd_n hj]
/-- one step of the loop -/
theorem cp_s (W : pcW names kk ff ss xx m) (hN : ∀ i, 16 ≤ i → i < 21 → m ≤ N i) (hL : ∀ i, 11 ≤ i → i < 15 → L ≤ N i) (hb : L ≤ 4000) (hm : m ≤ 50000) (h2 : x2 = Int32.ofNat rt) (hrt : rt < m) {Φ : hg_S → Prop} {e k : Nat} {S : hg_S} {R : Nat → Nat → Int32} {x : Int32} (v : GV G S0 S o pc dp a N R made) (hr : R 17 = kk ∧ R 18 = ff ∧ R 19 = ss ∧ R 20 = xx) (he : e < m) (h16 : R 16 e = Int32.ofNat k) (hk : (k : Int) + (xx e).toInt ≤ (L : Int)) (hlo : (rt : Int) - (xx rt).toInt ≤ (e : Int) - (xx e).toInt) (hx : x.toInt = (e : Int)) (kk' : ∀ S' R' x', GV G S0 S' o pc dp a N R' made → cpR R R' e k → x'.toInt = (e : Int) - 1 → dc_wp (dc_it (hm_PI_copyOf_s15 G pc (some dp) x2 x3) (S', x')) Φ) : dc_wp (dc_it (hm_PI_copyOf_s15 G pc (some dp) x2 x3) (S, x)) Φ := by
  obtain ⟨r17, r18, r19, r20⟩ := hr
  obtain ⟨w1, w2⟩ := W e he
  have wr := (W rt hrt).1
  have ex : x = Int32.ofNat e := ofN_i hx (by omega)
  have trt : (Int32.ofNat rt).toInt = (rt : Int) := Int32.toInt_ofNat_of_lt (by omega)
  have n16 := hN 16 (by omega) (by omega)
  have n20 := hN 20 (by omega) (by omega)
  refine it_go ?_
  show dc_wp (hm_PI_copyOf_b15 G S pc (some dp) x2 x3 x) _
  delta hm_PI_copyOf_b15
  refine wg_dr v (i := 3) (by omega) ?_
  refine wg_ld v (i := 20) (by omega) (by rw [h2, trt]; omega) (by rw [h2, trt]; show (rt : Int) < (N 20 : Int); omega) ?_
  rw [h2, show (Int32.ofNat rt).toInt.toNat = rt by omega, r20]
  have lt : Int32.ofNat rt - xx rt < x := i_lt.mpr (by rw [i_subS (by omega), trt]; omega)
  rw [if_pos lt]
  refine wg_pk v ?_
  have h0 : R 17 e = 0 ∨ (0 ≤ (R 18 e).toInt ∧ (R 18 e).toInt < (N 16 : Int)) := by
    rw [r17, r18]
    rcases w2 with ⟨c, -⟩ | ⟨-, -, c1, c2, -⟩ | ⟨-, c1, -, c2, c3, c4⟩
    · exact Or.inl c
    · exact Or.inr (by omega)
    · have := (W (e - 1) (by omega)).1.1
      exact Or.inr (by omega)
  have h5 : R 19 e = -1 ∨ ((0 ≤ (R 19 e).toInt ∧ (R 19 e).toInt < (N 16 : Int)) ∧ 0 ≤ (R 18 e).toInt ∧ (R 18 e).toInt < (N 20 : Int)) := by
    clear h0
    rw [r19, r18]
    rcases w2 with ⟨-, c, -⟩ | ⟨-, c, -⟩ | ⟨-, c1, c5, c2, c3, c4⟩
    · exact Or.inl c
    · exact Or.inl c
    · have := (W (e - 1) (by omega)).1.1
      exact Or.inr (by omega)
  clear w2
  have k5 : k < 5000 := by clear h0 h5; omega
  have kL : ∀ i, 11 ≤ i → i < 15 → k < N i := by clear h0 h5; exact fun i i1 i2 => by have := hL i i1 i2; omega
  rw [ex]
  refine wq_call (cpp_w v ⟨by clear h0 h5; omega, fun i i1 i2 => Nat.lt_of_lt_of_le he (hN i i1 i2)⟩ ⟨k5, kL⟩ h16 h0 h5) ?_
  rintro S1 ⟨R1, v1, c1⟩
  refine ⟨_, rfl, ?_⟩
  show dc_wp (dc_it (hm_PI_copyOf_s15 G pc (some dp) (Int32.ofNat rt) x3) (S1, Int32.ofNat e + (-1))) Φ
  rw [← h2]
  refine kk' S1 R1 _ v1 c1 ?_
  clear h0 h5
  rw [i_dec (by rw [Int32.toInt_ofNat_of_lt (by omega)]; omega), Int32.toInt_ofNat_of_lt (by omega)]
theorem cp_E (W : pcW names kk ff ss xx m) (hN : ∀ i, 16 ≤ i → i < 21 → m ≤ N i) (hL : ∀ i, 11 ≤ i → i < 15 → L ≤ N i) (hb : L ≤ 4000) (hm : m ≤ 50000) (h2 : x2 = Int32.ofNat rt) (hrt : rt < m) {Φ : hg_S → Prop} : ∀ (g e k : Nat) (S : hg_S) (R : Nat → Nat → Int32) (x : Int32), GV G S0 S o pc dp a N R made → (R 17 = kk ∧ R 18 = ff ∧ R 19 = ss ∧ R 20 = xx) → e < m → (xx e).toInt ≤ (g : Int) → R 16 e = Int32.ofNat k → (k : Int) + (xx e).toInt ≤ (L : Int) → (rt : Int) - (xx rt).toInt ≤ (e : Int) - (xx e).toInt → x.toInt = (e : Int) → (∀ S' R' x', GV G S0 S' o pc dp a N R' made → cpG R R' e k (xx e).toInt → PPr (cR R') kk ff xx g e k → R' 14 k = xx e → x'.toInt = (e : Int) - (xx e).toInt → dc_wp (dc_it (hm_PI_copyOf_s15 G pc (some dp) x2 x3) (S', x')) Φ) → dc_wp (dc_it (hm_PI_copyOf_s15 G pc (some dp) x2 x3) (S, x)) Φ
  | 0, e, k, S, R, x, v, hr, he, hg, h16, hk, hlo, hx, kk' => by
    have := (W e he).1.1
    omega
  | g + 1, e, k, S, R, x, v, ⟨r17, r18, r19, r20⟩, he, hg, h16, hk, hlo, hx, kk' => by
    obtain ⟨w1, w2⟩ := W e he
    refine cp_s W hN hL hb hm h2 hrt v ⟨r17, r18, r19, r20⟩ he h16 hk hlo hx (fun S1 R1 x1 v1 c1 tx => ?_)
    clear hx
    have c1r := cpR_1 c1
    obtain ⟨q1, q11, q14, q12, q13, q16⟩ := c1
    rw [r17] at q11 q12 q16
    rw [r18] at q12 q13 q16
    rw [r19] at q13 q16
    rw [r20] at q14 q13 q16
    have s17 : R1 17 = kk ∧ R1 18 = ff ∧ R1 19 = ss ∧ R1 20 = xx := ⟨(q1 17 (by omega)).trans r17, (q1 18 (by omega)).trans r18, (q1 19 (by omega)).trans r19, (q1 20 (by omega)).trans r20⟩
    rcases w2 with ⟨d1, d2, d3, -⟩ | ⟨d1, d2, d3, d4, d5⟩ | ⟨d1, d2, d3, d4, d5, d6⟩
    · -- a signal
      rw [if_pos d1] at q12
      rw [if_pos d2] at q13
      refine kk' S1 R1 _ v1 ⟨q1, fun i j i1 i2 hj => c1r i j i1 i2 (by omega), fun j hj => ?_⟩ ⟨?_, fun _ => ⟨?_, ?_⟩, fun t => ?_, fun t => ?_⟩ (by rw [q14, upd_s]) (by rw [tx]; omega)
      · rw [q16, if_neg (fun z => z.1 d2), if_neg (fun z => z.1 d1)]
      · show R1 11 k = _
        rw [q11, upd_s]
      · show R1 12 k = _
        rw [q12, upd_s]
      · show R1 13 k = _
        rw [q13, upd_s]
      · rw [d1] at t; exact absurd t (by decide)
      · rw [d1] at t; exact absurd t (by decide)
    · -- not
      have n0 : ¬ kk e = 0 := by rw [d1]; decide
      have fe : (ff e).toInt.toNat = e - 1 := by omega
      have w3 := (W (e - 1) (by omega)).1
      rw [if_neg n0] at q12
      rw [if_pos d2] at q13
      have p16 : R1 16 (e - 1) = Int32.ofNat (k + 1) := by
        rw [q16, if_neg (fun z => z.1 d2), if_pos ⟨n0, by omega⟩]
      refine cp_E W hN hL hb hm h2 hrt g (e - 1) (k + 1) S1 R1 x1 v1 s17 (by omega) (by omega) p16 (by omega) (by omega) (by rw [tx]; omega) (fun S2 R2 x' v2 g2 P2 _ hx' => ?_)
      obtain ⟨y1, y2, y3⟩ := g2
      have row : ∀ i, 11 ≤ i → i ≤ 14 → R2 i k = R1 i k := fun i i1 i2 => y2 i k i1 i2 (by omega)
      refine kk' S2 R2 x' v2 ⟨fun i hi => (y1 i hi).trans (q1 i hi), fun i j i1 i2 hj => (y2 i j i1 i2 (by omega)).trans (c1r i j i1 i2 (by omega)), fun j hj => ?_⟩ ⟨?_, fun t => absurd t n0, fun _ => ⟨?_, ?_, P2⟩, fun t => ?_⟩ (by rw [row 14 (by omega) (by omega), q14, upd_s]) (by omega)
      · rw [y3 j (by omega), q16, if_neg (fun z => z.1 d2), if_neg (fun z => by have := z.2; omega)]
      · show R2 11 k = _
        rw [row 11 (by omega) (by omega), q11, upd_s]
      · show R2 12 k = _
        rw [row 12 (by omega) (by omega), q12, upd_s]
      · show R2 13 k = _
        rw [row 13 (by omega) (by omega), q13, upd_s]
      · rw [d1] at t; exact absurd t (by decide)
    · -- and, or
      have n0 : ¬ kk e = 0 := by rcases d1 with d | d <;> (rw [d]; decide)
      have n1 : ¬ kk e = 1 := by rcases d1 with d | d <;> (rw [d]; decide)
      have ns : ¬ ss e = -1 := by
        intro t
        rw [t, show (-1 : Int32).toInt = -1 by decide] at d3
        omega
      have se : (ss e).toInt.toNat = e - 1 := by omega
      have w3 := (W (e - 1) (by omega)).1
      have w4 := (W (ff e).toInt.toNat (by omega)).1
      rw [if_neg n0] at q12
      rw [if_neg ns] at q13
      generalize ef : (ff e).toInt.toNat = f at *
      have xf : (xx f).toInt.toNat < 5000 := by omega
      have ad : Int32.ofNat (k + 1) + xx f = Int32.ofNat (k + 1 + (xx f).toInt.toNat) := by
        rw [i_eq, i_addS (by rw [Int32.toInt_ofNat_of_lt (by omega)]; omega), Int32.toInt_ofNat_of_lt (by omega), Int32.toInt_ofNat_of_lt (by omega)]
        omega
      rw [ad] at q13 q16
      have p16 : R1 16 (e - 1) = Int32.ofNat (k + 1 + (xx f).toInt.toNat) := by
        rw [q16, if_pos ⟨ns, se.symm⟩]
      have p16' : R1 16 f = Int32.ofNat (k + 1) := by
        rw [q16, if_neg (fun z => by have := z.2; omega), if_pos ⟨n0, rfl⟩]
      refine cp_E W hN hL hb hm h2 hrt g (e - 1) (k + 1 + (xx f).toInt.toNat) S1 R1 x1 v1 s17 (by omega) (by omega) p16 (by omega) (by omega) (by rw [tx]; omega) (fun S2 R2 x' v2 g2 P2 _ hx' => ?_)
      obtain ⟨y1, y2, y3⟩ := g2
      have s18 : R2 17 = kk ∧ R2 18 = ff ∧ R2 19 = ss ∧ R2 20 = xx := ⟨(y1 17 (by omega)).trans s17.1, (y1 18 (by omega)).trans s17.2.1, (y1 19 (by omega)).trans s17.2.2.1, (y1 20 (by omega)).trans s17.2.2.2⟩
      refine cp_E W hN hL hb hm h2 hrt g f (k + 1) S2 R2 x' v2 s18 (by omega) (by omega) ((y3 f (by omega)).trans p16') (by omega) (by omega) (by omega) (fun S3 R3 x'' v3 g3 P3 _ hx'' => ?_)
      obtain ⟨z1, z2, z3⟩ := g3
      have row : ∀ i, 11 ≤ i → i ≤ 14 → R3 i k = R1 i k := fun i i1 i2 => (z2 i k i1 i2 (by omega)).trans (y2 i k i1 i2 (by omega))
      refine kk' S3 R3 x'' v3 ⟨fun i hi => (z1 i hi).trans ((y1 i hi).trans (q1 i hi)), fun i j i1 i2 hj => (z2 i j i1 i2 (by omega)).trans ((y2 i j i1 i2 (by omega)).trans (c1r i j i1 i2 (by omega))), fun j hj => ?_⟩ ⟨?_, fun t => absurd t n0, fun t => absurd t n1, fun _ => ⟨?_, ?_, ?_, ?_⟩⟩ (by rw [row 14 (by omega) (by omega), q14, upd_s]) (by omega)
      · rw [z3 j (by omega), y3 j (by omega), q16, if_neg (fun z => by have := z.2; omega), if_neg (fun z => by have := z.2; omega)]
      · show R3 11 k = _
        rw [row 11 (by omega) (by omega), q11, upd_s]
      · show R3 12 k = _
        rw [row 12 (by omega) (by omega), q12, upd_s]
      · show R3 13 k = _
        rw [row 13 (by omega) (by omega), q13, upd_s, ef]
      · rw [ef]; exact P3
      · rw [ef]
        refine PPr_ext W _ _ _ (by omega) (by omega) (fun j j1 j2 => ⟨?_, ?_, ?_⟩) P2
        · exact z2 11 j (by omega) (by omega) (by omega)
        · exact z2 12 j (by omega) (by omega) (by omega)
        · exact z2 13 j (by omega) (by omega) (by omega)
theorem co_w (W : pcW names kk ff ss xx m) (hN : ∀ i, 16 ≤ i → i < 21 → m ≤ N i) (hL : ∀ i, 11 ≤ i → i < 15 → L ≤ N i) (hb : L ≤ 4000) (hm : m ≤ 50000) {S : hg_S} {R : Nat → Nat → Int32} {e c : Nat} (v : GV G S0 S o pc dp a N R (Int32.ofNat c)) (hr : R 17 = kk ∧ R 18 = ff ∧ R 19 = ss ∧ R 20 = xx) (he : e < m) (hk : (c : Int) + (xx e).toInt ≤ (L : Int)) : dc_wp (hm_PI_copyOf G S pc (some dp) (Int32.ofNat e)) (fun q => q.2 = Int32.ofNat c ∧ ∃ R', GV G S0 q.1 o pc dp a N R' (Int32.ofNat (c + (xx e).toInt.toNat)) ∧ (∀ i, ¬ (i = 11 ∨ i = 12 ∨ i = 13 ∨ i = 14 ∨ i = 16) → R' i = R i) ∧ (∀ i j : Nat, 11 ≤ i → i ≤ 14 → j < c → R' i j = R i j) ∧ PPr (cR R') kk ff xx (xx e).toInt.toNat e c ∧ R' 14 c = xx e) := by
  have te : (Int32.ofNat e).toInt = (e : Int) := Int32.toInt_ofNat_of_lt (by omega)
  have ten : (Int32.ofNat e).toInt.toNat = e := by omega
  have n16 := hN 16 (by omega) (by omega)
  have n20 := hN 20 (by omega) (by omega)
  obtain ⟨r17, r18, r19, r20⟩ := hr
  have w1 := (W e he).1
  delta hm_PI_copyOf
  refine wg_mg v ?_
  refine wg_dr v (i := 4) (by omega) ?_
  refine wg_st v (i := 16) (by omega) (by omega) (by rw [te]; omega) (fun S1 v1 => ?_)
  rw [ten] at v1
  delta hm_PI_copyOf_L15
  refine wq_call (P := fun S' => ∃ R', GV G S0 S' o pc dp a N R' (Int32.ofNat c) ∧ cpG (fU R 16 e (Int32.ofNat c)) R' e c (xx e).toInt ∧ PPr (cR R') kk ff xx (xx e).toInt.toNat e c ∧ R' 14 c = xx e) ?_ ?_
  · refine cp_E W hN hL hb hm rfl he (xx e).toInt.toNat e c S1 _ _ v1 ⟨by rw [fU_r (by omega)]; exact r17, by rw [fU_r (by omega)]; exact r18, by rw [fU_r (by omega)]; exact r19, by rw [fU_r (by omega)]; exact r20⟩ he (by omega) fU_s hk (Int.le_refl _) te (fun S' R' x' v' g' P' r14 hx' => ?_)
    have hr20 : R' 20 = xx := by rw [g'.1 20 (by omega), fU_r (by omega)]; exact r20
    refine it_go ?_
    show dc_wp (hm_PI_copyOf_b15 G S' pc (some dp) (Int32.ofNat e) (Int32.ofNat c) x') _
    delta hm_PI_copyOf_b15
    refine wg_dr v' (i := 3) (by omega) ?_
    refine wg_ld v' (i := 20) (by omega) (by omega) (by rw [te]; show (e : Int) < (N 20 : Int); omega) ?_
    rw [ten, hr20, if_neg (fun t => by
      have := i_lt.mp t
      rw [i_subS (by omega), te] at this
      omega)]
    exact ⟨_, rfl, R', v', g', P', r14⟩
  · rintro S2 ⟨R2, v2, g2, P2, r14⟩
    have hr20 : R2 20 = xx := by rw [g2.1 20 (by omega), fU_r (by omega)]; exact r20
    show dc_wp (hm_PI_copyOf_L41 G S2 pc (some dp) (Int32.ofNat e) (Int32.ofNat c)) _
    delta hm_PI_copyOf_L41
    refine wg_mg v2 ?_
    refine wg_dr v2 (i := 3) (by omega) ?_
    refine wg_ld v2 (i := 20) (by omega) (by omega) (by rw [te]; show (e : Int) < (N 20 : Int); omega) ?_
    rw [ten, hr20]
    refine wg_mp v2 (fun S3 v3 => ?_)
    have ad : Int32.ofNat c + xx e = Int32.ofNat (c + (xx e).toInt.toNat) := by
      rw [i_eq, i_addS (by rw [Int32.toInt_ofNat_of_lt (by omega)]; omega), Int32.toInt_ofNat_of_lt (by omega), Int32.toInt_ofNat_of_lt (by omega)]
      omega
    rw [ad] at v3
    refine ⟨_, rfl, rfl, R2, v3, fun i hi => ?_, fun i j i1 i2 hj => ?_, P2, r14⟩
    · rw [g2.1 i hi, fU_r (by omega)]
    · rw [g2.2.1 i j i1 i2 (by omega), fU_i (by omega)]
end CPE
