/-! the reference's markPairs: pairs that lead to pairs told apart -/
def Clo (M0 M : md_S) (cnt ins x y : Nat) : Prop := ∀ i, i < 2 ^ ins → ∀ p q, p < cnt → q < cnt → prE M0 x i p → prE M0 y i q → ap M p q
/-- a pair is under way; all others marked are put down or done -/
def mkC (M0 M : md_S) (cnt ins n x y K : Nat) : Prop := mkB M0 M cnt ins n ∧ (∀ a b, a < cnt → b < cnt → ap M a b → onS M n a b ∨ onS M n b a ∨ Clo M0 M cnt ins a b ∨ (a = x ∧ b = y) ∨ (a = y ∧ b = x)) ∧ (∀ a b, a < cnt → b < cnt → dfP M0 (2 ^ ins) a b → ap M a b) ∧ 2 * uN (M.2.1 94) cnt + n ≤ K ∧ ap M x y
/-- marks stay -/
def mkG (M M' : md_S) (cnt : Nat) : Prop := ∀ a b, a < cnt → b < cnt → ap M a b → ap M' a b
section MPR
variable {M0 M M' : md_S} {cnt ins n x y K : Nat}
theorem Clo_g (g : mkG M M' cnt) {a b : Nat} (h : Clo M0 M cnt ins a b) : Clo M0 M' cnt ins a b := fun i hi p q hp hq h1 h2 => g p q hp hq (h i hi p q hp hq h1 h2)
theorem prE_f (h : ∀ i, ¬ (i = 94 ∨ i = 95) → M'.2.1 i = M.2.1 i) {k i p : Nat} : prE M' k i p ↔ prE M k i p := by
  unfold prE
  rw [h 92 (by omega), h 88 (by omega)]
/-- equal states are never told apart -/
theorem mkB_i (h : mkB M0 M cnt ins n) (hd : ∀ i j, i < cnt → j < cnt → M0.2.1 88 i = M0.2.1 88 j → i = j) {a : Nat} (ha : a < cnt) : ¬ ap M a a := by
  refine h.2.2.1 (fun a b => a = b) (fun a b h1 h2 e => ?_) a a ha ha rfl
  subst e
  refine ⟨dfP_r, fun i _ p q hp hq g1 g2 => ?_⟩
  have g1 : M0.2.1 92 (16 * a + i) = M0.2.1 88 p := g1
  have g2 : M0.2.1 92 (16 * a + i) = M0.2.1 88 q := g2
  exact hd p q hp hq (g1.symm.trans g2)
/-- a pair is looked at, and marked if it was not -/
theorem mk_211 {i p q : Nat} (hd : ∀ i j, i < cnt → j < cnt → M0.2.1 88 i = M0.2.1 88 j → i = j) (hc : cnt ≤ 257) (h : mkC M0 M cnt ins n x y K) (hx : x < cnt) (hy : y < cnt) (hi : i < 2 ^ ins) (hins : 2 ^ ins ≤ 16) (hp : p < cnt) (hq : q < cnt) (gp : prE M0 x i p) (gq : prE M0 y i q) {Φ : ((md_S × Int32 × Int32) ⊕ (md_S × Int32)) → Prop} (kk : ∀ M' n', mkC M0 M' cnt ins n' x y K → mkG M M' cnt → ap M' p q → Φ (.inl (M', Int32.ofNat n', M'.2.1 97 (16 * q + i)))) : dc_wp (mm_markPairs_b211 M (Int32.ofNat n) (Int32.ofNat x) (Int32.ofNat y) (Int32.ofNat i) (Int32.ofNat p) (Int32.ofNat q)) Φ := by
  obtain ⟨hB, hN, hF, hK, hA⟩ := h
  have n32 : n ≤ 32896 := by have := hB.2.2.2.1; omega
  have nq : ¬ Int32.ofNat q = -1 := nk_1 (by omega)
  have c1 : (Int32.ofNat (257 * p + q)).toInt = ((257 * p + q : Nat) : Int) := Int32.toInt_ofNat_of_lt (by omega)
  have c1n : (Int32.ofNat (257 * p + q)).toInt.toNat = 257 * p + q := by omega
  have c2 : (Int32.ofNat (257 * q + p)).toInt = ((257 * q + p : Nat) : Int) := Int32.toInt_ofNat_of_lt (by omega)
  have c2n : (Int32.ofNat (257 * q + p)).toInt.toNat = 257 * q + p := by omega
  have c3 : (Int32.ofNat (16 * q + i)).toInt = ((16 * q + i : Nat) : Int) := Int32.toInt_ofNat_of_lt (by omega)
  have c3n : (Int32.ofNat (16 * q + i)).toInt.toNat = 16 * q + i := by omega
  have tn : (Int32.ofNat n).toInt = (n : Int) := Int32.toInt_ofNat_of_lt (by omega)
  have tnn : (Int32.ofNat n).toInt.toNat = n := by omega
  have last : ∀ Y v, dc_wp (mm_markPairs_L285 Y (Int32.ofNat v) (Int32.ofNat x) (Int32.ofNat y) (Int32.ofNat i) (Int32.ofNat p) (Int32.ofNat q)) (fun z => z = .inl (Y, Int32.ofNat v, Y.2.1 97 (16 * q + i))) := by
    intro Y v
    delta mm_markPairs_L285
    rw [cel_m]
    refine wq_ix (by omega) (by omega) ?_
    rw [c3n]
    exact ⟨_, rfl, rfl⟩
  delta mm_markPairs_b211
  rw [if_neg nq, cel_p, cel_p]
  refine wq_ix (by omega) (by omega) ?_
  rw [c1n]
  refine wq_if (fun z => ?_) (fun z => ?_)
  · refine wq_ix (by omega) (by omega) ?_
    refine wq_let (fun Y1 e1 => ?_)
    refine wq_ix (by omega) (by omega) ?_
    refine wq_let (fun Y2 e2 => ?_)
    refine wq_ix (by omega) (by omega) ?_
    refine wq_let (fun Y3 e3 => ?_)
    rw [c2n] at e1
    rw [c1n] at e2
    rw [tnn] at e3
    have na : ¬ ap M p q := fun w => w z
    have hW : mkW M Y3 n p q := by
      refine ⟨by rw [e3, e2, e1]; rfl, fun j hj => ?_, ?_, ?_⟩
      · rw [e3, md_a2, if_neg (by omega), e2, md_a2, if_neg (by omega), e1, md_a2, if_neg (by omega)]
      · rw [e3, md_a2, if_neg (by omega), e2, md_a2, if_pos rfl, e1, md_a2, if_pos rfl]
      · rw [e3, md_a2, if_pos rfl, e2, md_a2, if_neg (by omega), e1, md_a2, if_neg (by omega)]
    have gx : M0.2.1 92 (16 * p + i) = M0.2.1 88 x := gp
    have gy : M0.2.1 92 (16 * q + i) = M0.2.1 88 y := gq
    have nxy : ¬ x = y := fun e => by
      rw [← e] at hA
      exact mkB_i hB hd hx hA
    have ne : ¬ p = q := fun e => by
      rw [← e, gx] at gy
      exact nxy (hd x y hx hy gy)
    obtain ⟨hB', hu⟩ := mk_push hB hc hp hq ne na (fun R hR => ⟨fun w => hB.2.2.1 R hR x y hx hy ((hR p q hp hq w).2 i hi x y hx hy gp gq) hA, fun w => hB.2.2.1 R hR y x hy hx ((hR q p hq hp w).2 i hi y x hy hx gq gp) (hB.2.1 x y hx hy hA)⟩) hW
    have mg : mkG M Y3 cnt := fun a b ha hb w => (mkW_a hW (by omega) (by omega) (by omega) (by omega)).mpr (Or.inl w)
    rw [ad_m (by omega)]
    refine wq_w (last Y3 (n + 1)) ?_
    intro z ez
    rw [ez]
    refine kk Y3 (n + 1) ⟨hB', fun a b ha hb w => ?_, fun a b ha hb w => mg a b ha hb (hF a b ha hb w), by omega, mg x y hx hy hA⟩ mg ((mkW_a hW (by omega) (by omega) (by omega) (by omega)).mpr (Or.inr (Or.inl ⟨rfl, rfl⟩)))
    rcases (mkW_a hW (by omega) (by omega) (by omega) (by omega)).mp w with w | w | w
    · rcases hN a b ha hb w with v | v | v | v
      · exact Or.inl (mkW_o hW v)
      · exact Or.inr (Or.inl (mkW_o hW v))
      · exact Or.inr (Or.inr (Or.inl (Clo_g mg v)))
      · exact Or.inr (Or.inr (Or.inr v))
    · rw [w.1, w.2]; exact Or.inl (mkW_n hW)
    · rw [w.1, w.2]; exact Or.inr (Or.inl (mkW_n hW))
  · refine wq_w (last M n) ?_
    intro w ez
    rw [ez]
    exact kk M n ⟨hB, hN, hF, hK, hA⟩ (fun _ _ _ _ w => w) z
/-- all q that lead to y -/
theorem mk_L211 {i p : Nat} {v0 : Int32} (hd : ∀ i j, i < cnt → j < cnt → M0.2.1 88 i = M0.2.1 88 j → i = j) (hc : cnt ≤ 257) (hln : ∀ p, p < cnt → prE M0 y i p → isP (prE M0 y i) p (M0.2.1 97 (16 * p + i))) (h : mkC M0 M cnt ins n x y K) (hx : x < cnt) (hy : y < cnt) (hi : i < 2 ^ ins) (hins : 2 ^ ins ≤ 16) (hp : p < cnt) (gp : prE M0 x i p) (h0 : isP (prE M0 y i) cnt v0) : dc_wp (mm_markPairs_L211 M (Int32.ofNat n) (Int32.ofNat x) (Int32.ofNat y) (Int32.ofNat i) (Int32.ofNat p) v0) (fun z => ∃ M' n', z = .inl (M', Int32.ofNat n', M0.2.1 97 (16 * p + i)) ∧ mkC M0 M' cnt ins n' x y K ∧ mkG M M' cnt ∧ ∀ q, q < cnt → prE M0 y i q → ap M' p q) := by
  have key := dc_itK (step := mm_markPairs_s211 (Int32.ofNat x) (Int32.ofNat y) (Int32.ofNat i) (Int32.ofNat p)) (fun d (w : md_S × Int32 × Int32) => ∃ n', w.2.1 = Int32.ofNat n' ∧ mkC M0 w.1 cnt ins n' x y K ∧ mkG M w.1 cnt ∧ d ≤ cnt ∧ isP (prE M0 y i) d w.2.2 ∧ ∀ q, d ≤ q → q < cnt → prE M0 y i q → ap w.1 p q) (F := fun w => ∃ n', w.2 = Int32.ofNat n' ∧ mkC M0 w.1 cnt ins n' x y K ∧ mkG M w.1 cnt ∧ ∀ q, q < cnt → prE M0 y i q → ap w.1 p q) (by
    rintro d ⟨Y, v1, v2⟩ ⟨n', e1, hC, hG, d1, hP, hall⟩
    have e1 : v1 = Int32.ofNat n' := e1
    have hC : mkC M0 Y cnt ins n' x y K := hC
    have hG : mkG M Y cnt := hG
    have hP : isP (prE M0 y i) d v2 := hP
    have hall : ∀ q, d ≤ q → q < cnt → prE M0 y i q → ap Y p q := hall
    subst e1
    show dc_wp (mm_markPairs_b211 Y (Int32.ofNat n') (Int32.ofNat x) (Int32.ofNat y) (Int32.ofNat i) (Int32.ofNat p) v2) _
    rcases hP with ⟨ev, no⟩ | ⟨q, ev, q1, q2, q3⟩
    · delta mm_markPairs_b211
      rw [if_pos ev]
      refine ⟨_, rfl, n', rfl, hC, hG, fun q hq hP => ?_⟩
      by_cases c : q < d
      · exact absurd hP (no q c)
      · exact hall q (by omega) hq hP
    · subst ev
      refine mk_211 hd hc hC hx hy hi hins hp (by omega) gp q2 (fun M' n'' k1 k2 k3 => ?_)
      refine ⟨q, q1, n'', rfl, k1, fun a b ha hb w => k2 a b ha hb (hG a b ha hb w), by omega, ?_, fun q' h1 h2 h3 => ?_⟩
      · have e : M'.2.1 97 = M0.2.1 97 := k1.1.1.2 97 (by omega)
        show isP (prE M0 y i) q (M'.2.1 97 (16 * q + i))
        rw [e]
        exact hln q (by omega) q2
      · by_cases c : q' = q
        · rw [c]; exact k3
        · by_cases c2 : q' < d
          · exact absurd h3 (q3 q' (by omega) c2)
          · exact k2 p q' hp h2 (hall q' (by omega) h2 h3))
  delta mm_markPairs_L211
  refine wq_call (key cnt (M, Int32.ofNat n, v0) ⟨n, rfl, h, fun _ _ _ _ w => w, Nat.le_refl _, h0, fun q h1 h2 => absurd h1 (by omega)⟩) ?_
  rintro ⟨Y, v⟩ ⟨n', e1, hC, hG, hall⟩
  have e1 : v = Int32.ofNat n' := e1
  have hC : mkC M0 Y cnt ins n' x y K := hC
  subst e1
  have c3 : (Int32.ofNat (16 * p + i)).toInt = ((16 * p + i : Nat) : Int) := Int32.toInt_ofNat_of_lt (by omega)
  have c3n : (Int32.ofNat (16 * p + i)).toInt.toNat = 16 * p + i := by omega
  show dc_wp (mm_markPairs_L303 Y (Int32.ofNat n') (Int32.ofNat x) (Int32.ofNat y) (Int32.ofNat i) (Int32.ofNat p)) _
  delta mm_markPairs_L303
  rw [cel_m]
  refine wq_ix (by omega) (by omega) ?_
  rw [c3n]
  refine ⟨_, rfl, Y, n', ?_, hC, hG, hall⟩
  have e : Y.2.1 97 = M0.2.1 97 := hC.1.1.2 97 (by omega)
  rw [← e]
/-- all p that lead to x, with all q that lead to y -/
theorem mk_L191 {i : Nat} {v0 : Int32} (hd : ∀ i j, i < cnt → j < cnt → M0.2.1 88 i = M0.2.1 88 j → i = j) (hc : cnt ≤ 257) (hl : ∀ k, k < cnt → isP (prE M0 k i) cnt (M0.2.1 96 (16 * k + i)) ∧ ∀ p, p < cnt → prE M0 k i p → isP (prE M0 k i) p (M0.2.1 97 (16 * p + i))) (h : mkC M0 M cnt ins n x y K) (hx : x < cnt) (hy : y < cnt) (hi : i < 2 ^ ins) (hins : 2 ^ ins ≤ 16) (h0 : isP (prE M0 x i) cnt v0) : dc_wp (mm_markPairs_L191 M (Int32.ofNat n) (Int32.ofNat x) (Int32.ofNat y) (Int32.ofNat i) v0) (fun z => ∃ M' n', z = .inl (M', Int32.ofNat n', Int32.ofNat (i + 1)) ∧ mkC M0 M' cnt ins n' x y K ∧ mkG M M' cnt ∧ ∀ p q, p < cnt → q < cnt → prE M0 x i p → prE M0 y i q → ap M' p q) := by
  have key := dc_itK (step := mm_markPairs_s191 (Int32.ofNat x) (Int32.ofNat y) (Int32.ofNat i)) (fun d (w : md_S × Int32 × Int32) => ∃ n', w.2.1 = Int32.ofNat n' ∧ mkC M0 w.1 cnt ins n' x y K ∧ mkG M w.1 cnt ∧ d ≤ cnt ∧ isP (prE M0 x i) d w.2.2 ∧ ∀ p q, d ≤ p → p < cnt → q < cnt → prE M0 x i p → prE M0 y i q → ap w.1 p q) (F := fun w => ∃ n', w.2 = Int32.ofNat n' ∧ mkC M0 w.1 cnt ins n' x y K ∧ mkG M w.1 cnt ∧ ∀ p q, p < cnt → q < cnt → prE M0 x i p → prE M0 y i q → ap w.1 p q) (by
    rintro d ⟨Y, v1, v2⟩ ⟨n', e1, hC, hG, d1, hP, hall⟩
    have e1 : v1 = Int32.ofNat n' := e1
    have hC : mkC M0 Y cnt ins n' x y K := hC
    have hG : mkG M Y cnt := hG
    have hP : isP (prE M0 x i) d v2 := hP
    have hall : ∀ p q, d ≤ p → p < cnt → q < cnt → prE M0 x i p → prE M0 y i q → ap Y p q := hall
    subst e1
    show dc_wp (mm_markPairs_b191 Y (Int32.ofNat n') (Int32.ofNat x) (Int32.ofNat y) (Int32.ofNat i) v2) _
    rcases hP with ⟨ev, no⟩ | ⟨p, ev, p1, p2, p3⟩
    · delta mm_markPairs_b191
      rw [if_pos ev]
      refine ⟨_, rfl, n', rfl, hC, hG, fun p q hp hq hP hQ => ?_⟩
      by_cases c : p < d
      · exact absurd hP (no p c)
      · exact hall p q (by omega) hp hq hP hQ
    · subst ev
      have np : ¬ Int32.ofNat p = -1 := nk_1 (by omega)
      have c3 : (Int32.ofNat (16 * y + i)).toInt = ((16 * y + i : Nat) : Int) := Int32.toInt_ofNat_of_lt (by omega)
      have c3n : (Int32.ofNat (16 * y + i)).toInt.toNat = 16 * y + i := by omega
      delta mm_markPairs_b191
      rw [if_neg np, cel_m]
      refine wq_ix (by omega) (by omega) ?_
      refine wq_let (fun v ev => ?_)
      rw [c3n, hC.1.1.2 96 (by omega)] at ev
      refine wq_w (mk_L211 hd hc (hl y hy).2 hC hx hy hi hins (by omega) p2 (by rw [ev]; exact (hl y hy).1)) ?_
      rintro z ⟨M', n'', ez, k1, k2, k3⟩
      subst ez
      refine ⟨p, p1, n'', rfl, k1, fun a b ha hb w => k2 a b ha hb (hG a b ha hb w), by omega, (hl x hx).2 p (by omega) p2, fun p' q' h1 h2 h3 h4 h5 => ?_⟩
      by_cases c : p' = p
      · rw [c]; exact k3 q' h3 h5
      · by_cases c2 : p' < d
        · exact absurd h4 (p3 p' (by omega) c2)
        · exact k2 p' q' h2 h3 (hall p' q' (by omega) h2 h3 h4 h5))
  delta mm_markPairs_L191
  refine wq_call (key cnt (M, Int32.ofNat n, v0) ⟨n, rfl, h, fun _ _ _ _ w => w, Nat.le_refl _, h0, fun p q h1 h2 => absurd h1 (by omega)⟩) ?_
  rintro ⟨Y, v⟩ ⟨n', e1, hC, hG, hall⟩
  have e1 : v = Int32.ofNat n' := e1
  subst e1
  show dc_wp (mm_markPairs_L321 Y (Int32.ofNat n') (Int32.ofNat x) (Int32.ofNat y) (Int32.ofNat i)) _
  delta mm_markPairs_L321
  exact ⟨_, rfl, Y, n', by rw [ad_m (by omega)], hC, hG, hall⟩
/-- a pair on all inputs -/
theorem mk_L166 (hd : ∀ i j, i < cnt → j < cnt → M0.2.1 88 i = M0.2.1 88 j → i = j) (hc : cnt ≤ 257) (e45 : M0.1 45 = Int32.ofNat ins) (hi4 : ins ≤ 4) (hl : ∀ k i, k < cnt → i < 2 ^ ins → isP (prE M0 k i) cnt (M0.2.1 96 (16 * k + i)) ∧ ∀ p, p < cnt → prE M0 k i p → isP (prE M0 k i) p (M0.2.1 97 (16 * p + i))) (h : mkC M0 M cnt ins n x y K) (hx : x < cnt) (hy : y < cnt) : dc_wp (mm_markPairs_L166 M (Int32.ofNat n) (Int32.ofNat x) (Int32.ofNat y) 0) (fun z => ∃ M' n', z = .inl (M', Int32.ofNat n') ∧ mkC M0 M' cnt ins n' x y K ∧ Clo M0 M' cnt ins x y) := by
  obtain ⟨sh1, sh2, sh3⟩ := sh_ins ins hi4
  have tW : (Int32.ofNat (2 ^ ins)).toInt = ((2 ^ ins : Nat) : Int) := Int32.toInt_ofNat_of_lt (by omega)
  have key := dc_itK (step := mm_markPairs_s166 (Int32.ofNat x) (Int32.ofNat y)) (fun d (w : md_S × Int32 × Int32) => ∃ n' i, w.2.1 = Int32.ofNat n' ∧ w.2.2 = Int32.ofNat i ∧ i ≤ 2 ^ ins ∧ d = 2 ^ ins - i ∧ mkC M0 w.1 cnt ins n' x y K ∧ ∀ j, j < i → ∀ p q, p < cnt → q < cnt → prE M0 x j p → prE M0 y j q → ap w.1 p q) (F := fun w => ∃ n', w.2 = Int32.ofNat n' ∧ mkC M0 w.1 cnt ins n' x y K ∧ Clo M0 w.1 cnt ins x y) (by
    rintro d ⟨Y, v1, v2⟩ ⟨n', i, e1, e2, i1, ed, hC, hall⟩
    have e1 : v1 = Int32.ofNat n' := e1
    have e2 : v2 = Int32.ofNat i := e2
    have hC : mkC M0 Y cnt ins n' x y K := hC
    have hall : ∀ j, j < i → ∀ p q, p < cnt → q < cnt → prE M0 x j p → prE M0 y j q → ap Y p q := hall
    subst e1 e2
    have ti : (Int32.ofNat i).toInt = (i : Int) := Int32.toInt_ofNat_of_lt (by omega)
    show dc_wp (mm_markPairs_b166 Y (Int32.ofNat n') (Int32.ofNat x) (Int32.ofNat y) (Int32.ofNat i)) _
    delta mm_markPairs_b166
    rw [hC.1.1.1, e45, sh1]
    refine wq_if (fun c => ?_) (fun c => ?_)
    · have c := i_lt.mp c
      rw [ti, tW] at c
      have c3 : (Int32.ofNat (16 * x + i)).toInt = ((16 * x + i : Nat) : Int) := Int32.toInt_ofNat_of_lt (by omega)
      have c3n : (Int32.ofNat (16 * x + i)).toInt.toNat = 16 * x + i := by omega
      rw [cel_m]
      refine wq_ix (by omega) (by omega) ?_
      refine wq_let (fun v ev => ?_)
      rw [c3n, hC.1.1.2 96 (by omega)] at ev
      have hi : i < 2 ^ ins := by omega
      refine wq_w (mk_L191 hd hc (fun k hk => hl k i hk hi) hC hx hy hi sh3 (by rw [ev]; exact (hl x i hx hi).1)) ?_
      rintro z ⟨M', n'', ez, k1, k2, k3⟩
      subst ez
      refine ⟨2 ^ ins - (i + 1), by omega, n'', i + 1, rfl, rfl, by omega, rfl, k1, fun j hj p q hp hq h4 h5 => ?_⟩
      by_cases c4 : j = i
      · rw [c4] at h4 h5; exact k3 p q hp hq h4 h5
      · exact k2 p q hp hq (hall j (by omega) p q hp hq h4 h5)
    · have c : ¬ (Int32.ofNat i).toInt < (Int32.ofNat (2 ^ ins)).toInt := fun z => c (i_lt.mpr z)
      rw [ti, tW] at c
      exact ⟨_, rfl, n', rfl, hC, fun j hj p q hp hq h4 h5 => hall j (by omega) p q hp hq h4 h5⟩)
  delta mm_markPairs_L166
  refine wq_call (key (2 ^ ins) (M, Int32.ofNat n, 0) ⟨n, 0, rfl, rfl, by omega, rfl, h, fun j hj => absurd hj (by omega)⟩) ?_
  rintro ⟨Y, v⟩ ⟨n', e1, hC, hall⟩
  have e1 : v = Int32.ofNat n' := e1
  subst e1
  show dc_wp (mm_markPairs_L327 Y (Int32.ofNat n')) _
  delta mm_markPairs_L327
  exact ⟨_, rfl, Y, n', rfl, hC, hall⟩
/-- all pairs -/
theorem mk_L134 (hd : ∀ i j, i < cnt → j < cnt → M0.2.1 88 i = M0.2.1 88 j → i = j) (hc : cnt ≤ 257) (e45 : M0.1 45 = Int32.ofNat ins) (hi4 : ins ≤ 4) (hl : ∀ k i, k < cnt → i < 2 ^ ins → isP (prE M0 k i) cnt (M0.2.1 96 (16 * k + i)) ∧ ∀ p, p < cnt → prE M0 k i p → isP (prE M0 k i) p (M0.2.1 97 (16 * p + i))) (h : mkB M0 M cnt ins n) (hN : ∀ a b, a < cnt → b < cnt → ap M a b → onS M n a b ∨ onS M n b a) (hF : ∀ a b, a < cnt → b < cnt → dfP M0 (2 ^ ins) a b → ap M a b) : dc_wp (mm_markPairs_L134 M (Int32.ofNat n)) (fun Z => mkB M0 Z cnt ins 0 ∧ (∀ a b, a < cnt → b < cnt → ap Z a b → Clo M0 Z cnt ins a b) ∧ ∀ a b, a < cnt → b < cnt → dfP M0 (2 ^ ins) a b → ap Z a b) := by
  have key := dc_itK (step := mm_markPairs_s134) (fun d (w : md_S × Int32) => ∃ n', w.2 = Int32.ofNat n' ∧ mkB M0 w.1 cnt ins n' ∧ (∀ a b, a < cnt → b < cnt → ap w.1 a b → onS w.1 n' a b ∨ onS w.1 n' b a ∨ Clo M0 w.1 cnt ins a b) ∧ (∀ a b, a < cnt → b < cnt → dfP M0 (2 ^ ins) a b → ap w.1 a b) ∧ 2 * uN (w.1.2.1 94) cnt + n' ≤ d) (F := fun Z => mkB M0 Z cnt ins 0 ∧ (∀ a b, a < cnt → b < cnt → ap Z a b → Clo M0 Z cnt ins a b) ∧ ∀ a b, a < cnt → b < cnt → dfP M0 (2 ^ ins) a b → ap Z a b) (by
    rintro d ⟨Y, v⟩ ⟨n', e1, hB, hN, hF, hK⟩
    have e1 : v = Int32.ofNat n' := e1
    have hB : mkB M0 Y cnt ins n' := hB
    have hN : ∀ a b, a < cnt → b < cnt → ap Y a b → onS Y n' a b ∨ onS Y n' b a ∨ Clo M0 Y cnt ins a b := hN
    have hF : ∀ a b, a < cnt → b < cnt → dfP M0 (2 ^ ins) a b → ap Y a b := hF
    have hK : 2 * uN (Y.2.1 94) cnt + n' ≤ d := hK
    subst e1
    have n32 : n' ≤ 32896 := by have := hB.2.2.2.1; omega
    have tn : (Int32.ofNat n').toInt = (n' : Int) := Int32.toInt_ofNat_of_lt (by omega)
    show dc_wp (mm_markPairs_b134 Y (Int32.ofNat n')) _
    delta mm_markPairs_b134
    refine wq_if (fun c => ?_) (fun c => ?_)
    · have c := i_lt.mp c
      rw [tn, il_0] at c
      obtain ⟨m, em⟩ : ∃ m, n' = m + 1 := ⟨n' - 1, by omega⟩
      subst em
      have dm : Int32.ofNat (m + 1) + (-1) = Int32.ofNat m := by
        rw [← ad_m (by omega), Int32.add_assoc]
        exact Int32.add_zero _
      have tm : (Int32.ofNat m).toInt = (m : Int) := Int32.toInt_ofNat_of_lt (by omega)
      have tmn : (Int32.ofNat m).toInt.toNat = m := by omega
      obtain ⟨x, y, hx, hy, exy, hap⟩ := hB.2.2.2.2 m (by omega)
      rw [dm]
      refine wq_ix (by omega) (by omega) ?_
      rw [tmn, exy]
      refine wq_let (fun w ew => ?_)
      refine wq_ix (by omega) (by omega) ?_
      rw [tmn, exy]
      refine wq_let (fun w' ew' => ?_)
      obtain ⟨d1, d2⟩ := dv_p (m := 257 * x + y) (by omega)
      rw [d1, show (257 * x + y) / 257 = x by omega] at ew
      rw [d2, show (257 * x + y) % 257 = y by omega] at ew'
      subst ew ew'
      have hB' : mkB M0 Y cnt ins m := ⟨hB.1, hB.2.1, hB.2.2.1, by have t : m + 1 + uN (Y.2.1 94) cnt ≤ 32896 := hB.2.2.2.1; omega, fun k hk => hB.2.2.2.2 k (by omega)⟩
      have hs : ∀ a b, a < cnt → b < cnt → onS Y (m + 1) a b → onS Y m a b ∨ (a = x ∧ b = y) := by
        rintro a b ha hb ⟨k, k1, k2⟩
        by_cases ek : k = m
        · rw [ek, exy] at k2
          have := ofN_j (by omega) (by omega) k2
          exact Or.inr (by omega)
        · exact Or.inl ⟨k, by omega, k2⟩
      have hC : mkC M0 Y cnt ins m x y (2 * uN (Y.2.1 94) cnt + m) := by
        refine ⟨hB', fun a b ha hb w => ?_, hF, Nat.le_refl _, hap⟩
        rcases hN a b ha hb w with v | v | v
        · rcases hs a b ha hb v with v | v
          · exact Or.inl v
          · exact Or.inr (Or.inr (Or.inr (Or.inl v)))
        · rcases hs b a hb ha v with v | v
          · exact Or.inr (Or.inl v)
          · exact Or.inr (Or.inr (Or.inr (Or.inr ⟨v.2, v.1⟩)))
        · exact Or.inr (Or.inr (Or.inl v))
      refine wq_w (mk_L166 hd hc e45 hi4 hl hC hx hy) ?_
      rintro z ⟨M', n'', ez, ⟨k1, k2, k3, k4, k5⟩, k6⟩
      subst ez
      refine ⟨2 * uN (M'.2.1 94) cnt + n'', by omega, n'', rfl, k1, fun a b ha hb w => ?_, k3, Nat.le_refl _⟩
      rcases k2 a b ha hb w with v | v | v | v | v
      · exact Or.inl v
      · exact Or.inr (Or.inl v)
      · exact Or.inr (Or.inr v)
      · rw [v.1, v.2]; exact Or.inr (Or.inr k6)
      · rw [v.1, v.2]
        refine Or.inr (Or.inr (fun i hi p q hp hq h1 h2 => ?_))
        exact k1.2.1 q p hq hp (k6 i hi q p hq hp h2 h1)
    · have c : ¬ (0 : Int32).toInt < (Int32.ofNat n').toInt := fun z => c (i_lt.mpr z)
      rw [tn, il_0] at c
      have e0 : n' = 0 := by omega
      subst e0
      refine ⟨_, rfl, hB, fun a b ha hb w => ?_, hF⟩
      rcases hN a b ha hb w with ⟨k, k1, -⟩ | ⟨k, k1, -⟩ | v
      · omega
      · omega
      · exact v)
  delta mm_markPairs_L134
  refine wq_call (key (2 * uN (M.2.1 94) cnt + n) (M, Int32.ofNat n) ⟨n, rfl, h, fun a b ha hb w => (hN a b ha hb w).elim Or.inl (fun v => Or.inr (Or.inl v)), hF, Nat.le_refl _⟩) ?_
  intro Z hZ
  delta mm_markPairs_L330
  exact ⟨_, rfl, hZ⟩
end MPR
