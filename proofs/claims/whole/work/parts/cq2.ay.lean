/-! explore: one state on one choice of inputs, on both sides -/
/-- cells that are done: what follows, what is shown -/
def axC (q : rsT) (M : md_S) (J I W : Nat) : Prop := ∀ j i, (j < J ∧ i < W) ∨ (j = J ∧ i < I) → q.1 0 (16 * (M.2.1 88 j).toInt.toNat + i) = M.2.1 92 (16 * j + i) ∧ (q.1 1 (16 * (M.2.1 88 j).toInt.toNat + i) = if M.2.1 92 (16 * j + i) = -1 then -1 else M.2.1 93 (16 * j + i)) ∧ ∀ k, (M.1 46).toInt.toNat ≤ k → gb (M.2.1 93 (16 * j + i)) k = false
/-- the bits of outputs -/
theorem gb_1s : ∀ k, k < 31 → ∀ j, j < 32 → gb ((1 : Int32) <<< (Int32.ofNat k &&& (31 : Int32))) j = decide (j = k) := by decide +kernel
theorem gb_ps {σ : Nat → Int32} {ins : Nat} : ∀ n, n ≤ 31 → ∀ k, n ≤ k → gb (oB (psB σ ins) n) k = false
  | 0, _, k, _ => gb_0 k
  | n + 1, h, k, hk => by
    show gb (oB (psB σ ins) n ||| psB σ ins n) k = false
    rw [gb_or, gb_ps n (by omega) k (by omega), Bool.false_or]
    unfold psB
    by_cases c : σ (ins + n) = 1
    · rw [if_pos c]
      by_cases d : k < 32
      · rw [gb_1s n (by omega) k d]
        exact decide_eq_false (by omega)
      · exact gb_ge (by omega)
    · rw [if_neg c]; exact gb_0 k
theorem gb_th {σ : Nat → Int32} : ∀ n, n ≤ 31 → ∀ k, n ≤ k → gb (oB (thB σ) n) k = false
  | 0, _, k, _ => gb_0 k
  | n + 1, h, k, hk => by
    show gb (oB (thB σ) n ||| thB σ n) k = false
    rw [gb_or, gb_th n (by omega) k (by omega), Bool.false_or]
    unfold thB
    by_cases c : σ n = 0
    · rw [if_pos c]; exact gb_0 k
    · rw [if_neg c]
      by_cases d : k < 32
      · rw [gb_1s n (by omega) k d]
        exact decide_eq_false (by omega)
      · exact gb_ge (by omega)
section AXT
variable {q q' : rsT} {M Z : md_S} {cnt pa J I W : Nat}
theorem axS_k (h : axS q M cnt pa) (hq : ∀ i, 2 ≤ i → i ≤ 5 → q'.1 i = q.1 i) (h9 : q'.2 9 = q.2 9) (h87 : Z.1 87 = M.1 87) (hz : ∀ i, 88 ≤ i → i ≤ 91 → Z.2.1 i = M.2.1 i) : axS q' Z cnt pa := by
  unfold axS
  rw [h9, h87, hz 88 (by omega) (by omega), hz 89 (by omega) (by omega), hz 90 (by omega) (by omega), hz 91 (by omega) (by omega), hq 2 (by omega) (by omega), hq 3 (by omega) (by omega), hq 4 (by omega) (by omega), hq 5 (by omega) (by omega)]
  exact h
theorem axC_p {v w s : Int32} (h : axS q M cnt pa) (hC : axC q M J I W) (hJ : J < cnt) (hI : I < 16) (hW : W ≤ 16) (q0 : q'.1 0 = upd (q.1 0) (16 * (M.2.1 88 J).toInt.toNat + I) v) (q1 : q'.1 1 = upd (q.1 1) (16 * (M.2.1 88 J).toInt.toNat + I) w) (z8 : ∀ j, j < cnt → Z.2.1 88 j = M.2.1 88 j) (z2 : Z.2.1 92 = upd (M.2.1 92) (16 * J + I) v) (z3 : ∀ i, Z.2.1 93 i = if i = 16 * J + I then s else M.2.1 93 i) (hw : w = if v = -1 then -1 else s) (z46 : Z.1 46 = M.1 46) (hs : ∀ k, (M.1 46).toInt.toNat ≤ k → gb s k = false) : axC q' Z J (I + 1) W := by
  intro j i hji
  by_cases c : j = J ∧ i = I
  · obtain ⟨c1, c2⟩ := c
    subst c1 c2
    rw [z8 j hJ, q0, q1, z2, z3, if_pos rfl, upd_s, upd_s, upd_s, z46]
    exact ⟨rfl, hw, hs⟩
  · have hj : j < cnt := by omega
    have nr : ¬ 16 * j + i = 16 * J + I := by omega
    have nc : ¬ 16 * (M.2.1 88 j).toInt.toNat + i = 16 * (M.2.1 88 J).toInt.toNat + I := by
      intro e
      have e1 : (M.2.1 88 j).toInt.toNat = (M.2.1 88 J).toInt.toNat := by omega
      have e2 := h.2.2.2.1 j J hj hJ (t_nn (h.2.1 j hj).1.1 (h.2.1 J hJ).1.1 e1)
      omega
    rw [z8 j hj, q0, q1, z2, z3, if_neg nr, upd_n nc, upd_n nc, upd_n nr, z46]
    exact hC j i (by omega)
theorem awN_v {cl : Nat} {a th sh : Int32} : (awN q cl a th sh).1 0 = upd (q.1 0) cl (if a = 2 then -1 else if a = 1 then 257 else th) ∧ (awN q cl a th sh).1 1 = upd (q.1 1) cl (if a = 2 then -1 else sh) := by
  unfold awN
  by_cases c : a = 2
  · rw [if_pos c, if_pos c, if_pos c, uX_n (by omega), uX_s, uX_s, uX_n (by omega)]
    exact ⟨rfl, rfl⟩
  · rw [if_neg c, if_neg c, if_neg c, uX_n (by omega), uX_s, uX_s, uX_n (by omega)]
    exact ⟨rfl, rfl⟩
theorem ax_t {x6 a a' th sh : Int32} {ins out : Nat} (h : axS q M cnt pa) (hC : axC q M J I W) (hJ : J < cnt) (hI : I < 16) (hW : W ≤ 16) (hT : awT q q' (16 * (M.2.1 88 J).toInt.toNat + I) (M.2.1 88 J) x6 a th sh) (hA : ansO M Z a' (Int32.ofNat J) x6 cnt (16 * J + I) ins out pa) (ha : (a = 2 ∧ a' = -1) ∨ (a = 1 ∧ a' = 0) ∨ (a = 0 ∧ a' = 1)) (hth : a = 0 → th = oB (thB (M.2.1 75)) pa ∧ (0 ≤ th.toInt ∧ th.toInt < 257) ∧ ((∃ p, p < pa ∧ ¬ inB th p = 0) ∧ ∀ k, pa ≤ k → gb th k = false)) (hsh : ¬ a = 2 → sh = oB (psB (M.2.1 70) ins) out) (o46 : M.1 46 = Int32.ofNat out) (o31 : out ≤ 31) : ∃ cnt', cnt ≤ cnt' ∧ axS q' Z cnt' pa ∧ axC q' Z J (I + 1) W ∧ ∀ j, j < cnt → Z.2.1 88 j = M.2.1 88 j := by
  obtain ⟨v0, v1⟩ := awN_v (q := q) (cl := 16 * (M.2.1 88 J).toInt.toNat + I) (a := a) (th := th) (sh := sh)
  have vn : ∀ i, 2 ≤ i → i ≤ 5 → (awN q (16 * (M.2.1 88 J).toInt.toNat + I) a th sh).1 i = q.1 i := fun i h1 h2 => awN_2 ⟨by omega, by omega⟩
  have vc := awN_c (q := q) (cl := 16 * (M.2.1 88 J).toInt.toNat + I) (a := a) (th := th) (sh := sh)
  have gbo : ∀ k, (M.1 46).toInt.toNat ≤ k → gb (oB (psB (M.2.1 70) ins) out) k = false := fun k hk => by
    rw [o46, Int32.toInt_ofNat_of_lt (by omega)] at hk
    exact gb_ps out o31 k (by omega)
  -- nothing is met
  have quiet : ∀ (v w : Int32), (∀ i, 2 ≤ i → i ≤ 5 → q'.1 i = q.1 i) → q'.2 9 = q.2 9 → q'.1 0 = upd (q.1 0) (16 * (M.2.1 88 J).toInt.toNat + I) v → q'.1 1 = upd (q.1 1) (16 * (M.2.1 88 J).toInt.toNat + I) w → putO M Z (16 * J + I) v ins out → (w = if v = -1 then -1 else oB (psB (M.2.1 70) ins) out) → ∃ cnt', cnt ≤ cnt' ∧ axS q' Z cnt' pa ∧ axC q' Z J (I + 1) W ∧ ∀ j, j < cnt → Z.2.1 88 j = M.2.1 88 j := by
    intro v w k1 k2 k3 k4 ⟨g1, g2, g3, g4⟩ k5
    have z8 : ∀ j, j < cnt → Z.2.1 88 j = M.2.1 88 j := fun j _ => by rw [g2 88 (by omega) (by omega)]
    exact ⟨cnt, Nat.le_refl _, axS_k h k1 k2 (by rw [g1]) (fun i h1 h2 => g2 i (by omega) (by omega)), axC_p h hC hJ hI hW k3 k4 z8 g3 g4 k5 (by rw [g1]) gbo, z8⟩
  rcases ha with ⟨ea, ea'⟩ | ⟨ea, ea'⟩ | ⟨ea, ea'⟩
  · have n0 : ¬ a = 0 := by rw [ea]; decide
    have n1 : ¬ a' = 1 := by rw [ea']; decide
    have n2 : ¬ a' = 0 := by rw [ea']; decide
    rw [if_pos ea] at v0 v1
    have hP : putO M Z (16 * J + I) (-1) ins out := by
      rcases hA with ⟨e, -⟩ | ⟨-, e⟩
      · exact absurd e n1
      · rw [if_neg n2] at e; exact e
    rcases hT with ⟨-, -, e⟩ | ⟨-, -, e⟩ | ⟨e, -⟩ | ⟨e, -⟩ | ⟨e, -⟩
    · refine quiet (-1) (-1) (fun i h1 h2 => by rw [e]; exact vn i h1 h2) ?_ (by rw [e]; exact v0) (by rw [e]; exact v1) hP (by rw [if_pos rfl])
      rw [e, uC_n (by omega), uC_n (by omega), vc]
    · exact quiet (-1) (-1) (fun i h1 h2 => by rw [e]; exact vn i h1 h2) (by rw [e, vc]) (by rw [e]; exact v0) (by rw [e]; exact v1) hP (by rw [if_pos rfl])
    · exact absurd ea e
    · exact absurd e n0
    · exact absurd e n0
  · have n0 : ¬ a = 0 := by rw [ea]; decide
    have m2 : ¬ a = 2 := by rw [ea]; decide
    have n1 : ¬ a' = 1 := by rw [ea']; decide
    rw [if_neg m2] at v0 v1
    rw [if_pos ea] at v0
    have hP : putO M Z (16 * J + I) 257 ins out := by
      rcases hA with ⟨e, -⟩ | ⟨-, e⟩
      · exact absurd e n1
      · rw [if_pos ea'] at e; exact e
    rcases hT with ⟨e, -⟩ | ⟨e, -⟩ | ⟨-, -, e⟩ | ⟨e, -⟩ | ⟨e, -⟩
    · exact absurd e m2
    · exact absurd e m2
    · refine quiet 257 sh (fun i h1 h2 => by rw [e]; exact vn i h1 h2) ?_ (by rw [e]; exact v0) (by rw [e]; exact v1) hP (by rw [if_neg (by decide)]; exact hsh m2)
      rw [e, uC_n (by omega), vc]
    · exact absurd e n0
    · exact absurd e n0
  · have m2 : ¬ a = 2 := by rw [ea]; decide
    have m1 : ¬ a = 1 := by rw [ea]; decide
    rw [if_neg m2] at v0 v1
    rw [if_neg m1] at v0
    obtain ⟨t1, t2, t3⟩ := hth ea
    have tn : ¬ th = -1 := fun e => by
      have := t2.1
      rw [e] at this
      exact absurd this (by decide)
    have hP : ∃ r : md_S, metO M r th (Int32.ofNat J) x6 cnt ∧ putO r Z (16 * J + I) th ins out := by
      rcases hA with ⟨-, e⟩ | ⟨e, -⟩
      · rw [t1]; exact e
      · exact absurd ea' e
    obtain ⟨r, hm, hP⟩ := hP
    have ar := axS_r h t2
    rcases hT with ⟨e, -⟩ | ⟨e, -⟩ | ⟨-, e, -⟩ | ⟨-, e1, e⟩ | ⟨-, e1, e⟩
    · exact absurd e m2
    · exact absurd e m2
    · exact absurd ea e
    · rcases hm with ⟨-, er⟩ | ⟨no, -⟩
      · rw [er] at hP
        refine quiet th sh (fun i h1 h2 => by rw [e]; exact vn i h1 h2) ?_ (by rw [e]; exact v0) (by rw [e]; exact v1) hP (by rw [if_neg tn]; exact hsh m2)
        rw [e, uC_n (by omega), vc]
      · obtain ⟨j, j1, j2⟩ := ar.mp e1
        exact absurd j2 (no j j1)
    · rcases hm with ⟨yes, -⟩ | ⟨no, c257, r1, r87, rr, r88, r90, r91, r89⟩
      · exact absurd (ar.mpr yes) e1
      · obtain ⟨g1, g2, g3, g4⟩ := hP
        have tJ : (Int32.ofNat J).toInt = (J : Int) := Int32.toInt_ofNat_of_lt (by omega)
        have nJ : ¬ Int32.ofNat J = -1 := nk_1 (by omega)
        have b1 := axS_k (q' := uC (awN q (16 * (M.2.1 88 J).toInt.toNat + I) a th sh) 10 ((awN q (16 * (M.2.1 88 J).toInt.toNat + I) a th sh).2 10 + 1)) (Z := M) h (fun i h1 h2 => vn i h1 h2) (by rw [uC_n (by omega), vc]) rfl (fun _ _ _ => rfl)
        have b2 := axS_m (z := x6) (y := M.2.1 88 J) (r := r) b1 t2 (Or.inr t3) no c257 (p2 := Int32.ofNat J) (Or.inr ⟨by omega, by omega⟩) (by rw [if_neg nJ, tJ]; rfl) (fun _ => rfl) r87 r88 r90 r91 r89
        have z8 : ∀ j, j < cnt → Z.2.1 88 j = M.2.1 88 j := fun j hj => by rw [g2 88 (by omega) (by omega), r88, upd_n (by omega)]
        obtain ⟨-, -, -, -, w1, -, -⟩ := awM_1 (q := uC (awN q (16 * (M.2.1 88 J).toInt.toNat + I) a th sh) 10 ((awN q (16 * (M.2.1 88 J).toInt.toNat + I) a th sh).2 10 + 1)) (x := th) (y := M.2.1 88 J) (z := x6)
        refine ⟨cnt + 1, by omega, axS_k b2 (fun i _ _ => by rw [e]) (by rw [e]) (by rw [g1]) (fun i h1 h2 => g2 i (by omega) (by omega)), axC_p (v := th) (w := sh) (s := oB (psB (r.2.1 70) ins) out) h hC hJ hI hW (by rw [e, w1 0 (by omega)]; exact v0) (by rw [e, w1 1 (by omega)]; exact v1) z8 (by rw [g3, rr 92 (by omega)]) (fun i => by rw [g4, rr 93 (by omega)]) (by rw [if_neg tn, rr 70 (by omega)]; exact hsh m2) (by rw [g1, r1 46 (by omega)]) (by rw [rr 70 (by omega)]; exact gbo), z8⟩
end AXT
