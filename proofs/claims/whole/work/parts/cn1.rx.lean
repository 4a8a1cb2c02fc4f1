/-! the class's react: its rounds and its answer -/
section RXC
variable {G : hg_E} {E : rvP} {M : md_S} {P : gvP} {D : Option Nat → Prop} {names : Int32} {kk ff ss xx : Nat → Int32} {m n ps sg pa pls N : Nat} {T : tT} {up : Int32} {t : Int32} {a c : Int} {Es : List (Int32 × Int32)} {S : hg_S} {q : rsT} {ins io inst : Nat} {md : Option Nat} {μ : Nat → Int32} {p y : Int32}
/-- the answer of the class -/
def rxA (ins io : Nat) (q : rsT) (z : Int32) : Prop := (z = 2 ∧ (¬ q.2 14 = 0 ∨ q.1 8 0 = -1 ∨ ∃ p, ins ≤ p ∧ p < io ∧ q.1 1 p = 2)) ∨ ((q.2 14 = 0 ∧ ¬ q.1 8 0 = -1 ∧ ∀ p, ins ≤ p → p < io → ¬ q.1 1 p = 2) ∧ ((z = 1 ∧ q.1 8 0 = 0) ∨ (z = 0 ∧ ¬ q.1 8 0 = 0)))
theorem l69_w (hS : gSt M E P D n ps sg pa pls N) (n1 : 1 ≤ n) (e1 : vC E 1 = Int32.ofNat ins) (e2 : vC E 1 + vC E 2 = Int32.ofNat io) (hio : ins ≤ io ∧ io ≤ pls ∧ io ≤ 62) (hR : RV G E S q) : dc_wp (hm_RE_react_L69 G S (vO E)) (fun z => RV G E z.1 q ∧ rxA ins io q z.2) := by
  have l1 := hS.2.2.2.1.1.1
  have l8 := hS.2.2.2.1.2.1 8 (by decide) (by decide)
  have t0 : (0 : Int32).toInt = 0 := by decide
  have t0n : (0 : Int32).toInt.toNat = 0 := by decide
  delta hm_RE_react_L69
  refine rv_i hR (by decide) (by decide) ?_
  refine wq_if (fun c => ?_) (fun c => ?_)
  · refine rv_g hR (by decide) (by decide) ?_
    refine rv_l hR (by decide) (by decide) rfl (by omega) (by rw [l8]; omega) ?_
    rw [t0n]
    refine wq_if (fun c2 => ?_) (fun c2 => ?_)
    · delta hm_RE_react_L93
      exact ⟨_, rfl, hR, Or.inl ⟨rfl, Or.inr (Or.inl c2)⟩⟩
    · refine rv_c hR ?_
      refine wq_call (oka_w e1 e2 ⟨hio.1, hio.2.1, by omega⟩ l1 hR) (fun r hr => ?_)
      rcases hr with ⟨e, hr⟩ | ⟨e, hr⟩
      · rw [if_pos e]
        delta hm_RE_react_L93
        exact ⟨_, rfl, hR, Or.inl ⟨rfl, Or.inr (Or.inr hr)⟩⟩
      · rw [if_neg (by rw [e]; decide)]
        refine rv_g hR (by decide) (by decide) ?_
        refine rv_l hR (by decide) (by decide) rfl (by omega) (by rw [l8]; omega) ?_
        rw [t0n]
        refine wq_if (fun c3 => ?_) (fun c3 => ?_)
        · delta hm_RE_react_L109
          exact ⟨_, rfl, hR, Or.inr ⟨⟨c, c2, hr⟩, Or.inl ⟨rfl, c3⟩⟩⟩
        · delta hm_RE_react_L109
          exact ⟨_, rfl, hR, Or.inr ⟨⟨c, c2, hr⟩, Or.inr ⟨rfl, c3⟩⟩⟩
  · delta hm_RE_react_L93
    exact ⟨_, rfl, hR, Or.inl ⟨rfl, Or.inl c⟩⟩
theorem rds_w (W : pcW names kk ff ss xx m) (hgO : ∀ i, v3 (gO P i)) (hm : m ≤ 1000) (hS : gSt M E P D n ps sg pa pls N) (hT : gTr M kk ff xx m n ps sg pa T (fun y => 0 ≤ y.toInt ∧ y.toInt < (io : Int)) 0 up 1 t a c Es) (hN : wsm T 1 * 4 ≤ (N : Int)) (e1 : vC E 1 = Int32.ofNat ins) (e2 : vC E 1 + vC E 2 = Int32.ofNat io) (hio : ins ≤ io ∧ io ≤ pls ∧ io ≤ 62) (hiA : ∀ i, i < io → gA P i ∧ gPl P i = i) (hlc : ∀ y, y ∈ lcT T → (io : Int) ≤ y.toInt) (hy : mdY md p y) (hD : D md) (hh : md = none → hsC M.2.1 (gC P) 0) (hμ : rdM M P T md ins io μ) (hr : rdI P ins io pls μ 1 q) (hR : RV G E S q) (h13 : q.2 13 = 1) : dc_wp (hm_RE_react_L16 G S (vO E) p) (fun z => ∃ q' r, RV G E z.1 q' ∧ rdI P ins io pls μ r q' ∧ rdF M P T md ins io q' ∧ rxA ins io q' z.2) := by
  have l1 := hS.2.2.2.1.1.1
  have hpls := hS.2.1.2.2.2.2
  have n1 : 1 ≤ n := by have := hT.2.1; have := tsz_pos T; omega
  delta hm_RE_react_L16
  have key := dc_itK (step := hm_RE_react_s16 G (vO E) p) (fun d (Y : hg_S) => ∃ q r, RV G E Y q ∧ rdI P ins io pls μ r q ∧ ((q.2 13 = 0 ∧ rdF M P T md ins io q) ∨ (q.2 13 = 1 ∧ d = cn2 (q.1 1) pls + 1 ∧ cn2 (q.1 1) pls + r ≤ pls + 1))) (F := fun Y => ∃ q r, RV G E Y q ∧ rdI P ins io pls μ r q ∧ rdF M P T md ins io q) (by
    rintro d Y ⟨q, r, g, hr, hc⟩
    show dc_wp (hm_RE_react_b16 G Y (vO E) p) _
    delta hm_RE_react_b16
    refine rv_i g (by decide) (by decide) ?_
    rcases hc with ⟨c0, hf⟩ | ⟨c1, ed, hb⟩
    · rw [if_pos c0]
      exact ⟨_, rfl, q, r, g, hr, hf⟩
    · rw [if_neg (by rw [c1]; decide)]
      refine rv_i g (by decide) (by decide) ?_
      refine rv_g g (by decide) (by decide) ?_
      refine rv_ln g (by decide) (by decide) rfl ?_
      rw [hr.1.1, l1]
      have ep : (Int32.ofNat pls + 2).toInt = (pls : Int) + 2 := by
        have : Int32.ofNat pls + 2 = Int32.ofNat (pls + 2) := by
          rw [Int32.ofNat_add]
          rfl
        rw [this, Int32.toInt_ofNat_of_lt (by omega)]
        omega
      have r2 := hr.1.2.1
      have nl : ¬ (Int32.ofNat pls + 2 < Int32.ofNat r) := by
        intro z
        have z := i_lt.mp z
        rw [ep, Int32.toInt_ofNat_of_lt (by omega)] at z
        omega
      rw [if_neg nl]
      refine rv_f g (by decide) (by decide) (fun S14 g14 => ?_)
      refine rv_f g14 (by decide) (by decide) (fun S15 g15 => ?_)
      have hr' : rdI P ins io pls μ r (uC (uC q 13 0) 14 0) := by
        obtain ⟨⟨a1, a2, a3⟩, hI, b1, b2, b3, b4, b5⟩ := hr
        refine ⟨⟨by rw [uC_n (by decide), uC_n (by decide)]; exact a1, a2, a3⟩, ⟨hI.1, hI.2.1, hI.2.2.1, Or.inl uC_s⟩, b1, b2, b3, b4, b5⟩
      refine rv_c g15 ?_
      refine wq_call (rd_1 W hgO hm hS hT hN e1 e2 hio hiA hlc hy hD hh hμ hr' (by omega) g15 (by rw [uC_n (by decide), uC_s]) uC_s) ?_
      rintro S19 ⟨⟨q19, g19⟩, hco⟩
      refine rv_c g19 ?_
      refine wq_call hco ?_
      rintro S23 ⟨q2, g2, e12, hn, hc2⟩
      refine rv_i g2 (by decide) (by decide) ?_
      refine rv_f g2 (by decide) (by decide) (fun S25 g25 => ?_)
      rw [e12] at g25
      have hnx := hn (Int32.ofNat r + 1) (ad_m (by omega))
      rcases hc2 with ⟨c0, hf⟩ | ⟨c1', hb'⟩
      · refine ⟨_, rfl, 0, by omega, _, r + 1, g25, hnx, Or.inl ⟨by rw [uC_n (by decide)]; exact c0, ?_⟩⟩
        obtain ⟨f1, f2, f3, f4, f5, f6⟩ := hf
        exact ⟨f1, f2, f3, by rw [uC_n (by decide)]; exact f4, f5, f6⟩
      · have hb'' : cn2 (q2.1 1) pls + 1 ≤ cn2 (q.1 1) pls := hb'
        refine ⟨_, rfl, cn2 (q2.1 1) pls + 1, by omega, _, r + 1, g25, hnx, Or.inr ⟨by rw [uC_n (by decide)]; exact c1', rfl, ?_⟩⟩
        show cn2 (q2.1 1) pls + (r + 1) ≤ pls + 1
        omega)
  have c0 := cn2_le (f := q.1 1) pls
  refine wq_call (key _ S ⟨q, 1, hR, hr, Or.inr ⟨h13, rfl, by omega⟩⟩) ?_
  rintro S' ⟨q', r, g, hr', hf⟩
  exact wq_w (l69_w hS n1 e1 e2 hio g) (fun z hz => ⟨q', r, hz.1, hr', hf, hz.2⟩)
end RXC
