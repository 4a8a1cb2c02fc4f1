/-! the class's prepare -/
section PRP
variable {G : hg_E} {E : rvP} {S : hg_S} {q : rsT} {ins pls pa hA : Nat} {hf : Nat → Int32}
theorem rv_ln (h : RV G E S q) {i t : Nat} (i1 : 1 ≤ i) (i2 : i < 12) (ht : t = if i = 9 ∨ i = 11 then 2 else 0) {τ : Type} {F : Int32 → Option τ} {Φ : τ → Prop} (kk : dc_wp (F (Int32.ofNat (vL' E i))) Φ) : dc_wp ((hg_ln S (some (vB E i)) (G.1 t)).bind F) Φ := by
  subst ht
  exact wq_ln (h.2.1.2 i i1 i2) kk
theorem fX_fX {i : Nat} {f g : Nat → Int32} : fX (fX q i f) i g = fX q i g := by
  unfold fX
  refine Prod.ext ?_ rfl
  funext j
  show (if j = i then g else (if j = i then f else q.1 j)) = if j = i then g else q.1 j
  split <;> rfl
/-- an array of the reactor is filled -/
theorem fl_w (h : RV G E S q) {i : Nat} (i1 : 1 ≤ i) (i2 : i < 9) {v : Int32} (hl : vL' E i ≤ 100000) : dc_wp (hm_JA_fill G S (some (vB E i)) v) (fun S' => RV G E S' (fX q i (fun p => if p < vL' E i then v else q.1 i p))) := by
  have ti : (0 : Nat) = if i = 9 ∨ i = 11 then 2 else 0 := by rw [if_neg (by omega)]
  delta hm_JA_fill
  refine rv_ln h i1 (by omega) ti ?_
  delta hm_JA_fill_L5
  have tl : (Int32.ofNat (vL' E i)).toInt = (vL' E i : Int) := Int32.toInt_ofNat_of_lt (by omega)
  have key := dc_itK (step := hm_JA_fill_s5 G (some (vB E i)) v (Int32.ofNat (vL' E i))) (fun d (y : hg_S × Int32) => ∃ j, y.2 = Int32.ofNat j ∧ j ≤ vL' E i ∧ d = vL' E i - j ∧ RV G E y.1 (fX q i (fun p => if p < j then v else q.1 i p))) (F := fun S' => RV G E S' (fX q i (fun p => if p < vL' E i then v else q.1 i p))) (by
    rintro d ⟨Y, y⟩ ⟨j, ev, j1, ed, g⟩
    have ev' : y = Int32.ofNat j := ev
    have g' : RV G E Y (fX q i (fun p => if p < j then v else q.1 i p)) := g
    have tj : (Int32.ofNat j).toInt = (j : Int) := Int32.toInt_ofNat_of_lt (by omega)
    have tjn : (Int32.ofNat j).toInt.toNat = j := by omega
    show dc_wp (hm_JA_fill_b5 G Y (some (vB E i)) v y (Int32.ofNat (vL' E i))) _
    rw [ev']
    delta hm_JA_fill_b5
    refine wq_if (fun c => ?_) (fun c => ?_)
    · have c := i_lt.mp c
      rw [tj, tl] at c
      refine rv_s g' i1 (by omega) ti (by omega) (by omega) (fun S1 g1 => ?_)
      refine ⟨_, rfl, vL' E i - (j + 1), by omega, j + 1, ad_m (by omega), by omega, rfl, ?_⟩
      show RV G E S1 _
      rw [tjn, uX_fX] at g1
      have e : upd (fun p => if p < j then v else q.1 i p) j v = (fun p => if p < j + 1 then v else q.1 i p) := by
        funext p
        by_cases ep : p = j
        · subst ep
          rw [upd_s, if_pos (by omega)]
        · rw [upd_n ep]
          by_cases c1 : p < j
          · rw [if_pos c1, if_pos (by omega)]
          · rw [if_neg c1, if_neg (by omega)]
      rw [e] at g1
      exact g1
    · have c : ¬ (Int32.ofNat j).toInt < (Int32.ofNat (vL' E i)).toInt := fun z => c (i_lt.mpr z)
      rw [tj, tl] at c
      have ej : j = vL' E i := by omega
      rw [ej] at g'
      exact ⟨_, rfl, g'⟩)
  refine wq_call (key (vL' E i) (S, 0) ⟨0, rfl, Nat.zero_le _, rfl, ?_⟩) ?_
  · show RV G E S _
    rw [fX_id]
    · exact h
    · funext p
      rw [if_neg (by omega)]
  · intro S' g
    delta hm_JA_fill_L20
    exact ⟨_, rfl, g⟩
/-- a bit of the inputs -/
def inB (x : Int32) (j : Nat) : Int32 := ((Int32.toUInt32 x >>> (Int32.toUInt32 (Int32.ofNat j) &&& Int32.toUInt32 31)).toInt32) &&& 1
/-- what prepare leaves -/
def prO' (ins pls pa : Nat) (hf : Nat → Int32) (x : Int32) (q q' : rsT) : Prop := (∀ i, ¬ (i = 1 ∨ i = 2 ∨ i = 10) → q'.1 i = q.1 i) ∧ q'.2 = q.2 ∧ (∀ p, q'.1 1 p = if p < ins then inB x p else if p < pls then 2 else q.1 1 p) ∧ (∀ p, p < pls → q'.1 2 p = 0) ∧ (∀ p, p ≤ pa → q'.1 10 p = Int32.ofNat (cntH hf p))
theorem prep_w (h : RV G E S q) (l1 : vL' E 1 = pls) (l2 : vL' E 2 = pls) (l10 : vL' E 10 = pa + 1) (hpa : pa ≤ 200) (hpl : pls ≤ 100000) (hin : ins ≤ pls ∧ ins ≤ 31) (e1 : vC E 1 = Int32.ofNat ins) (hh : ∀ S q, RV G E S q → hg_at S.1 hA = some (.inl (G.1 2, pa, .inl hf))) (h0 : q.1 10 0 = 0) {x : Int32} : dc_wp (hm_RE_prepare G S (vO E) x (some hA)) (fun S' => ∃ q', RV G E S' q' ∧ prO' ins pls pa hf x q q') := by
  delta hm_RE_prepare
  refine rv_g h (by decide) (by decide) ?_
  refine wq_call (fl_w h (i := 1) (by decide) (by decide) (by omega)) (fun S1 g1 => ?_)
  refine rv_g g1 (by decide) (by decide) ?_
  refine wq_call (fl_w g1 (i := 2) (by decide) (by decide) (by omega)) (fun S2 g2 => ?_)
  rw [l1, l2] at g2
  have a1 : ∀ i, ¬ (i = 1 ∨ i = 2) → (fX (fX q 1 (fun p => if p < pls then 2 else q.1 1 p)) 2 (fun p => if p < pls then 0 else (fX q 1 (fun p => if p < pls then 2 else q.1 1 p)).1 2 p)).1 i = q.1 i := fun i hi => by rw [fX_n (by omega), fX_n (by omega)]
  have a2 : (fX (fX q 1 (fun p => if p < pls then 2 else q.1 1 p)) 2 (fun p => if p < pls then 0 else (fX q 1 (fun p => if p < pls then 2 else q.1 1 p)).1 2 p)).1 1 = fun p => if p < pls then 2 else q.1 1 p := by rw [fX_n (by decide), fX_s]
  have a3 : ∀ p, p < pls → (fX (fX q 1 (fun p => if p < pls then 2 else q.1 1 p)) 2 (fun p => if p < pls then 0 else (fX q 1 (fun p => if p < pls then 2 else q.1 1 p)).1 2 p)).1 2 p = 0 := fun p hp => by rw [fX_s, if_pos hp]
  have a4 : (fX (fX q 1 (fun p => if p < pls then 2 else q.1 1 p)) 2 (fun p => if p < pls then 0 else (fX q 1 (fun p => if p < pls then 2 else q.1 1 p)).1 2 p)).2 = q.2 := rfl
  generalize fX (fX q 1 (fun p => if p < pls then 2 else q.1 1 p)) 2 (fun p => if p < pls then 0 else (fX q 1 (fun p => if p < pls then 2 else q.1 1 p)).1 2 p) = q2 at g2 a1 a2 a3 a4
  delta hm_RE_prepare_L18
  have tin : (Int32.ofNat ins).toInt = (ins : Int) := Int32.toInt_ofNat_of_lt (by omega)
  have key := dc_itK (step := hm_RE_prepare_s18 G (vO E) x (some hA)) (fun d (y : hg_S × Int32) => ∃ j, y.2 = Int32.ofNat j ∧ j ≤ ins ∧ d = ins - j ∧ RV G E y.1 (fX q2 1 (fun p => if p < j then inB x p else q2.1 1 p))) (F := fun S' => RV G E S' (fX q2 1 (fun p => if p < ins then inB x p else q2.1 1 p))) (by
    rintro d ⟨Y, y⟩ ⟨j, ev, j1, ed, g⟩
    have ev' : y = Int32.ofNat j := ev
    have g' : RV G E Y (fX q2 1 (fun p => if p < j then inB x p else q2.1 1 p)) := g
    have tj : (Int32.ofNat j).toInt = (j : Int) := Int32.toInt_ofNat_of_lt (by omega)
    have tjn : (Int32.ofNat j).toInt.toNat = j := by omega
    show dc_wp (hm_RE_prepare_b18 G Y (vO E) x (some hA) y) _
    rw [ev']
    delta hm_RE_prepare_b18
    refine rv_p g' ?_
    refine rv_n g' (j := 1) (by decide) (by decide) ?_
    rw [e1]
    refine wq_if (fun c => ?_) (fun c => ?_)
    · have c := i_lt.mp c
      rw [tj, tin] at c
      refine rv_g g' (by decide) (by decide) ?_
      refine rv_s g' (by decide) (by decide) rfl (by omega) (by omega) (fun S1 g1 => ?_)
      refine ⟨_, rfl, ins - (j + 1), by omega, j + 1, ad_m (by omega), by omega, rfl, ?_⟩
      show RV G E S1 _
      rw [tjn, uX_fX] at g1
      have e : upd (fun p => if p < j then inB x p else q2.1 1 p) j (((Int32.toUInt32 x >>> (Int32.toUInt32 (Int32.ofNat j) &&& Int32.toUInt32 31)).toInt32) &&& 1) = (fun p => if p < j + 1 then inB x p else q2.1 1 p) := by
        funext p
        by_cases ep : p = j
        · subst ep
          rw [upd_s, if_pos (by omega)]
          rfl
        · rw [upd_n ep]
          by_cases c1 : p < j
          · rw [if_pos c1, if_pos (by omega)]
          · rw [if_neg c1, if_neg (by omega)]
      rw [e] at g1
      exact g1
    · have c : ¬ (Int32.ofNat j).toInt < (Int32.ofNat ins).toInt := fun z => c (i_lt.mpr z)
      rw [tj, tin] at c
      have ej : j = ins := by omega
      rw [ej] at g'
      exact ⟨_, rfl, g'⟩)
  refine wq_call (key ins (S2, 0) ⟨0, rfl, Nat.zero_le _, rfl, ?_⟩) ?_
  · show RV G E S2 _
    rw [fX_id]
    · exact g2
    · funext p
      rw [if_neg (by omega)]
  · intro S3 g3
    have b1 : ∀ i, ¬ (i = 1 ∨ i = 2) → (fX q2 1 (fun p => if p < ins then inB x p else q2.1 1 p)).1 i = q.1 i := fun i hi => by rw [fX_n (by omega)]; exact a1 i hi
    have b2 : ∀ p, (fX q2 1 (fun p => if p < ins then inB x p else q2.1 1 p)).1 1 p = if p < ins then inB x p else if p < pls then 2 else q.1 1 p := fun p => by rw [fX_s, a2]
    have b3 : ∀ p, p < pls → (fX q2 1 (fun p => if p < ins then inB x p else q2.1 1 p)).1 2 p = 0 := fun p hp => by rw [fX_n (by decide)]; exact a3 p hp
    have b4 : (fX q2 1 (fun p => if p < ins then inB x p else q2.1 1 p)).2 = q.2 := a4
    generalize fX q2 1 (fun p => if p < ins then inB x p else q2.1 1 p) = q3 at g3 b1 b2 b3 b4
    delta hm_RE_prepare_L46 hm_RE_prepare_L48
    have tpa : (Int32.ofNat pa).toInt = (pa : Int) := Int32.toInt_ofNat_of_lt (by omega)
    have cle : ∀ j, cntH hf j ≤ j := by
      intro j
      induction j with
      | zero => exact Nat.le_refl _
      | succ j ih =>
        show cntH hf j + (if hf j = 0 then 0 else 1) ≤ j + 1
        split <;> omega
    have key2 := dc_itK (step := hm_RE_prepare_s48 G (vO E) (some hA)) (fun d (y : hg_S × Int32) => ∃ j, y.2 = Int32.ofNat j ∧ j ≤ pa ∧ d = pa - j ∧ ∃ f, RV G E y.1 (fX q3 10 f) ∧ ∀ p, p ≤ j → f p = Int32.ofNat (cntH hf p)) (F := fun S' => ∃ f, RV G E S' (fX q3 10 f) ∧ ∀ p, p ≤ pa → f p = Int32.ofNat (cntH hf p)) (by
      rintro d ⟨Y, y⟩ ⟨j, ev, j1, ed, f, g, hfp⟩
      have ev' : y = Int32.ofNat j := ev
      have g' : RV G E Y (fX q3 10 f) := g
      have tj : (Int32.ofNat j).toInt = (j : Int) := Int32.toInt_ofNat_of_lt (by omega)
      have tjn : (Int32.ofNat j).toInt.toNat = j := by omega
      have hat := hh Y _ g'
      show dc_wp (hm_RE_prepare_b48 G Y (vO E) (some hA) y) _
      rw [ev']
      delta hm_RE_prepare_b48
      refine wq_ln hat ?_
      refine wq_if (fun c => ?_) (fun c => ?_)
      · have c := i_lt.mp c
        rw [tj, tpa] at c
        have t1 : (Int32.ofNat j + 1).toInt = (j : Int) + 1 := by
          have : Int32.ofNat j + 1 = Int32.ofNat (j + 1) := ad_m (by omega)
          rw [this, Int32.toInt_ofNat_of_lt (by omega)]
          omega
        have t1n : (Int32.ofNat j + 1).toInt.toNat = j + 1 := by omega
        have last : ∀ v : Int32, v = (if hf j = 0 then 0 else 1) → dc_wp (hm_RE_prepare_L78 G Y (vO E) (some hA) (Int32.ofNat j) v (f j) (Int32.ofNat j + 1) (some (vB E 10))) (Sum.elim (fun y => ∃ k', k' < d ∧ ∃ j, y.2 = Int32.ofNat j ∧ j ≤ pa ∧ k' = pa - j ∧ ∃ f, RV G E y.1 (fX q3 10 f) ∧ ∀ p, p ≤ j → f p = Int32.ofNat (cntH hf p)) (fun S' => ∃ f, RV G E S' (fX q3 10 f) ∧ ∀ p, p ≤ pa → f p = Int32.ofNat (cntH hf p))) := by
          intro v ev
          delta hm_RE_prepare_L78
          refine rv_s g' (by decide) (by decide) rfl (by omega) (by rw [l10]; omega) (fun S1 g1 => ?_)
          rw [t1n, uX_fX] at g1
          refine ⟨_, rfl, pa - (j + 1), by omega, j + 1, ad_m (by omega), by omega, rfl, _, g1, fun p hp => ?_⟩
          by_cases ep : p = j + 1
          · have ca := cle j
            rw [ep, upd_s, hfp j (Nat.le_refl _), ev]
            show _ = Int32.ofNat (cntH hf j + (if hf j = 0 then 0 else 1))
            by_cases z : hf j = 0
            · rw [if_pos z, if_pos z, Int32.add_zero]; rfl
            · rw [if_neg z, if_neg z]
              exact ad_m (by omega)
          · rw [upd_n ep]
            exact hfp p (by omega)
        refine rv_g g' (by decide) (by decide) ?_
        refine rv_g g' (by decide) (by decide) ?_
        refine rv_l g' (by decide) (by decide) rfl (by omega) (by rw [l10]; omega) ?_
        rw [fX_s, tjn]
        refine wq_ld hat (by omega) (by omega) ?_
        rw [tjn]
        refine wq_if (fun c2 => ?_) (fun c2 => ?_)
        · exact last 0 (by rw [if_pos c2])
        · exact last 1 (by rw [if_neg c2])
      · have c : ¬ (Int32.ofNat j).toInt < (Int32.ofNat pa).toInt := fun z => c (i_lt.mpr z)
        rw [tj, tpa] at c
        have ej : j = pa := by omega
        rw [ej] at hfp
        exact ⟨_, rfl, f, g', hfp⟩)
    refine wq_call (key2 pa (S3, 0) ⟨0, rfl, Nat.zero_le _, rfl, q3.1 10, ?_, fun p hp => ?_⟩) ?_
    · show RV G E S3 _
      rw [fX_id rfl]
      exact g3
    · have ep : p = 0 := by omega
      rw [ep, b1 10 (by decide), h0]
      rfl
    · rintro S4 ⟨f, g4, hf4⟩
      delta hm_RE_prepare_L86
      refine ⟨_, rfl, _, g4, fun i hi => by rw [fX_n (by omega)]; exact b1 i (by omega), b4, fun p => by rw [fX_n (by decide)]; exact b2 p, fun p hp => by rw [fX_n (by decide)]; exact b3 p hp, fun p hp => by rw [fX_s]; exact hf4 p hp⟩
end PRP
