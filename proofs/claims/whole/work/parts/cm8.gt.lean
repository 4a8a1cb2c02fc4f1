/-! the class's goThrough and closeOutputs -/
theorem rvs_w : ∀ (T : tT) (w : Int), (rvs T : Int) + w * (tsz T : Int) ≤ wsm T w + (tsz T : Int)
  | .const _, w => by
    show ((1 : Nat) : Int) + w * ((1 : Nat) : Int) ≤ w + ((1 : Nat) : Int)
    omega
  | .unary x A, w => by
    have h := rvs_w A (w + if (lT x).1 = 6 then 1 else 0)
    show ((1 + rvs A + if (lT x).1 = 6 then tsz A else 0 : Nat) : Int) + w * ((1 + tsz A : Nat) : Int) ≤ w + wsm A (w + if (lT x).1 = 6 then 1 else 0) + ((1 + tsz A : Nat) : Int)
    by_cases z : (lT x).1 = 6
    · rw [if_pos z] at h ⊢
      rw [if_pos z]
      rw [Int.add_mul] at h
      rw [Int.natCast_add 1 (tsz A), Int.mul_add]
      omega
    · rw [if_neg z] at h ⊢
      rw [if_neg z]
      rw [Int.add_zero] at h ⊢
      rw [Int.natCast_add 1 (tsz A), Int.mul_add]
      omega
  | .binary x A B, w => by
    have h := rvs_w A (w + if (lT x).1 = 6 then 1 else 0)
    have g := rvs_w B (w + if (lT x).1 = 5 then 1 else 0)
    show ((1 + rvs A + rvs B + if (lT x).1 = 5 then tsz B else 0 : Nat) : Int) + w * ((1 + tsz A + tsz B : Nat) : Int) ≤ w + (wsm A (w + if (lT x).1 = 6 then 1 else 0) + wsm B (w + if (lT x).1 = 5 then 1 else 0)) + ((1 + tsz A + tsz B : Nat) : Int)
    have e : w * ((1 + tsz A + tsz B : Nat) : Int) = w * 1 + w * (tsz A : Int) + w * (tsz B : Int) := by
      rw [Int.natCast_add, Int.natCast_add, Int.mul_add, Int.mul_add]
      rfl
    rw [e]
    have h' : (rvs A : Int) + w * (tsz A : Int) ≤ wsm A (w + if (lT x).1 = 6 then 1 else 0) + (tsz A : Int) := by
      by_cases z : (lT x).1 = 6
      · rw [if_pos z] at h ⊢
        rw [Int.add_mul] at h
        omega
      · rw [if_neg z] at h ⊢
        rw [Int.add_zero] at h ⊢
        exact h
    by_cases z : (lT x).1 = 5
    · rw [if_pos z] at g ⊢
      rw [if_pos z]
      rw [Int.add_mul] at g
      omega
    · rw [if_neg z] at g ⊢
      rw [if_neg z]
      rw [Int.add_zero] at g ⊢
      omega
  | .nodeWithAntiquot .., w => by show ((1 : Nat) : Int) + w * ((1 : Nat) : Int) ≤ w + ((1 : Nat) : Int); omega
  | .node .., w => by show ((1 : Nat) : Int) + w * ((1 : Nat) : Int) ≤ w + ((1 : Nat) : Int); omega
  | .trailingNode .., w => by show ((1 : Nat) : Int) + w * ((1 : Nat) : Int) ≤ w + ((1 : Nat) : Int); omega
  | .symbol .., w => by show ((1 : Nat) : Int) + w * ((1 : Nat) : Int) ≤ w + ((1 : Nat) : Int); omega
  | .nonReservedSymbol .., w => by show ((1 : Nat) : Int) + w * ((1 : Nat) : Int) ≤ w + ((1 : Nat) : Int); omega
  | .cat .., w => by show ((1 : Nat) : Int) + w * ((1 : Nat) : Int) ≤ w + ((1 : Nat) : Int); omega
  | .parser .., w => by show ((1 : Nat) : Int) + w * ((1 : Nat) : Int) ≤ w + ((1 : Nat) : Int); omega
  | .sepBy .., w => by show ((1 : Nat) : Int) + w * ((1 : Nat) : Int) ≤ w + ((1 : Nat) : Int); omega
  | .sepBy1 .., w => by show ((1 : Nat) : Int) + w * ((1 : Nat) : Int) ≤ w + ((1 : Nat) : Int); omega
  | .unicodeSymbol .., w => by show ((1 : Nat) : Int) + w * ((1 : Nat) : Int) ≤ w + ((1 : Nat) : Int); omega
theorem tsz_rvs : ∀ T : tT, tsz T ≤ rvs T
  | .const _ => Nat.le_refl _
  | .unary x A => by
    have := tsz_rvs A
    show 1 + tsz A ≤ 1 + rvs A + if (lT x).1 = 6 then tsz A else 0
    omega
  | .binary x A B => by
    have := tsz_rvs A
    have := tsz_rvs B
    show 1 + tsz A + tsz B ≤ 1 + rvs A + rvs B + if (lT x).1 = 5 then tsz B else 0
    omega
  | .nodeWithAntiquot .. => Nat.le_refl _
  | .node .. => Nat.le_refl _
  | .trailingNode .. => Nat.le_refl _
  | .symbol .. => Nat.le_refl _
  | .nonReservedSymbol .. => Nat.le_refl _
  | .cat .. => Nat.le_refl _
  | .parser .. => Nat.le_refl _
  | .sepBy .. => Nat.le_refl _
  | .sepBy1 .. => Nat.le_refl _
  | .unicodeSymbol .. => Nat.le_refl _
/-- before a round goes down the tree -/
def reGt (E : rvP) (q : rsT) (y : Int32) : rsT := uX (uC (uC (uC (reCl E q 0) 15 y) 16 (-1)) 17 0) 9 0 1
def mdY (md : Option Nat) (p y : Int32) : Prop := match md with | none => ¬ p = 0 ∧ y = 0 | some d => p = 0 ∧ y = 1 ∧ d = 0
section GTW
variable {G : hg_E} {E : rvP} {M : md_S} {P : gvP} {D : Option Nat → Prop} {names : Int32} {kk ff ss xx : Nat → Int32} {m n ps sg pa pls N : Nat} {T : tT} {V : Int32 → Prop} {up : Int32} {t : Int32} {a c : Int} {Es : List (Int32 × Int32)} {S : hg_S} {q : rsT} {ins io : Nat}
theorem gth_w (W : pcW names kk ff ss xx m) (hgO : ∀ i, v3 (gO P i)) (hm : m ≤ 1000) (hS : gSt M E P D n ps sg pa pls N) (hT : gTr M kk ff xx m n ps sg pa T V 0 up 1 t a c Es) (hN : wsm T 1 * 4 ≤ (N : Int)) {ρ : Nat → Nat} {md : Option Nat} {p y : Int32} (hy : mdY md p y) (hI : gIv P q) (hV : ∀ y, V y → gA P (ρ y.toInt.toNat) ∧ q.1 4 y.toInt.toNat = Int32.ofNat (gPl P (ρ y.toInt.toNat)) ∧ ¬ INq M.2.1 0 (tsz T) md 1 (ρ y.toInt.toNat)) (hem : ∀ i, INq M.2.1 0 (tsz T) md 1 i → ¬ emS P q i) (hD : D md) (hh : md = none → hsC M.2.1 (gC P) 0) (hR : RV G E S q) : dc_wp (hm_RE_goThrough G S (vO E) p) (fun S' => ∃ q', RV G E S' q' ∧ gPost M P pls T 0 1 ρ md True (reGt E q y) q') := by
  have z1 := tsz_pos T
  have n0 : 0 < n := by have := hT.2.1; omega
  obtain ⟨hx, tk, -⟩ := gRow hS n0
  obtain ⟨e8, e9, p1, p2⟩ := gPs hm hS hT
  have hpa := hS.2.1.2.2.2.1
  have l11 := hS.2.2.2.1.2.2.2
  have t0 : (0 : Int32).toInt.toNat = 0 := by decide
  have x0 : rvN E 0 := hx
  have key : ∀ y : Int32, y = 0 ∨ y = 1 → mdY md p y → ∀ S1, RV G E S1 (reCl E q 0) → dc_wp (hm_RE_goThrough_L15 G S1 (vO E) y) (fun S' => ∃ q', RV G E S' q' ∧ gPost M P pls T 0 1 ρ md True (reGt E q y) q') := by
    intro y y01 hy S1 g1
    delta hm_RE_goThrough_L15
    refine zb_s y01 ?_
    refine rv_f g1 (by decide) (by decide) (fun S2 g2 => ?_)
    refine rv_f g2 (by decide) (by decide) (fun S3 g3 => ?_)
    refine rv_f g3 (by decide) (by decide) (fun S4 g4 => ?_)
    refine rv_c g4 ?_
    refine wq_call (wi_w g4 x0.1 (x0.2.2 9 (by decide) (by decide)) (Or.inr rfl)) ?_
    rintro ⟨S5, v5⟩ ⟨e5, g5⟩
    have e5' : v5 = 0 := e5
    have g5' : RV G E S5 (reGt E q y) := g5
    delta hm_RE_goThrough_L40
    show dc_wp ((dc_it (gtS G E) (S5, 0, v5, 0)).bind _) _
    rw [e5']
    have q15 : (reGt E q y).2 15 = y := by
      show (uC (uC (uC (reCl E q 0) 15 y) 16 (-1)) 17 0).2 15 = y
      rw [uC_n (by decide), uC_n (by decide), uC_s]
    have q16 : (reGt E q y).2 16 = -1 := by
      show (uC (uC (uC (reCl E q 0) 15 y) 16 (-1)) 17 0).2 16 = -1
      rw [uC_n (by decide), uC_s]
    have q17 : (reGt E q y).2 17 = 0 := by
      show (uC (uC (uC (reCl E q 0) 15 y) 16 (-1)) 17 0).2 17 = 0
      rw [uC_s]
    have qo : ∀ i, ¬ i = 15 → ¬ i = 16 → ¬ i = 17 → (reGt E q y).2 i = q.2 i := by
      intro i h1 h2 h3
      show (uC (uC (uC (reCl E q 0) 15 y) 16 (-1)) 17 0).2 i = q.2 i
      rw [uC_n h3, uC_n h2, uC_n h1]
      rfl
    have qa : ∀ i, ¬ i = 9 → ¬ i = 11 → (reGt E q y).1 i = q.1 i := by
      intro i h1 h2
      unfold reGt
      rw [uX_n h1]
      show (reCl E q 0).1 i = _
      exact fX_n h2
    have q9 : (reGt E q y).1 9 0 = 1 := u9_9
    have pre : gPre M P D T V 0 (1 : Int).toNat ρ md True (reGt E q y) := by
      refine ⟨⟨by rw [qa 3 (by decide) (by decide)]; exact hI.1, by rw [qa 10 (by decide) (by decide)]; exact hI.2.1, by rw [qa 1 (by decide) (by decide)]; exact hI.2.2.1, by rw [qo 14 (by decide) (by decide) (by decide)]; exact hI.2.2.2⟩, Or.inl ⟨trivial, q9⟩, fun y hy => by rw [qa 4 (by decide) (by decide)]; exact hV y hy, ?_, fun j j1 j2 => by rw [q16]; exact fun e => nk_1 (by have := hT.2.1; have := hS.2.1.1; omega) e.symm, fun i hi => ?_, hD, hh⟩
      · cases md with
        | none => exact ⟨by rw [q15]; exact hy.2, q16, q17⟩
        | some d =>
          obtain ⟨a1, a2, a3⟩ : p = 0 ∧ y = 1 ∧ d = 0 := hy
          subst a3
          exact ⟨by rw [q15, a2]; decide, q17, by show 0 < 1; omega⟩
      · have e : emS P (reGt E q y) i = emS P q i := by
          unfold emS
          rw [qa 2 (by decide) (by decide), qo 12 (by decide) (by decide) (by decide)]
        rw [e]
        exact hem i hi
    have hc : 0 + cst T md ≤ N := by
      have h1 := rvs_w T 1
      have h2 := tsz_rvs T
      cases md with
      | none => show 0 + 2 * rvs T ≤ N; omega
      | some d => show 0 + 2 * tsz T ≤ N; omega
    refine wq_call (P := fun z => match z with | .inl S' => ∃ q', RV G E S' q' ∧ gPost M P pls T 0 1 ρ md True (reGt E q y) q' | .inr _ => False) ?_ ?_
    · refine go_T W hgO hm hS T V 0 up 1 t a c Es hT ρ md True S5 (reGt E q y) 0 0 _ g5' pre hc ?_
      intro S6 q6 st6 g6 pst hst6
      have hlt : st6 < N := by
        have : st6 + 1 ≤ 0 + cst T md := hst6
        omega
      refine gt_en g6 (gtN hS) hlt rfl rfl ⟨q6, g6, pst⟩
    · intro z hz
      cases z with
      | inl S' =>
        show dc_wp (hm_RE_goThrough_L89 G S' (vO E)) _
        delta hm_RE_goThrough_L89
        exact ⟨_, rfl, hz⟩
      | inr S' => exact hz.elim
  delta hm_RE_goThrough
  refine rv_c hR ?_
  have cl := cl_w hR x0 (f := pfQ M.2.1 0) (t := ptQ M.2.1 0) (by rw [t0]; exact e8) (by rw [t0]; exact e9) p1 (by rw [l11]; exact p2) (by omega)
  rw [t0] at cl
  refine wq_call cl (fun S1 g1 => ?_)
  cases md with
  | none =>
    obtain ⟨a1, a2⟩ : ¬ p = 0 ∧ y = 0 := hy
    rw [if_neg a1]
    subst a2
    exact key 0 (Or.inl rfl) ⟨a1, rfl⟩ S1 g1
  | some d =>
    obtain ⟨a1, a2, a3⟩ : p = 0 ∧ y = 1 ∧ d = 0 := hy
    rw [if_pos a1]
    subst a2
    exact key 1 (Or.inr rfl) ⟨a1, rfl, a3⟩ S1 g1
/-- what closeOutputs leaves -/
def coO (ins io pls : Nat) (q q' : rsT) : Prop := (∀ i, ¬ i = 1 → q'.1 i = q.1 i) ∧ (∀ i, ¬ i = 13 → q'.2 i = q.2 i) ∧ (∀ p, q'.1 1 p = if (ins ≤ p ∧ p < io) ∧ q.1 1 p = 2 ∧ ¬ q.1 2 p = q.2 12 then 0 else q.1 1 p) ∧ gK0 pls q q'
theorem coO_0 {j : Nat} : coO j j pls q q := ⟨fun _ _ => rfl, fun _ _ => rfl, fun p => by rw [if_neg (by omega)], fun p => Or.inr rfl, Or.inl ⟨rfl, rfl⟩⟩
theorem coO_s {j : Nat} {q1 : rsT} (hj : ins ≤ j) (hp : j < pls) (h : coO ins j pls q q1) : coO ins (j + 1) pls q (reSe q1 j) := by
  obtain ⟨h1, h2, h3, h4⟩ := h
  refine ⟨fun i hi => by rw [reSe_n hi]; exact h1 i hi, fun i hi => by rw [reSe_c hi]; exact h2 i hi, fun p => ?_, gK0_tr h4 (reSe_k hp)⟩
  rw [reSe_1, h1 2 (by decide), h2 12 (by decide), h3]
  by_cases e : p = j
  · subst e
    have n1 : ¬ ((ins ≤ p ∧ p < p) ∧ q.1 1 p = 2 ∧ ¬ q.1 2 p = q.2 12) := by omega
    rw [if_neg n1]
    by_cases z : q.1 1 p = 2 ∧ ¬ q.1 2 p = q.2 12
    · rw [if_pos ⟨rfl, z⟩, if_pos ⟨⟨hj, by omega⟩, z⟩]
    · rw [if_neg (fun u => z u.2), if_neg (fun u => z u.2)]
  · rw [if_neg (fun u => e u.1)]
    by_cases z : (ins ≤ p ∧ p < j) ∧ q.1 1 p = 2 ∧ ¬ q.1 2 p = q.2 12
    · rw [if_pos z, if_pos ⟨⟨z.1.1, by omega⟩, z.2⟩]
    · rw [if_neg z, if_neg (fun u => z ⟨⟨u.1.1, by omega⟩, u.2⟩)]
theorem cou_w (e1 : vC E 1 = Int32.ofNat ins) (e2 : vC E 1 + vC E 2 = Int32.ofNat io) (hio : ins ≤ io ∧ io ≤ pls ∧ io ≤ 1000) (l1 : vL' E 1 = pls) (l2 : vL' E 2 = pls) (hR : RV G E S q) : dc_wp (hm_RE_closeOutputs G S (vO E)) (fun S' => ∃ q', RV G E S' q' ∧ coO ins io pls q q') := by
  delta hm_RE_closeOutputs
  refine rv_p hR ?_
  refine rv_n hR (j := 1) (by decide) (by decide) ?_
  delta hm_RE_closeOutputs_L8
  have tio : (Int32.ofNat io).toInt = (io : Int) := Int32.toInt_ofNat_of_lt (by omega)
  have key := dc_itK (step := hm_RE_closeOutputs_s8 G (vO E)) (fun d (y : hg_S × Int32) => ∃ j, y.2 = Int32.ofNat j ∧ ins ≤ j ∧ j ≤ io ∧ d = io - j ∧ ∃ q1, RV G E y.1 q1 ∧ coO ins j pls q q1) (F := fun S' => ∃ q', RV G E S' q' ∧ coO ins io pls q q') (by
    rintro d ⟨Y, v⟩ ⟨j, ev, j1, j2, ed, q1, g, h⟩
    have ev' : v = Int32.ofNat j := ev
    have g' : RV G E Y q1 := g
    have tj : (Int32.ofNat j).toInt = (j : Int) := Int32.toInt_ofNat_of_lt (by omega)
    have tjn : (Int32.ofNat j).toInt.toNat = j := by omega
    show dc_wp (hm_RE_closeOutputs_b8 G Y (vO E) v) _
    rw [ev']
    delta hm_RE_closeOutputs_b8
    refine rv_p g' ?_
    refine rv_n g' (j := 1) (by decide) (by decide) ?_
    refine rv_p g' ?_
    refine rv_n g' (j := 2) (by decide) (by decide) ?_
    rw [e2]
    refine wq_if (fun c => ?_) (fun c => ?_)
    · have c := i_lt.mp c
      rw [tj, tio] at c
      refine rv_c g' ?_
      refine wq_call (se_w g' (by omega) (by rw [l1, l2]; omega)) (fun S2 g2 => ?_)
      rw [tjn] at g2
      exact ⟨_, rfl, io - (j + 1), by omega, j + 1, ad_m (by omega), by omega, by omega, rfl, _, g2, coO_s j1 (by omega) h⟩
    · have c : ¬ (Int32.ofNat j).toInt < (Int32.ofNat io).toInt := fun z => c (i_lt.mpr z)
      rw [tj, tio] at c
      have : j = io := by omega
      subst this
      exact ⟨_, rfl, q1, g', h⟩)
  refine wq_call (key (io - ins) (S, vC E 1) ⟨ins, e1, Nat.le_refl _, hio.1, rfl, q, hR, coO_0⟩) ?_
  intro S' h
  delta hm_RE_closeOutputs_L38
  exact ⟨_, rfl, h⟩
theorem oka_w (e1 : vC E 1 = Int32.ofNat ins) (e2 : vC E 1 + vC E 2 = Int32.ofNat io) (hio : ins ≤ io ∧ io ≤ pls ∧ io ≤ 1000) (l1 : vL' E 1 = pls) (hR : RV G E S q) : dc_wp (hm_RE_outputsAreKnown G S (vO E)) (fun r => (r = 0 ∧ ∃ p, ins ≤ p ∧ p < io ∧ q.1 1 p = 2) ∨ (r = 1 ∧ ∀ p, ins ≤ p → p < io → ¬ q.1 1 p = 2)) := by
  delta hm_RE_outputsAreKnown
  refine rv_p hR ?_
  refine rv_n hR (j := 1) (by decide) (by decide) ?_
  delta hm_RE_outputsAreKnown_L8
  have tio : (Int32.ofNat io).toInt = (io : Int) := Int32.toInt_ofNat_of_lt (by omega)
  have key := dc_itK (step := hm_RE_outputsAreKnown_s8 G S (vO E)) (fun d (y : Int32) => ∃ j, y = Int32.ofNat j ∧ ins ≤ j ∧ j ≤ io ∧ d = io - j ∧ ∀ p, ins ≤ p → p < j → ¬ q.1 1 p = 2) (F := fun z => match z with | .inl _ => ∃ p, ins ≤ p ∧ p < io ∧ q.1 1 p = 2 | .inr _ => ∀ p, ins ≤ p → p < io → ¬ q.1 1 p = 2) (by
    rintro d v ⟨j, ev, j1, j2, ed, h⟩
    have tj : (Int32.ofNat j).toInt = (j : Int) := Int32.toInt_ofNat_of_lt (by omega)
    have tjn : (Int32.ofNat j).toInt.toNat = j := by omega
    show dc_wp (hm_RE_outputsAreKnown_b8 G S (vO E) v) _
    rw [ev]
    delta hm_RE_outputsAreKnown_b8
    refine rv_p hR ?_
    refine rv_n hR (j := 1) (by decide) (by decide) ?_
    refine rv_p hR ?_
    refine rv_n hR (j := 2) (by decide) (by decide) ?_
    rw [e2]
    refine wq_if (fun c => ?_) (fun c => ?_)
    · have c := i_lt.mp c
      rw [tj, tio] at c
      refine rv_g hR (by decide) (by decide) ?_
      refine rv_l hR (by decide) (by decide) rfl (by omega) (by rw [l1]; omega) ?_
      rw [tjn]
      refine wq_if (fun c2 => ?_) (fun c2 => ?_)
      · exact ⟨_, rfl, j, j1, by omega, c2⟩
      · refine ⟨_, rfl, io - (j + 1), by omega, j + 1, ad_m (by omega), by omega, by omega, rfl, fun p p1 p2 => ?_⟩
        by_cases e : p = j
        · rw [e]; exact c2
        · exact h p p1 (by omega)
    · have c : ¬ (Int32.ofNat j).toInt < (Int32.ofNat io).toInt := fun z => c (i_lt.mpr z)
      rw [tj, tio] at c
      have : j = io := by omega
      subst this
      exact ⟨_, rfl, h⟩)
  refine wq_call (key (io - ins) (vC E 1) ⟨ins, e1, Nat.le_refl _, hio.1, rfl, fun p p1 p2 => by omega⟩) ?_
  intro z h
  cases z with
  | inl u =>
    show dc_wp (hm_RE_outputsAreKnown_L37 G S (vO E)) _
    delta hm_RE_outputsAreKnown_L37
    exact ⟨_, rfl, Or.inl ⟨rfl, h⟩⟩
  | inr u =>
    show dc_wp (hm_RE_outputsAreKnown_L45 G S (vO E)) _
    delta hm_RE_outputsAreKnown_L45
    exact ⟨_, rfl, Or.inr ⟨rfl, h⟩⟩
end GTW
