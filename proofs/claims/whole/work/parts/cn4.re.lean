/-! THE CLASS'S REACT beside the reference's -/
section REB
variable {G : hg_E} {E : rvP} {M : md_S} {names : Int32} {kk ff ss xx : Nat → Int32} {m n ps sg pa : Nat} {T : tT} {S : hg_S} {q : rsT} {ins io inst hA : Nat} {hf F3 : Nat → Int32} {x1 p : Int32} {r : md_S × Int32}
/-- what stays of the class's reactor from instant to instant -/
def reP (F3 : Nat → Int32) (io : Nat) (q : rsT) : Prop := q.1 3 = F3 ∧ (∀ y, y < io → q.1 4 y = Int32.ofNat y) ∧ q.1 10 0 = 0 ∧ (∀ p, v3 (q.1 1 p)) ∧ (q.2 14 = 0 ∨ q.2 14 = 1) ∧ ∀ p, q.1 11 p = 0 ∨ q.1 11 p = 1
/-- the class's program beside the reference's -/
def reS (M : md_S) (E : rvP) (F3 : Nat → Int32) (n ps sg pa ins io inst : Nat) (T : tT) : Prop :=
  rEqF (vR E) M.2.1 n ps ∧ (vC E 1 = M.1 45 ∧ vC E 2 = M.1 46 ∧ vC E 4 = M.1 48 ∧ (M.1 48).toInt = wsm T 1 ∧ wsm T 1 ≤ 1200) ∧ (n ≤ 1200 ∧ ps ≤ 1000 ∧ sg ≤ 400 ∧ pa ≤ 200 ∧ ins ≤ 31) ∧ ((∀ i, i < 10 → vN E i = n) ∧ vN E 11 = ps ∧ vN E 12 = ps ∧ vN E 13 = ps ∧ vN E 14 = ps) ∧ ((vL' E 1 = plc (M.2.1 51) (M.2.1 57) io n ∧ vL' E 2 = plc (M.2.1 51) (M.2.1 57) io n ∧ vL' E 3 = sg ∧ vL' E 4 = sg ∧ vL' E 5 = ps) ∧ (∀ i, 6 ≤ i → i < 10 → vL' E i = n) ∧ vL' E 10 = pa + 1 ∧ vL' E 11 = pa) ∧ (∀ j, j < n → M.2.1 51 j = 10 → F3 (nuQ M.2.1 j) = Int32.ofNat (plc (M.2.1 51) (M.2.1 57) io j)) ∧ tsz T = n ∧ inst = lis (M.2.1 51) (M.2.1 57) n ∧ ∀ y, y ∈ lcT T → (io : Int) ≤ y.toInt
theorem cntH_cg {f g : Nat → Int32} {P : Nat} (h : ∀ p, p < P → (f p = 0 ↔ g p = 0)) : ∀ p, p ≤ P → cntH f p = cntH g p
  | 0, _ => rfl
  | p + 1, hp => by
    show cntH f p + (if f p = 0 then 0 else 1) = cntH g p + (if g p = 0 then 0 else 1)
    rw [cntH_cg h p (by omega)]
    have := h p (by omega)
    by_cases z : f p = 0
    · rw [if_pos z, if_pos (this.mp z)]
    · rw [if_neg z, if_neg (fun u => z (this.mpr u))]
theorem cntH_pos {f : Nat → Int32} {p : Nat} (h : ¬ f p = 0) : ∀ P, p < P → 1 ≤ cntH f P
  | 0, hp => absurd hp (by omega)
  | P + 1, hp => by
    show 1 ≤ cntH f P + (if f P = 0 then 0 else 1)
    by_cases e : p = P
    · subst e
      rw [if_neg h]; omega
    · have := cntH_pos h P (by omega)
      omega
/-- the statuses that no place has -/
noncomputable def sgO (M : md_S) (ins io inst : Nat) (x1 : Int32) (i : Nat) : Int32 := @ite _ (lnR ins io inst i) (Classical.propDecidable (lnR ins io inst i)) 2 (sg0 M ins inst x1 i)
theorem wt_1 (hT : gTr M kk ff xx m n ps sg pa T (fun y => 0 ≤ y.toInt ∧ y.toInt < (io : Int)) 0 (-1) 1 (-1) 0 0 []) (hn : tsz T = n) : ∀ j, j < n → 1 ≤ wtQ M.2.1 j := by
  intro j hj
  have := wt_ge T 0 (-1) 1 (-1) 0 0 hT.1.2.1 j (by omega) (by omega)
  unfold wtQ
  omega
theorem reG (hm : m ≤ 1000) (hT : gTr M kk ff xx m n ps sg pa T (fun y => 0 ≤ y.toInt ∧ y.toInt < (io : Int)) 0 (-1) 1 (-1) 0 0 []) (hs : reS M E F3 n ps sg pa ins io inst T) (hio : io ≤ 62) {C : Nat → Int32} (hC : ∀ p, p ≤ pa → C p = Int32.ofNat (cntH hf p)) (hfM : ∀ p, p < pa → (hf p = 0 ↔ M.2.1 74 p = 0)) {σ : Nat → Int32} : gSt M E (plI M.2.1 io n, gAI (M.1 77 = 0) M.2.1 io n, σ, C, seM M, F3) (DI (M.1 77 = 0)) n ps sg pa (plc (M.2.1 51) (M.2.1 57) io n) (4 * (wsm T 1).toNat) := by
  obtain ⟨h1, ⟨h2, h3, h4, h5, h6⟩, ⟨b1, b2, b3, b4, b5⟩, h7, h8, h9, h10, h11, h12⟩ := hs
  have w1 := wt_1 hT h10
  have w0 := wm_0 T 1 (by decide)
  have pl := plc_T (kd := M.2.1 51) (io := io) T _ 0 (-1) 1 (-1) 0 0 hT.1.1 (by decide) hT.1.2.1
  have pl0 : plc (M.2.1 51) (M.2.1 57) io 0 = io := rfl
  rw [Nat.zero_add, h10, pl0] at pl
  have cle : ∀ j, cntH hf j ≤ j := cntH_le
  refine ⟨⟨h1, (wsm T 1).toNat, ?_, rfl, by omega⟩, ⟨b1, b2, b3, b4, by omega⟩, h7, h8, ⟨fun i j hi hj e => plI_in w1 hio hi hj e, fun i hi => plI_lt w1 hio hi⟩, ⟨fun p p' hp hp' => ?_, fun p hp => ?_⟩, fun j hj j10 => ⟨fun hd => ?_, fun d hd hD => ?_⟩, fun hd d hd1 => ?_⟩
  · rw [h4]
    exact ofN_m (by omega) (by omega)
  · show (C p).toInt ≤ (C p').toInt
    have c1 := cle p
    have c2 := cle p'
    rw [hC p (by omega), hC p' hp', Int32.toInt_ofNat_of_lt (by omega), Int32.toInt_ofNat_of_lt (by omega)]
    have := cntH_m (f := hf) (p := p) (p' - p)
    rw [show p + (p' - p) = p' by omega] at this
    omega
  · show ¬ M.2.1 74 p = 0 ↔ (C p).toInt < (C (p + 1)).toInt
    have c1 := cle p
    have c2 := cle (p + 1)
    rw [hC p (by omega), hC (p + 1) (by omega), Int32.toInt_ofNat_of_lt (by omega), Int32.toInt_ofNat_of_lt (by omega), ← hfM p hp]
    have e : cntH hf (p + 1) = cntH hf p + (if hf p = 0 then 0 else 1) := rfl
    rw [e]
    by_cases z : hf p = 0
    · rw [if_pos z]; exact ⟨fun u => absurd z u, fun u => by omega⟩
    · rw [if_neg z]; exact ⟨fun _ => by omega, fun _ => z⟩
  · have hrs : M.1 77 = 0 := by
      rcases hd with ⟨u, -⟩ | ⟨-, u⟩
      · exact u
      · cases u
    refine ⟨Or.inr ⟨j, _, ⟨hj, j10, Nat.le_refl _⟩, rfl, Or.inl ⟨hrs, w1 j hj⟩⟩, ?_⟩
    show F3 (nuQ M.2.1 j) = Int32.ofNat (plI M.2.1 io n (lis (M.2.1 51) (M.2.1 57) j + wtQ M.2.1 j))
    rw [plI_l hj j10 (Nat.le_refl _), if_pos rfl, Nat.add_zero]
    exact h9 j hj j10
  · have hd' : (M.1 77 = 0 ∧ 1 ≤ d) ∨ (¬ M.1 77 = 0 ∧ d = 0) := by
      rcases hD with ⟨u, v | ⟨d', v, w⟩⟩ | ⟨u, v⟩
      · cases v
      · cases v; exact Or.inl ⟨u, w⟩
      · cases v; exact Or.inr ⟨u, rfl⟩
    refine ⟨Or.inr ⟨j, d, ⟨hj, j10, by omega⟩, rfl, hd'⟩, ?_⟩
    show F3 (nuQ M.2.1 j) + Int32.ofNat d = Int32.ofNat (plI M.2.1 io n (lis (M.2.1 51) (M.2.1 57) j + d))
    rw [plI_l hj j10 (by omega), if_neg (by omega), h9 j hj j10, Int32.ofNat_add]
  · rcases hd with ⟨u, -⟩ | ⟨-, u⟩
    · exact Or.inl ⟨u, Or.inr ⟨d, rfl, hd1⟩⟩
    · cases u
/-- what the class's react leaves, beside the reference's -/
def reO (M : md_S) (F3 : Nat → Int32) (ins io pa : Nat) (r : md_S × Int32) (q' : rsT) (z : Int32) : Prop :=
  reP F3 io q' ∧ ((z = 2 ∧ r.2 = -1) ∨ (z = 1 ∧ r.2 = 0) ∨ (z = 0 ∧ r.2 = 1)) ∧ (∀ i, i < io → q'.1 1 i = r.1.2.1 70 i) ∧ (¬ r.2 = -1 → (∀ i, ins ≤ i → i < io → ¬ r.1.2.1 70 i = 2) ∧ (∀ p, p < pa → (((¬ q'.1 11 p = 0) ↔ r.1.2.1 75 p = 1) ∧ (r.1.2.1 75 p = 0 ∨ r.1.2.1 75 p = 1)) ∧ (r.2 = 0 → q'.1 11 p = 0)) ∧ (r.2 = 1 → ∃ p, p < pa ∧ ¬ q'.1 11 p = 0))
theorem rea_w (W : pcW names kk ff ss xx m) (hm : m ≤ 1000) (hT : gTr M kk ff xx m n ps sg pa T (fun y => 0 ≤ y.toInt ∧ y.toInt < (io : Int)) 0 (-1) 1 (-1) 0 0 []) (hn : rxN M ins io inst pa T) (hs : reS M E F3 n ps sg pa ins io inst T) (h70 : ∀ i, v3 (M.2.1 70 i)) (hR : RV G E S q) (hq : reP F3 io q) (hh : ∀ S q, RV G E S q → hg_at S.1 hA = some (.inl (G.1 2, pa, .inl hf))) (hfM : ∀ p, p < pa → (hf p = 0 ↔ M.2.1 74 p = 0)) (hp : M.1 77 = 0 ↔ ¬ p = 0) (hres : M.1 77 = 0 → ∃ p, p < pa ∧ ¬ M.2.1 74 p = 0) (hr : rxO M r.1 ins io inst pa T x1 r.2) : dc_wp (hm_RE_react G S (vO E) x1 p (some hA)) (fun z => ∃ q', RV G E z.1 q' ∧ reO M F3 ins io pa r q' z.2) := by
  obtain ⟨⟨n45, nio, n50, n47⟩, ⟨i1, i2, i3, i4, i5⟩, npas, n77⟩ := hn
  have hs0 := hs
  obtain ⟨h1, ⟨h2, h3, h4, h5, h6⟩, ⟨b1, b2, b3, b4, b5⟩, h7, ⟨⟨l1, l2, l3, l4, l5⟩, l69, l10, l11⟩, h9, h10, h11, h12⟩ := hs
  obtain ⟨⟨rF, r3, r76⟩, rRI, rhe, rd1, rd2, rnx⟩ := hr
  have w1 := wt_1 hT h10
  have w0 := wm_0 T 1 (by decide)
  have pl := plc_T (kd := M.2.1 51) (io := io) T _ 0 (-1) 1 (-1) 0 0 hT.1.1 (by decide) hT.1.2.1
  have pl0 : plc (M.2.1 51) (M.2.1 57) io 0 = io := rfl
  rw [Nat.zero_add, h10, pl0] at pl
  have plge : io ≤ plc (M.2.1 51) (M.2.1 57) io n := plc_le (kd := M.2.1 51) (wt := M.2.1 57) (io := io) (Nat.zero_le n)
  have hgt0 := reG (C := fun p => Int32.ofNat (cntH hf p)) (σ := fun _ => 0) hm hT hs0 i2 (fun p _ => rfl) hfM
  delta hm_RE_react
  refine rv_c hR ?_
  refine wq_call (prep_w (x := x1) hR l1 l2 l10 b4 (by omega) ⟨by omega, b5⟩ (h2.trans n45) hh hq.2.2.1) ?_
  rintro S1 ⟨q1, g1, o1, o2, o3, o4, o5⟩
  refine rv_f g1 (by decide) (by decide) (fun S2 g2 => ?_)
  refine rv_f g2 (by decide) (by decide) (fun S3 g3 => ?_)
  -- the setting
  obtain ⟨P, hP⟩ : ∃ P : gvP, P = (plI M.2.1 io n, gAI (M.1 77 = 0) M.2.1 io n, sgO M ins io inst x1, q1.1 10, seM M, F3) := ⟨_, rfl⟩
  have hS : gSt M E P (DI (M.1 77 = 0)) n ps sg pa (plc (M.2.1 51) (M.2.1 57) io n) (4 * (wsm T 1).toNat) := by
    rw [hP]
    exact reG hm hT hs0 i2 (fun p hp => o5 p hp) hfM
  have pA : ∀ i, gA P i ↔ gAI (M.1 77 = 0) M.2.1 io n i := fun i => by rw [hP]
  have pPl : ∀ i, gPl P i = plI M.2.1 io n i := fun i => by rw [hP]
  have pO : ∀ i, gO P i = sgO M ins io inst x1 i := fun i => by rw [hP]
  have pC : gC P = q1.1 10 := by rw [hP]
  have pSe : gSe P = seM M := by rw [hP]
  have pF : gF3 P = F3 := by rw [hP]
  have sgv : ∀ i, v3 (sg0 M ins inst x1 i) := sg0_3 h70
  have hgO : ∀ i, v3 (gO P i) := by
    intro i
    rw [pO]
    unfold sgO
    by_cases u : lnR ins io inst i
    · rw [if_pos u]; exact Or.inr (Or.inr rfl)
    · rw [if_neg u]; exact sgv i
  have hiA : ∀ i, i < io → gA P i ∧ gPl P i = i := fun i hi => ⟨(pA i).mpr (Or.inl hi), by rw [pPl]; exact plI_s (by omega)⟩
  have inL : ∀ i, INq M.2.1 0 (tsz T) (mdB (M.1 77)) 1 i → lnR ins io inst i := by
    rintro i ⟨j, d, ⟨-, j2⟩, j3, ei, d1, -⟩
    have u1 := lis_62 (Q := M.2.1) (j := j)
    have u2 := lis_lt (wt := M.2.1 57) (show j < n by omega) j3
    refine Or.inr ⟨by omega, ?_⟩
    rw [ei, h11]
    have e : wtQ M.2.1 j = (M.2.1 57 j).toInt.toNat := rfl
    omega
  have AL : ∀ i, gA P i → i < io ∨ (62 ≤ i ∧ i < inst) := by
    intro i hi
    rcases (pA i).mp hi with u | ⟨j, d, ⟨j1, j2, j3⟩, e, -⟩
    · exact Or.inl u
    · have u1 := lis_62 (Q := M.2.1) (j := j)
      have u2 := lis_lt (wt := M.2.1 57) j1 j2
      refine Or.inr ⟨by omega, ?_⟩
      rw [e, h11]
      have e : wtQ M.2.1 j = (M.2.1 57 j).toInt.toNat := rfl
      omega
  have ert : ∀ κ, gRt M P T (mdB (M.1 77)) κ = rtZ M.2.1 (hsC M.2.1 (r.1.2.1 76)) (seM M) T (fun s => s) (mdB (M.1 77)) κ := by
    intro κ
    show zv M.2.1 (tvQ M.2.1 κ) κ (hsC M.2.1 (gC P)) (gSe P) T 0 (fun s => s) (mdB (M.1 77)) True = zv M.2.1 (tvQ M.2.1 κ) κ (hsC M.2.1 (r.1.2.1 76)) (seM M) T 0 (fun s => s) (mdB (M.1 77)) True
    rw [pSe]
    refine zv_hs T 0 (fun j j1 j2 => ?_) _ _ _
    obtain ⟨v1, v2⟩ := pp_T hm T _ _ _ _ _ _ _ _ hT j j1 j2
    unfold hsC
    rw [pC, o5 _ v1, o5 _ v2, r76 _ v1, r76 _ v2, cntH_cg hfM _ v1, cntH_cg hfM _ v2]
  -- the other side's statuses fit
  have st := RIv_e rRI rhe
  have hμ : rdM M P T (mdB (M.1 77)) ins io (fun i => r.1.2.1 70 i) := by
    intro i hi
    rw [ert]
    refine st.2 i ?_
    rcases hi with hi | hi
    · exact Or.inl hi
    · exact inL i hi
  have sgi : ∀ i, i < ins → r.1.2.1 70 i = inB x1 i := by
    intro i hi
    have nl : ¬ lnR ins io inst i := by
      rintro (u | u) <;> omega
    have e := rRI.1 i nl
    have e : r.1.2.1 70 i = sg0 M ins inst x1 i := e
    rw [e, inB_s (by omega)]
    unfold sg0
    rw [if_pos (by omega), if_pos hi]
  obtain ⟨q3, hq3⟩ : ∃ q3 : rsT, q3 = uC (uC q1 13 1) 12 1 := ⟨_, rfl⟩
  rw [← hq3] at g3
  have a3 : q3.1 = q1.1 := by rw [hq3]; rfl
  have c12 : q3.2 12 = 1 := by rw [hq3, uC_s]
  have c13 : q3.2 13 = 1 := by rw [hq3, uC_n (by decide), uC_s]
  have c14 : q3.2 14 = q.2 14 := by rw [hq3, uC_n (by decide), uC_n (by decide), o2]
  have kA : ∀ i, gA P i → kap P q3 i = if i < ins then inB x1 i else 2 := by
    intro i hi
    rw [kap_A hi, a3, o3, pPl]
    have hlt : plI M.2.1 io n i < plc (M.2.1 51) (M.2.1 57) io n := plI_lt w1 i2 ((pA i).mp hi)
    by_cases u : i < ins
    · rw [plI_s (by omega), if_pos u, if_pos u]
    · have nu : ¬ plI M.2.1 io n i < ins := by
        intro v
        have b := hiA (plI M.2.1 io n i) (by omega)
        have e := hS.2.2.2.2.1.1 i (plI M.2.1 io n i) hi b.1 (by rw [b.2, pPl])
        omega
      rw [if_neg nu, if_pos hlt, if_neg u]
  have base : rdI P ins io (plc (M.2.1 51) (M.2.1 57) io n) (fun i => r.1.2.1 70 i) 1 q3 := by
    refine ⟨⟨c12, Nat.le_refl _, by omega⟩, ⟨?_, ?_, fun p => ?_, by rw [c14]; exact hq.2.2.2.2.1⟩, fun p hp => ⟨0, by omega, by rw [a3, o4 p hp]; rfl⟩, fun y hy => ?_, fun i => ?_, fun i hi => ?_, fun p => ?_⟩
    · rw [a3, o1 3 (by decide), pF]; exact hq.1
    · rw [a3, pC]
    · rw [a3, o3]
      by_cases u : p < ins
      · rw [if_pos u]
        unfold inB
        rcases a1_01 (x := (Int32.toUInt32 x1 >>> (Int32.toUInt32 (Int32.ofNat p) &&& Int32.toUInt32 31)).toInt32) with v | v
        · exact Or.inl v
        · exact Or.inr (Or.inl v)
      · rw [if_neg u]
        split
        · exact Or.inr (Or.inr rfl)
        · exact hq.2.2.2.1 p
    · rw [a3, o1 4 (by decide)]; exact hq.2.1 y hy
    · by_cases hi : gA P i
      · rw [kA i hi]
        by_cases u : i < ins
        · rw [if_pos u]; exact Or.inr (sgi i u).symm
        · rw [if_neg u]; exact Or.inl rfl
      · rw [kap_n hi, pO]
        unfold sgO
        by_cases u : lnR ins io inst i
        · rw [if_pos u]; exact Or.inl rfl
        · rw [if_neg u]; exact Or.inr (rRI.1 i u).symm
    · rw [kA i (hiA i (by omega)).1, if_pos hi]
      unfold inB
      rcases a1_01 (x := (Int32.toUInt32 x1 >>> (Int32.toUInt32 (Int32.ofNat i) &&& Int32.toUInt32 31)).toInt32) with v | v <;> (rw [v]; decide)
    · rw [a3, o1 11 (by decide)]; exact hq.2.2.2.2.2 p
  have rg := sfT_p hT.1
  rw [npas] at rg
  have pf0 : pfQ M.2.1 0 = 0 := rg.1
  have pt0 : ptQ M.2.1 0 = pa := by rw [rg.2]; omega
  have hD : DI (M.1 77 = 0) (mdB (M.1 77)) := by
    unfold mdB
    by_cases u : M.1 77 = 0
    · rw [if_pos u]; exact Or.inl ⟨u, Or.inl rfl⟩
    · rw [if_neg u]; exact Or.inr ⟨u, rfl⟩
  have hY : mdY (mdB (M.1 77)) p (if M.1 77 = 0 then 0 else 1) := by
    unfold mdB
    by_cases u : M.1 77 = 0
    · rw [if_pos u, if_pos u]
      exact ⟨hp.mp u, rfl⟩
    · rw [if_neg u, if_neg u]
      exact ⟨Classical.byContradiction (fun v => u (hp.mpr v)), rfl, rfl⟩
  have hh0 : mdB (M.1 77) = none → hsC M.2.1 (gC P) 0 := by
    intro e
    have u : M.1 77 = 0 := by
      unfold mdB at e
      by_cases u : M.1 77 = 0
      · exact u
      · rw [if_neg u] at e
        cases e
    obtain ⟨pp, pp1, pp2⟩ := hres u
    have c1 := cntH_pos (f := hf) (p := pp) (fun v => pp2 ((hfM pp pp1).mp v)) pa pp1
    have c2 := cntH_le (f := hf) pa
    unfold hsC
    have e0 : (Int32.ofNat (cntH hf 0)).toInt = 0 := by
      show (Int32.ofNat 0).toInt = 0
      decide
    rw [pf0, pt0, pC, o5 0 (by omega), o5 pa (Nat.le_refl _), e0, Int32.toInt_ofNat_of_lt (by omega)]
    omega
  refine wq_w (rds_w W hgO hm hS hT (by omega) (h2.trans n45) (by rw [h2, h3]; exact nio) ⟨i1, plge, i2⟩ hiA h12 hY hD hh0 hμ base g3 c13) ?_
  rintro z ⟨q', rr, gz, hri, hrf, hxa⟩
  refine ⟨q', gz, ?_⟩
  obtain ⟨-, hI', -, hv4, hks, hins, hch⟩ := hri
  -- statuses agree
  have hO := hT.1.1
  have hb := hT.1.2.2.2.2.1
  have fx := fix_T (Q := M.2.1) (hs := hsC M.2.1 (r.1.2.1 76)) (sel := seM M) (T := T) (ρ := fun s => s) (md := mdB (M.1 77)) (L := lnR ins io inst) (σ0 := sg0 M ins inst x1) (κ := kap P q') (μ := fun i => r.1.2.1 70 i) W hm hO hT.1.2.1 (by omega) (by omega) (fun y hy => hy.1) (fun y hy => by have := h12 y hy; omega) rRI rhe (fun i nl => ?_) hks (fun i hL hi k2 => ?_)
  · obtain ⟨f1, f2, f3, f4, f5, f6⟩ := hrf
    rw [ert, fx.1] at f4 f5 f6
    have kal : ∀ i, i < io → q'.1 1 i = r.1.2.1 70 i := by
      intro i u2
      have e := fx.2.1 (Int32.ofNat i) ⟨by rw [Int32.toInt_ofNat_of_lt (by omega)]; omega, by rw [Int32.toInt_ofNat_of_lt (by omega)]; omega⟩
      rw [Int32.toInt_ofNat_of_lt (by omega)] at e
      have e : kap P q' i = r.1.2.1 70 i := e
      obtain ⟨v1, v2⟩ := hiA i u2
      rw [kap_A v1, v2] at e
      exact e
    have kout : ∀ i, ins ≤ i → i < io → q'.1 1 i = r.1.2.1 70 i := fun i _ u => kal i u
    generalize hRt : rtZ M.2.1 (hsC M.2.1 (r.1.2.1 76)) (seM M) T (fun s => s) (mdB (M.1 77)) (fun i => r.1.2.1 70 i) = Rt at f4 f5 f6 rd1 rd2 rnx
    have okR : zOk True Rt := by rw [← hRt]; exact zv_ok T 0 _ _ True
    have bC : ∀ d, zC Rt d → d ≤ 1 := by
      intro d hd
      rw [← hRt] at hd
      have := zC_b hm T _ _ _ _ _ _ _ _ hT.1 _ _ _ d hd
      exact this
    have per : reP F3 io q' := ⟨by rw [hI'.1, pF], hv4, by rw [hI'.2.1, pC, o5 0 (by omega)]; rfl, hI'.2.2.1, hI'.2.2.2, hch⟩
    refine ⟨per, ?_⟩
    rcases hxa with ⟨ez, hc⟩ | ⟨⟨c0, cm, co⟩, hz⟩
    · have er : r.2 = -1 := by
        by_cases u : rxD Rt (fun i => r.1.2.1 70 i) ins io
        · exact rd1 u
        · have mr := rd2 u
          rcases hc with hc | hc | ⟨pp, u1, u2, u3⟩
          · have : q'.2 14 = 1 := hI'.2.2.2.elim (fun v => absurd v hc) id
            exact absurd (Or.inl (f4.mp this)) u
          · rcases mr with ⟨d, d1, d2, d3⟩ | ⟨-, d3⟩
            · rcases f5 with ⟨d', e1, e2, e3⟩ | ⟨e1, -⟩
              · rw [e3] at hc
                have := congrArg Int32.toInt hc
                rw [Int32.toInt_ofNat_of_lt (by omega), show (-1 : Int32).toInt = -1 by decide] at this
                omega
              · exact absurd d1 (e1 d)
            · exact d3
          · exact absurd (Or.inr ⟨pp, u1, u2, (kout pp u1 u2).symm.trans u3⟩) u
      exact ⟨Or.inl ⟨ez, er⟩, kal, fun nr => absurd er nr⟩
    · have nD : ¬ rxD Rt (fun i => r.1.2.1 70 i) ins io := by
        rintro (u | ⟨pp, u1, u2, u3⟩)
        · have := f4.mpr u
          rw [c0] at this
          exact absurd this (by decide)
        · exact co pp u1 u2 ((kout pp u1 u2).trans u3)
      have mr := rd2 nD
      obtain ⟨d, d1, d2, d3⟩ : ∃ d, zM Rt d ∧ d < 28 ∧ q'.1 8 0 = Int32.ofNat d := by
        rcases f5 with u | ⟨-, u⟩
        · exact u
        · exact absurd u cm
      have dr : r.2 = Int32.ofNat d := by
        rcases mr with ⟨d', e1, e2, e3⟩ | ⟨e1, -⟩
        · have := (okR.2.2.2.2.1 d d1 d').mp ((okR.2.2.2.2.1 d' e1 d').mpr rfl)
          rw [e3, this]
        · exact absurd d1 (e1 d)
      have d01 := bC d ((okR.2.2.2.2.1 d d1 d).mpr rfl)
      have hM : zM Rt 0 ∨ zM Rt 1 := by
        have : d = 0 ∨ d = 1 := by omega
        rcases this with u | u
        · subst u; exact Or.inl d1
        · subst u; exact Or.inr d1
      refine ⟨?_, kal, fun _ => ⟨fun i u1 u2 => by rw [← kout i u1 u2]; exact co i u1 u2, fun pp hpp => ?_, fun r1 => ?_⟩⟩
      · rcases hz with ⟨z1, z2⟩ | ⟨z1, z2⟩
        · refine Or.inr (Or.inl ⟨z1, ?_⟩)
          rw [dr, ← d3]
          exact z2
        · refine Or.inr (Or.inr ⟨z1, ?_⟩)
          have : ¬ d = 0 := fun u => z2 (by rw [d3, u]; rfl)
          have : d = 1 := by omega
          rw [dr, this]
          rfl
      · have g0 : gRg M 0 pp := ⟨by rw [pf0]; omega, by rw [pt0]; exact hpp⟩
        have v1 := f6 hM pp g0
        obtain ⟨v2, v3'⟩ := rnx ⟨d, d1⟩ pp hpp
        have v1 : (¬ q'.1 11 pp = 0) ↔ zN Rt pp := v1
        refine ⟨?_, fun r0 => ?_⟩
        · rw [v1]
          by_cases u : zN Rt pp
          · have e := v2 u
            exact ⟨⟨fun _ => e, fun _ => u⟩, Or.inr e⟩
          · have e := v3' u
            exact ⟨⟨fun v => absurd v u, fun v => absurd (e.symm.trans v) (by decide)⟩, Or.inl e⟩
        · have d0 : d = 0 := by
            rw [dr] at r0
            have := congrArg Int32.toInt r0
            rw [Int32.toInt_ofNat_of_lt (by omega), show (0 : Int32).toInt = 0 by decide] at this
            omega
          subst d0
          exact Classical.byContradiction (fun v => okR.2.2.2.2.2.2 d1 pp (v1.mp v))
      · have d1' : d = 1 := by
          rw [dr] at r1
          have := congrArg Int32.toInt r1
          rw [Int32.toInt_ofNat_of_lt (by omega), show (1 : Int32).toInt = 1 by decide] at this
          omega
        subst d1'
        have cl := fun j => cntH_le (f := M.2.1 74) j
        have hsel : ∀ p, p < pa → (seM M p ↔ (r.1.2.1 76 p).toInt < (r.1.2.1 76 (p + 1)).toInt) := by
          intro p hp
          have c1 := cl p
          have c2 := cl (p + 1)
          rw [r76 p (by omega), r76 (p + 1) (by omega), Int32.toInt_ofNat_of_lt (by omega), Int32.toInt_ofNat_of_lt (by omega)]
          have e : cntH (M.2.1 74) (p + 1) = cntH (M.2.1 74) p + (if M.2.1 74 p = 0 then 0 else 1) := rfl
          rw [e]
          show ¬ M.2.1 74 p = 0 ↔ _
          by_cases z : M.2.1 74 p = 0
          · rw [if_pos z]; exact ⟨fun u => absurd z u, fun u => by omega⟩
          · rw [if_neg z]; exact ⟨fun _ => by omega, fun _ => z⟩
        have hh1 : mdB (M.1 77) = none → hsC M.2.1 (r.1.2.1 76) 0 := by
          intro e
          have u : M.1 77 = 0 := by
            unfold mdB at e
            by_cases u : M.1 77 = 0
            · exact u
            · rw [if_neg u] at e
              cases e
          obtain ⟨pp, pp1, pp2⟩ := hres u
          have c1 := cntH_pos (f := M.2.1 74) (p := pp) pp2 pa pp1
          have c2 := cl pa
          have e0 : (Int32.ofNat (cntH (M.2.1 74) 0)).toInt = 0 := by
            show (Int32.ofNat 0).toInt = 0
            decide
          unfold hsC
          rw [pf0, pt0, r76 0 (by omega), r76 pa (Nat.le_refl _), e0, Int32.toInt_ofNat_of_lt (by omega)]
          omega
        have zn := z1_N (C := r.1.2.1 76) (sel := seM M) (tv := tvQ M.2.1 (fun i => r.1.2.1 70 i)) (σ := fun i => r.1.2.1 70 i) hm hsel T _ _ _ _ _ _ _ _ hT (fun s => s) (mdB (M.1 77)) True hh1 (by rw [← hRt] at d1; exact d1)
        obtain ⟨pp, hpp⟩ := zn
        have hb' := N_in hm T _ _ _ _ _ _ _ _ _ _ _ hT.1 pp hpp
        have hlt : pp < pa := by
          have := hb'.2
          rw [npas] at this
          omega
        refine ⟨pp, hlt, ?_⟩
        have g0 : gRg M 0 pp := ⟨by rw [pf0]; omega, by rw [pt0]; exact hlt⟩
        exact (f6 hM pp g0).mpr (by rw [← hRt]; exact hpp)
  · by_cases hi : gA P i
    · rcases AL i hi with u | u
      · have ui : i < ins := by
          by_cases v : i < ins
          · exact v
          · exact absurd (Or.inl ⟨by omega, u⟩) nl
        have e := hks i
        have e2 := vle_n2 e (hins i ui)
        rw [← e2]
        exact rRI.1 i nl
      · exact absurd (Or.inr u) nl
    · rw [kap_n hi, pO]
      unfold sgO
      rw [if_neg nl]
  · obtain ⟨f1, f2, f3, -⟩ := hrf
    rw [ert] at f1 f2 f3
    refine ⟨?_, fun u => f1 i u k2⟩
    rcases hi with hi | ⟨y, ⟨y1, y2⟩, ey⟩
    · exact f2 i hi k2
    · have ey : i = y.toInt.toNat := ey
      refine f3 i ?_ (by omega) k2
      rcases hL with u | u
      · exact u.1
      · omega
end REB
