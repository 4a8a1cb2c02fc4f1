/-! explore of class and reference, whole -/
/-- the atlas in the class's heap, the reference's rows beside it -/
def EXa (G : hg_E) (S : hg_S) (M : md_S) (oA : Nat) (bA : Nat → Nat) (q : rsT) (cnt pa ins : Nat) : Prop :=
  (ATv G S oA bA q.1 q.2 ∧ ∀ i j, i < 8 → j < 8 → bA i = bA j → i = j) ∧ (axS q M cnt pa ∧ axC q M cnt 0 (2 ^ ins) ∧ axD q M cnt cnt 0 (2 ^ ins)) ∧ (q.2 8 = Int32.ofNat (2 ^ ins) ∧ M.1 45 = Int32.ofNat ins ∧ ins ≤ 4 ∧ pa ≤ 8) ∧ grO q M cnt
/-- where the atlas may lie -/
def EXl (t0 u oA : Nat) (bA : Nat → Nat) : Prop := (oA < t0 ∨ u + 32 ≤ oA) ∧ ∀ i, i < 8 → bA i < t0 ∨ u + 32 ≤ bA i
/-- what exploring changes of the reference -/
def mdXp (M M' : md_S) : Prop := (∀ i, ¬ (i = 0 ∨ (77 ≤ i ∧ i ≤ 81) ∨ i = 85 ∨ i = 87) → M'.1 i = M.1 i) ∧ ∀ i, ¬ (i = 67 ∨ (70 ≤ i ∧ i ≤ 76) ∨ (88 ≤ i ∧ i ≤ 97)) → M'.2.1 i = M.2.1 i
theorem soO_k {q q' : rsT} {M : md_S} {W cnt pa J I : Nat} (h : soO q q' W) : (axS q M cnt pa → axS q' M cnt pa) ∧ (axC q M J I W → axC q' M J I W) ∧ (axD q M cnt J I W → axD q' M cnt J I W) := by
  obtain ⟨⟨s1, s2⟩, -⟩ := h
  refine ⟨fun g => axS_k g (fun i h1 h2 => s1 i (by omega) (by omega)) (s2 9 (by omega)) rfl (fun _ _ _ => rfl), fun g => ?_, fun g => ?_⟩
  · unfold axC
    rw [s1 0 (by omega) (by omega), s1 1 (by omega) (by omega)]
    exact g
  · unfold axD
    rw [s2 10 (by omega), s2 11 (by omega), s2 13 (by omega), s2 14 (by omega)]
    exact g
theorem ax_rw {q : rsT} {M M' : md_S} {W cnt pa J I : Nat} (e87 : M'.1 87 = M.1 87) (e46 : M'.1 46 = M.1 46) (er : ∀ i, 88 ≤ i → i ≤ 93 → M'.2.1 i = M.2.1 i) : (axS q M cnt pa → axS q M' cnt pa) ∧ (axC q M J I W → axC q M' J I W) ∧ (axD q M cnt J I W → axD q M' cnt J I W) := by
  refine ⟨fun g => axS_k g (fun _ _ _ => rfl) rfl e87 (fun i h1 h2 => er i h1 (by omega)), fun g => ?_, fun g => ?_⟩
  · unfold axC
    rw [er 88 (by omega) (by omega), er 92 (by omega) (by omega), er 93 (by omega) (by omega), e46]
    exact g
  · unfold axD dsO
    rw [er 88 (by omega) (by omega), er 89 (by omega) (by omega), er 90 (by omega) (by omega), er 92 (by omega) (by omega)]
    exact g
section EXP
variable {G : hg_E} {S : hg_S} {M : md_S} {T : tT} {t0 u n ps sg io pa o t oA ins : Nat} {bA : Nat → Nat} {R : Nat → Nat → Int32} {c : Nat → Int32} {X : Nat → Nat → Int32} {cn : Nat → Int32} {hf sf : Nat → Int32} {nn f st en rn ex la kept : Int32} {tn : Value} {XA : Nat → Nat → Int32} {cA : Nat → Int32}
/-- the numbers of a program that may be explored -/
theorem xp_num (hpg : pgS G S M t0 u n ps sg io pa R c) (hx : xpO M) : ∃ ins out, M.1 45 = Int32.ofNat ins ∧ M.1 46 = Int32.ofNat out ∧ ins ≤ 4 ∧ out ≤ 31 ∧ ins + out = io ∧ pa ≤ 8 := by
  obtain ⟨-, -, ⟨-, -, -, -, -, -, -, -, e456, e47⟩, ⟨-, -, -, b4, -, b6⟩, i1, i2, i3, i4⟩ := hpg
  obtain ⟨x1, x2, -, -⟩ := hx
  have e1 := ofN_t (x := M.1 45) i1 (by omega)
  have e2 := ofN_t (x := M.1 46) i3 (by omega)
  have tp : (Int32.ofNat pa).toInt = (pa : Int) := Int32.toInt_ofNat_of_lt (by omega)
  rw [e47, tp] at x1
  refine ⟨(M.1 45).toInt.toNat, (M.1 46).toInt.toNat, e1.symm, e2.symm, by omega, by omega, ?_, by omega⟩
  have t3 : (M.1 45 + M.1 46).toInt = (M.1 45).toInt + (M.1 46).toInt := by rw [a_add]; omega
  have t4 : (Int32.ofNat io).toInt = (io : Int) := Int32.toInt_ofNat_of_lt (by omega)
  rw [e456, t4] at t3
  omega
/-- the class's survey beside the reference, from its first state on -/
theorem sv_w {Mz : md_S} {out : Nat} (h0 : hw S) (hpg : pgS G S M t0 u n ps sg io pa R c) (hpt : pgT M T n ps) (hpb : pgB M n) (hre : REv G S (u + 18) u (reB (u + 19)) (reN sg (plc (R 0) (R 7) io n) ps n pa) X cn) (hpl : plP (R 0) (R 4) (R 7) io n (X 3)) (hrp : reP (X 3) io (X, cn)) (h70 : ∀ i, v3 (M.2.1 70 i)) (ht0 : t0 ≤ u) (hnum : M.1 45 = Int32.ofNat ins ∧ M.1 46 = Int32.ofNat out ∧ ins ≤ 4 ∧ out ≤ 31 ∧ ins + out = io ∧ pa ≤ 8) (hat : ATv G S oA bA XA cA) (hinj : ∀ i j, i < 8 → j < 8 → bA i = bA j → i = j) (hl : EXl t0 u oA bA) (hu31 : u + 32 ≤ S.2.1) (rm : 1 ≤ S.2.2.1 ∧ pa ≤ S.2.2.2) {M2 : md_S} (hm : mm_meet (md_i M 87 0) 256 (-1) 0 = some M2) (hz : dc_it (mm_explore_s139 kept) (M2, 0) = some Mz) : dc_wp (hm_AT_survey G S oA (some u) (some (u + 18))) (fun S' => ∃ q cnt, (hw S' ∧ S'.2 = (S.2.1 + 1, S.2.2.1 - 1, S.2.2.2 - pa)) ∧ (∀ e, e < S.2.1 → e ≠ oA → (∀ i, i < 8 → e ≠ bA i) → ¬ (u + 18 ≤ e ∧ e < u + 30) → hg_at S'.1 e = hg_at S.1 e) ∧ (∃ X' cn', REv G S' (u + 18) u (reB (u + 19)) (reN sg (plc (R 0) (R 7) io n) ps n pa) X' cn' ∧ X' 3 = X 3 ∧ reP (X 3) io (X', cn')) ∧ mdX M Mz ∧ (∀ i, v3 (Mz.2.1 70 i)) ∧ ATv G S' oA bA q.1 q.2 ∧ axS q Mz cnt pa ∧ axC q Mz cnt 0 (2 ^ ins) ∧ axD q Mz cnt cnt 0 (2 ^ ins) ∧ q.2 8 = Int32.ofNat (2 ^ ins) ∧ ∃ q0, axS q0 Mz cnt pa ∧ axC q0 Mz cnt 0 (2 ^ ins) ∧ axD q0 Mz cnt cnt 0 (2 ^ ins) ∧ soO q0 q (2 ^ ins)) := by
  obtain ⟨e45, e46, i4, o31, eio, pa8⟩ := hnum
  obtain ⟨l2, l3⟩ := hl
  obtain ⟨sh1, sh2, sh3⟩ := sh_ins ins i4
  have hpg0 := hpg
  obtain ⟨⟨nm, hnm, hpv⟩, -, ⟨-, -, -, k1, -, k3, -, -, -, e47⟩, -⟩ := hpg
  have tp : (Int32.ofNat pa).toInt = (pa : Int) := Int32.toInt_ofNat_of_lt (by omega)
  have oAt : oA < S.2.1 := h0.lt hat.1
  have bAt : ∀ i, i < 8 → bA i < S.2.1 := fun i hi => h0.lt (hat.2 i hi)
  delta hm_AT_survey
  refine wq_gi (x := c 3) hpv.1 rfl ?_
  rw [k3, e47]
  refine wq_newa (N := pa) tp rm.1 rm.2 (by omega) ?_
  -- the held array lies at the top
  generalize hS1 : hp S (.inl (G.1 2, pa, .inl (fun _ => 0))) pa = S1
  have s1w : hw S1 := by rw [← hS1]; exact h0.hp
  have s12 : S1.2 = (S.2.1 + 1, S.2.2.1 - 1, S.2.2.2 - pa) := by rw [← hS1]; rfl
  have s1h : hg_at S1.1 S.2.1 = some (.inl (G.1 2, pa, .inl (fun _ => 0))) := by rw [← hS1]; exact hp_self h0
  have s1n : ∀ e, e ≠ S.2.1 → hg_at S1.1 e = hg_at S.1 e := fun e he => by rw [← hS1]; exact hp_ne he
  refine wq_let (fun v ev => ?_)
  subst ev
  refine wq_gi (x := c 1) ((s1n u (by omega)).trans hpv.1) rfl ?_
  rw [k1, e45, sh1]
  have a1 : AW G (S1, oA, bA) S1 (XA, cA) := ⟨⟨s1w, rfl, hinj⟩, ⟨(s1n oA (by omega)).trans hat.1, fun i hi => (s1n (bA i) (by have := bAt i hi; omega)).trans (hat.2 i hi)⟩, fun _ _ _ => rfl⟩
  refine aw_f a1 (j := 8) (by decide) (by decide) (fun S2 a2 => ?_)
  refine aw_g a2 (i := 2) (by decide) ?_
  refine wq_call (fil_w a2.1.1 (a2.2.1.2 2 (by omega)) (by decide)) ?_
  rintro S3 ⟨⟨b1, b2⟩, b3, b4⟩
  have a3 := AW_u a2 (i := 2) (by omega) b1 b2 b3 b4
  refine aw_f a3 (j := 9) (by decide) (by decide) (fun S4 a4 => ?_)
  refine aw_f a4 (j := 10) (by decide) (by decide) (fun S5 a5 => ?_)
  refine aw_f a5 (j := 11) (by decide) (by decide) (fun S6 a6 => ?_)
  refine aw_f a6 (j := 13) (by decide) (by decide) (fun S7 a7 => ?_)
  clear a2 a3 a4 a5 a6
  generalize hq3 : uC (uC (uC (uC (fX (uC ((XA, cA) : rsT) 8 (Int32.ofNat (2 ^ ins))) 2 (fun p => if p < wN 2 then -1 else (uC ((XA, cA) : rsT) 8 (Int32.ofNat (2 ^ ins))).1 2 p)) 9 0) 10 0) 11 0) 13 (-1) = q3 at a7
  have q3_2 : ∀ x, x < 257 → q3.1 2 x = -1 := fun x hx => by
    rw [← hq3, uC_1, uC_1, uC_1, uC_1, fX_s]
    exact if_pos hx
  have q3_9 : q3.2 9 = 0 := by rw [← hq3, uC_n (by omega), uC_n (by omega), uC_n (by omega), uC_s]
  have q3_10 : q3.2 10 = 0 := by rw [← hq3, uC_n (by omega), uC_n (by omega), uC_s]
  have q3_11 : q3.2 11 = 0 := by rw [← hq3, uC_n (by omega), uC_s]
  have q3_13 : q3.2 13 = -1 := by rw [← hq3, uC_s]
  have q3_8 : q3.2 8 = Int32.ofNat (2 ^ ins) := by
    rw [← hq3, uC_n (by omega), uC_n (by omega), uC_n (by omega), uC_n (by omega)]
    show (uC ((XA, cA) : rsT) 8 (Int32.ofNat (2 ^ ins))).2 8 = _
    exact uC_s
  refine aw_c a7 ?_
  refine wq_call (mt_w (x := 256) (y := -1) (z := -1) a7 ⟨by decide, by decide⟩ (Or.inl rfl) (by rw [q3_9]; exact ⟨by decide, by decide⟩)) ?_
  intro S8 a8
  have mo := met_r (cnt := 0) (by omega) (S := md_i M 87 0) (by rw [md_i1, if_pos rfl]; rfl) hm
  rcases mo with ⟨⟨j, j1, -⟩, -⟩ | ⟨-, -, r1, r87, rr, r88, r90, r91, r89⟩
  · exact absurd j1 (by omega)
  have ax0 : axS q3 (md_i M 87 0) 0 pa := ⟨⟨q3_9, by rw [md_i1, if_pos rfl]; rfl, by omega⟩, fun j hj => absurd hj (by omega), fun j hj => absurd hj (by omega), fun i j hi => absurd hi (by omega), fun x hx e => absurd (q3_2 x hx) e⟩
  have ax1 := axS_m (r := M2) (p2 := -1) (p3 := 0) (x := 256) (y := -1) (z := -1) ax0 ⟨by decide, by decide⟩ (Or.inl rfl) (fun i hi => absurd hi (by omega)) (by omega) (Or.inl rfl) (by rw [if_pos rfl]) (fun z => absurd z (by omega)) r87 r88 r90 r91 r89
  obtain ⟨-, -, -, -, m5, m6, m7⟩ := awM_1 (q := q3) (x := 256) (y := -1) (z := -1)
  have n1 : ∀ i, ¬ i = 87 → M2.1 i = M.1 i := fun i hi => by rw [r1 i hi, md_i1, if_neg hi]
  have mX : mdX M M2 := ⟨fun i hi => n1 i (by omega), fun i hi => rr i (by omega)⟩
  have hn8 : ∀ e, e ≠ oA → (∀ i, i < 8 → e ≠ bA i) → hg_at S8.1 e = hg_at S1.1 e := a8.2.2
  have X0 : xpW G S1 M u n ps sg io pa S.2.1 oA bA R (X 3) S8 M2 (awM q3 256 (-1) (-1)) := by
    refine ⟨⟨a8.1.1, a8.1.2.1⟩, AW_b a8, fun e e1 e2 _ _ => hn8 e e1 e2, ⟨X, cn, REv_c hre (fun i i1 i2 => ?_) ?_, rfl, hrp⟩, mX, fun i => by rw [rr 70 (by omega)]; exact h70 i⟩
    · have := reB_b (u := u) i1 i2
      rw [hn8 _ (by omega) (fun j hj => by have := l3 j hj; omega), s1n _ (by omega)]
    · rw [hn8 _ (by omega) (fun j hj => by have := l3 j hj; omega), s1n _ (by omega)]
  have hL0 : xpL t0 u S.2.1 oA bA := ⟨ht0, l2, l3, hu31, by omega, fun i hi => by have := bAt i hi; omega⟩
  have hP0 : xpP G S1 M t0 u n ps sg io pa ins out R c T (X 3) := ⟨⟨pgS_c hpg0 ⟨fun _ _ _ => rfl, fun _ _ => rfl⟩ (fun b b1 b2 => s1n b (by omega)) ht0, hpt, hpb⟩, hpl, e45, e46, i4, o31, eio, pa8⟩
  have axd : axD (awM q3 256 (-1) (-1)) M2 1 0 0 (2 ^ ins) := by
    refine ⟨⟨by rw [m7 10 (by omega), q3_10]; rfl, by rw [m7 11 (by omega), q3_11]; rfl⟩, Or.inl ⟨by rw [m7 13 (by omega), q3_13], fun j i hd => ?_⟩, ⟨fun i j hij hj => ?_, fun _ j hj => ?_⟩, fun j i hji => absurd hji (by omega), by omega, by rw [r88, upd_s], fun j hj => ?_⟩
    · have := hd.1
      omega
    · have e1 : i = 0 := by omega
      have e2 : j = 0 := by omega
      rw [e1, e2]
      exact Int.le_refl _
    · have e2 : j = 0 := by omega
      rw [e2]
      omega
    · have e2 : j = 0 := by omega
      rw [e2, r89, r90, upd_s, upd_s, if_pos rfl, if_pos rfl]
  have hA8 : hg_at S8.1 S.2.1 = some (.inl (G.1 2, pa, .inl (fun _ => 0))) := by rw [hn8 _ (by omega) (fun i hi => by have := bAt i hi; omega)]; exact s1h
  delta hm_AT_survey_L57
  refine wq_call (svy_w hL0 hP0 X0 ax1 (fun j i hji => absurd hji (by omega)) axd (by rw [m7 8 (by omega)]; exact q3_8) hA8 hz) ?_
  rintro S9 ⟨q9, cnt, hf9, ⟨⟨x1, x2⟩, x3, x4, ⟨X', cn', x5, x6, x7⟩, x8, x9⟩, gS, gC, gD, g8, gh⟩
  delta hm_AT_survey_L94
  refine aw_c x3 ?_
  refine wq_call (so_w (E := (S9, oA, bA)) x3 g8 sh3 (axS_o gS gD.2.2.2.2.2.1 gD.2.2.2.2.1)) ?_
  rintro S10 ⟨q10, y1, y2⟩
  have hn10 : ∀ e, e ≠ oA → (∀ i, i < 8 → e ≠ bA i) → hg_at S10.1 e = hg_at S9.1 e := y1.2.2
  obtain ⟨z1, z2, z3⟩ := soO_k (M := Mz) (cnt := cnt) (pa := pa) (J := cnt) (I := 0) y2
  refine ⟨_, rfl, q10, cnt, ⟨y1.1.1, (y1.1.2.1.trans x2).trans s12⟩, fun e e0 e1 e2 e3 => ?_, ⟨X', cn', REv_c x5 (fun i i1 i2 => ?_) ?_, x6, x7⟩, x8, x9, y1.2.1, z1 gS, z2 gC, z3 gD, by rw [y2.1.2 8 (by omega)]; exact g8, q9, gS, gC, gD, y2⟩
  · rw [hn10 e e1 e2, x4 e e1 e2 e3 (by omega), s1n e (by omega)]
  · have := reB_b (u := u) i1 i2
    exact hn10 _ (by omega) (fun j hj => by have := l3 j hj; omega)
  · exact hn10 _ (by omega) (fun j hj => by have := l3 j hj; omega)
end EXP
