/-! the reference's run at traps, suspended and present ones -/
section UN2
variable {M : md_S} {names : Int32} {kk ff ss xx : Nat → Int32} {m : Nat} {V : Int32 → Prop} {k : Nat} {up : Int32} {w : Int} {t : Int32} {a c : Int} {E : List (Int32 × Int32)} {x : Lean.Name} {A B : tT}
/-- bounds of a row's pauses -/
theorem rg_b {T : tT} (hm : m ≤ 1000) (h : sfT M kk ff xx m T V k up w t a c E) : (M.2.1 62 k = Int32.ofNat (pfQ M.2.1 k) ∧ M.2.1 62 (M.2.1 59 k).toInt.toNat = Int32.ofNat (ptQ M.2.1 k)) ∧ pfQ M.2.1 k ≤ ptQ M.2.1 k ∧ ptQ M.2.1 k ≤ 200 := by
  have rg := sfT_p h
  have hO := h.1
  have b := h.2.2.2.2.1
  have z := tsm_0 (fun V e h => pO_b hm h) T _ hO
  have h62 := h.2.2.2.2.2.1
  have hr : (M.2.1 62 k).toInt = a := by
    have hL := h.2.1
    cases T with
    | const x => exact hL.1.2.2.2.2.2.2
    | unary x A => exact hL.1.1.2.2.2.2.2.2
    | binary x A B => exact hL.1.1.2.2.2.2.2.2
    | _ => exact hL.elim
  have h59 := (CPr_r T k _ h.2.2.1).2
  have e59 : (M.2.1 59 k).toInt.toNat = k + tsz T := by rw [h59, Int32.toInt_ofNat_of_lt (by omega)]; omega
  refine ⟨⟨ofN_m (by rw [rg.1]; omega) (by omega), ?_⟩, by omega, by omega⟩
  rw [e59]
  exact ofN_m (by rw [rg.2]; omega) (by omega)
/-- clearing -/
theorem clr_r {q8 Z : md_S} {lo hi : Nat} (hF : rnF M q8) (hk : k < 1200) (e1 : M.2.1 62 k = Int32.ofNat lo) (e2 : M.2.1 62 (M.2.1 59 k).toInt.toNat = Int32.ofNat hi) (hb : lo ≤ hi ∧ hi ≤ 200) {T3 : mm_T3} (hq : dc_it (mm_trapped_s20 T3 (Int32.ofNat k)) (q8, Int32.ofNat lo) = some Z) : Z.1 = q8.1 ∧ (∀ i, ¬ i = 75 → Z.2.1 i = q8.2.1 i) ∧ (q8.1 80 = 2 → ∀ p, (lo ≤ p ∧ p < hi → Z.2.1 75 p = 0) ∧ (¬ (lo ≤ p ∧ p < hi) → Z.2.1 75 p = q8.2.1 75 p)) ∧ (¬ q8.1 80 = 2 → Z.2.1 75 = q8.2.1 75) := by
  have tk : (Int32.ofNat k).toInt.toNat = k := by rw [Int32.toInt_ofNat_of_lt (by omega)]; omega
  have th : (Int32.ofNat hi).toInt = (hi : Int) := Int32.toInt_ofNat_of_lt (by omega)
  have key : dc_pw ((dc_it (mm_trapped_s20 T3 (Int32.ofNat k)) (q8, Int32.ofNat lo)).bind some) (fun Z => Z.1 = q8.1 ∧ (∀ i, ¬ i = 75 → Z.2.1 i = q8.2.1 i) ∧ (q8.1 80 = 2 → ∀ p, (lo ≤ p ∧ p < hi → Z.2.1 75 p = 0) ∧ (¬ (lo ≤ p ∧ p < hi) → Z.2.1 75 p = q8.2.1 75 p)) ∧ (¬ q8.1 80 = 2 → Z.2.1 75 = q8.2.1 75)) := by
    refine pw_loop (fun (y : md_S × Int32) => ∃ j, y.2 = Int32.ofNat j ∧ lo ≤ j ∧ j ≤ hi ∧ y.1.1 = q8.1 ∧ (∀ i, ¬ i = 75 → y.1.2.1 i = q8.2.1 i) ∧ (∀ p, (lo ≤ p ∧ p < j → y.1.2.1 75 p = 0) ∧ (¬ (lo ≤ p ∧ p < j) → y.1.2.1 75 p = q8.2.1 75 p)) ∧ (¬ q8.1 80 = 2 → y.1.2.1 75 = q8.2.1 75)) (fun Z => Z.1 = q8.1 ∧ (∀ i, ¬ i = 75 → Z.2.1 i = q8.2.1 i) ∧ (q8.1 80 = 2 → ∀ p, (lo ≤ p ∧ p < hi → Z.2.1 75 p = 0) ∧ (¬ (lo ≤ p ∧ p < hi) → Z.2.1 75 p = q8.2.1 75 p)) ∧ (¬ q8.1 80 = 2 → Z.2.1 75 = q8.2.1 75)) ⟨lo, rfl, Nat.le_refl _, hb.1, rfl, fun _ _ => rfl, fun p => ⟨fun z => by omega, fun _ => rfl⟩, fun _ => rfl⟩ ?_ (fun Z h => pw_some h)
    rintro ⟨Y, v⟩ ⟨j, ev, j1, j2, f1, f2, f3, f4⟩
    have ev : v = Int32.ofNat j := ev
    have f1 : Y.1 = q8.1 := f1
    have f2 : ∀ i, ¬ i = 75 → Y.2.1 i = q8.2.1 i := f2
    subst ev
    have tj : (Int32.ofNat j).toInt = (j : Int) := Int32.toInt_ofNat_of_lt (by omega)
    show dc_pw (mm_trapped_b20 T3 Y (Int32.ofNat k) (Int32.ofNat j)) _
    delta mm_trapped_b20
    refine pw_ix (fun _ _ => ?_)
    rw [tk]
    refine pw_ix (fun _ _ => ?_)
    rw [f2 59 (by omega), f2 62 (by omega), hF.2 59 (by omega), hF.2 62 (by omega), e2, f1]
    refine pw_ifc (fun c => ?_) (fun c => ?_)
    · have c := i_lt.mp c
      rw [tj, th] at c
      refine pw_ifc (fun c2 => ?_) (fun c2 => ?_)
      · refine pw_ix (fun _ _ => ?_)
        rw [show (Int32.ofNat j).toInt.toNat = j by omega]
        refine pw_some ⟨j + 1, ad_m (by omega), by omega, by omega, f1, fun i hi => by show (md_a Y 75 j 0).2.1 i = _; rw [md_a2, if_neg hi]; exact f2 i hi, fun p => ⟨fun z => ?_, fun z => ?_⟩, fun z => absurd c2 z⟩
        · show (md_a Y 75 j 0).2.1 75 p = 0
          rw [md_a2, if_pos rfl]
          by_cases e : p = j
          · rw [e, upd_s]
          · rw [upd_n e]; exact (f3 p).1 (by omega)
        · show (md_a Y 75 j 0).2.1 75 p = _
          rw [md_a2, if_pos rfl, upd_n (by omega)]
          exact (f3 p).2 (by omega)
      · exact pw_some ⟨f1, f2, fun z => absurd z c2, f4⟩
    · have c : ¬ (j : Int) < (hi : Int) := fun z => c (i_lt.mpr (by rw [tj, th]; exact z))
      have ej : j = hi := by omega
      subst ej
      exact pw_some ⟨f1, f2, fun _ => f3, f4⟩
  exact key Z (by rw [hq]; rfl)
/-- trap -/
theorem rn_trap (hm : m ≤ 1000) (h : sfT M kk ff xx m (.unary x A) V k up w t a c E) (k8 : (lT x).1 = 8) (hT : rnT M A V (k + 1) w.toNat) : rnT M (.unary x A) V k w.toNat := by
  intro d S q ρ md s p2 p3 hP hq
  have rg := rg_un hm h
  have nn := n_un hm h (tv := tvQ M.2.1 (siM M)) (σ := siM M) (hs := hsM M) (sel := seM M) (ρ := ρ) (md := md) (s := s)
  obtain ⟨⟨r62, r62'⟩, rb1, rb2⟩ := rg_b hm h
  have hsz : k + (1 + tsz A) ≤ 1200 := h.2.2.2.2.1.1
  have row := h.2.1.1
  have tk : (Int32.ofNat k).toInt.toNat = k := by rw [Int32.toInt_ofNat_of_lt (by omega)]; omega
  obtain ⟨hF, hv, hmd, hs, h78⟩ := hP
  have lce : lcI (.unary x A) = lcI A := by unfold lcI; rw [lc_un (by rw [k8]; decide)]
  have e51 : S.2.1 51 k = 8 := by rw [hF.2 51 (by omega)]; exact row.1.1.trans k8
  have e52 : S.2.1 52 k = Int32.ofNat (k + 1) := by rw [hF.2 52 (by omega)]; exact row.1.2.1
  obtain ⟨d', -, hq⟩ := rn_d (by omega) e51 (by decide) hq
  delta mm_run_L108 at hq
  obtain ⟨-, -, hq⟩ := iv_ix hq
  rw [tk] at hq
  delta dc_let at hq
  dsimp only at hq
  rw [e51, if_neg (by decide), if_neg (by decide), if_neg (by decide), if_neg (by decide), if_neg (by decide), if_neg (by decide), if_neg (by decide), if_neg (by decide), if_pos rfl] at hq
  obtain ⟨q23, e23, hq⟩ := iv_bind hq
  have hq : some q23 = some q := hq
  rw [← Option.some.inj hq]
  clear hq
  cases d' with
  | zero =>
    have e23 : none = some q23 := e23
    cases e23
  | succ d' =>
    have e23 : mm_trapped (mm_P3 d') S (Int32.ofNat k) p2 p3 = some q23 := e23
    delta mm_trapped at e23
    obtain ⟨-, -, e23⟩ := iv_ix e23
    rw [tk, e52] at e23
    obtain ⟨q8, e8, e23⟩ := iv_bind e23
    obtain ⟨-, -, e23⟩ := iv_ix e23
    rw [tk] at e23
    have ro := hT d' S q8 ρ md s p2 p3 ⟨hF, hv, hmd, hs, h78⟩ e8
    have G := rnO_G ro
    rw [rg.1, rg.2, ← lce] at G
    rw [rg.1, rg.2] at nn
    have F8 := rnF_tr hF G.1.1
    have e23 : mm_trapped_L20 (mm_P3 d') q8 (Int32.ofNat k) (q8.2.1 62 k) = some q23 := e23
    rw [F8.2 62 (by omega), r62] at e23
    delta mm_trapped_L20 at e23
    obtain ⟨Z, eZ, e23⟩ := iv_bind e23
    obtain ⟨z1, z2, z3, z4⟩ := clr_r F8 (by omega) r62 r62' ⟨rb1, rb2⟩ eZ
    have e23 : mm_trapped_L58 (mm_P3 d') Z = some q23 := e23
    delta mm_trapped_L58 at e23
    obtain ⟨cq, ecq, e23⟩ := iv_bind e23
    rw [z1] at ecq e23
    unfold zv
    rw [if_neg (by rw [k8]; decide), if_neg (by rw [k8]; decide), if_pos k8]
    have ok := zv_ok (Q := M.2.1) (tv := tvQ M.2.1 (siM M)) (σ := siM M) (hs := hsM M) (sel := seM M) A (k + 1) ρ md s
    obtain ⟨ec, em⟩ := ro.2.1
    generalize zv M.2.1 (tvQ M.2.1 (siM M)) (siM M) (hsM M) (seM M) A (k + 1) ρ md s = e at *
    have u2 := (mB_0 em (zM_u ok)).2
    have cc : cB cq (zC (zTr e)) := caught_b ec ecq
    have GZ : rnG S Z (lcI (.unary x A)) (pfQ M.2.1 k) (ptQ M.2.1 k) (zTr e) := by
      obtain ⟨⟨g1, g2⟩, g3, g4, g5, g6, g7, g8⟩ := G
      refine ⟨⟨⟨fun i hi => by rw [z1]; exact g1.1 i hi, fun i hi => by rw [z2 i (by omega)]; exact g1.2 i hi⟩, by rw [z1]; exact g2⟩, fun i => by rw [z2 72 (by omega)]; exact g3 i, fun i => by rw [z2 71 (by omega)]; exact g4 i, fun j hj => by rw [z2 73 (by omega)]; exact g5 j hj, by rw [z1]; exact g6, fun p hp => ?_, fun hM h0 p p1 p2 => ?_⟩
      · by_cases c2 : q8.1 80 = 2
        · rw [((z3 c2) p).2 hp]; exact g7 p hp
        · rw [z4 c2]; exact g7 p hp
      · by_cases c2 : q8.1 80 = 2
        · exact ⟨fun z => absurd (u2.mp c2) z.2, fun _ => ((z3 c2) p).1 ⟨p1, p2⟩⟩
        · rw [z4 c2]
          have n2 : ¬ zM e 2 := fun z => c2 (u2.mpr z)
          have hM' : ∃ c, zM e c := by
            obtain ⟨c, z⟩ := hM
            rcases z with ⟨-, z | z⟩ | ⟨-, z⟩ | ⟨-, z⟩ <;> exact ⟨_, z⟩
          have := g8 hM' h0 p p1 p2
          exact ⟨fun z => this.1 z.1, fun z => this.2 (fun t => z ⟨t, n2⟩)⟩
    have fin : ∀ v : Int32, mB v (zM (zTr e)) → mm_trapped_L99 (mm_P3 d') Z v cq = some q23 → rnO M S q23 (.unary x A) k (zTr e) := by
      intro v hv e23
      delta mm_trapped_L99 at e23
      obtain ⟨q5, e5, e23⟩ := iv_bind e23
      have e9 := out_r e5
      rw [Option.some.inj e23] at e9
      rw [e9]
      obtain ⟨o1, o2, o3, -⟩ := out_f (S := Z) (a := cq) (b := v)
      exact rnG_O (rnG_out GZ) (by rw [o2]; exact cc) (by rw [o3]; exact hv)
    rcases em with ⟨cd, m1, m2, m3⟩ | ⟨m1, m3⟩
    · have tc : (Int32.ofNat cd).toInt = (cd : Int) := Int32.toInt_ofNat_of_lt (by omega)
      rw [m3] at e23
      rcases iv_if e23 with ⟨c2, e23⟩ | ⟨c2, e23⟩
      · have ec2 : cd = 2 := by
          have := congrArg Int32.toInt c2
          rw [tc, show (2 : Int32).toInt = 2 by decide] at this
          omega
        exact fin 0 (Or.inl ⟨0, Or.inl ⟨rfl, Or.inr (ec2 ▸ m1)⟩, by omega, rfl⟩) e23
      · have nc2 : ¬ cd = 2 := fun z => c2 (by rw [z]; rfl)
        rcases iv_if e23 with ⟨c3, e23⟩ | ⟨c3, e23⟩
        · have c3 := i_lt.mp c3
          rw [tc, show (2 : Int32).toInt = 2 by decide] at c3
          have es : Int32.ofNat cd - 1 = Int32.ofNat (cd - 1) := by
            rw [i_eq, i_subS (by rw [tc, il_1]; omega), tc, il_1, Int32.toInt_ofNat_of_lt (by omega)]
            omega
          rw [es] at e23
          refine fin _ (Or.inl ⟨cd - 1, Or.inr (Or.inr ⟨by omega, ?_⟩), by omega, rfl⟩) e23
          rw [show cd - 1 + 1 = cd by omega]; exact m1
        · have c3 : ¬ (2 : Int) < (cd : Int) := fun z => c3 (i_lt.mpr (by rw [tc, show (2 : Int32).toInt = 2 by decide]; exact z))
          refine fin _ (Or.inl ⟨cd, ?_, by omega, rfl⟩) e23
          have : cd = 0 ∨ cd = 1 := by omega
          rcases this with z | z
          · exact Or.inl ⟨z, Or.inl (z ▸ m1)⟩
          · exact Or.inr (Or.inl ⟨z, z ▸ m1⟩)
    · rw [m3, if_neg (by decide), if_neg (by decide)] at e23
      refine fin _ (Or.inr ⟨fun c z => ?_, rfl⟩) e23
      rcases z with ⟨-, z | z⟩ | ⟨-, z⟩ | ⟨-, z⟩ <;> exact m1 _ z
/-- present -/
theorem rn_pres (hm : m ≤ 1000) (h3 : ∀ i, v3 (M.2.1 70 i)) (W : pcW names kk ff ss xx m) (h : sfT M kk ff xx m (.binary x A B) V k up w t a c E) (k3 : (lT x).1 = 3) (hTA : rnT M A V (k + 1) w.toNat) (hTB : rnT M B V (k + 1 + tsz A) w.toNat) : rnT M (.binary x A B) V k w.toNat := by
  intro d S q ρ md s p2 p3 hP hq
  obtain ⟨hA, hB⟩ := sfT_bi hm h
  have rT := sfT_p h
  have rA := sfT_p hA
  have rB := sfT_p hB
  have n1 : ¬ (lT x).1 = 1 := by rw [k3]; decide
  have ep : pas (.binary x A B) = pas A + pas B := by
    show (if (lT x).1 = 1 then (1 : Int) else 0) + (pas A + pas B) = _
    rw [if_neg n1]; omega
  have a0 := tsm_0 (fun V e h => pO_b hm h) A _ h.1.2.1
  have a1 := tsm_0 (fun V e h => pO_b hm h) B _ h.1.2.2
  have hb := h.2.2.2.2.1
  have hsz : k + (1 + tsz A + tsz B) ≤ 1200 := hb.1
  have hl := h.2.2.2.2.2.2.2.2.2.1
  have hV := h.2.2.2.2.2.2.2.2.2.2
  have row := h.2.1.1
  have tk : (Int32.ofNat k).toInt.toNat = k := by rw [Int32.toInt_ofNat_of_lt (by omega)]; omega
  obtain ⟨hF, hv, hmd, hs, h78⟩ := hP
  have lA : ∀ j, lcI A j → lcI (.binary x A B) j := fun j ⟨y, hy, e⟩ => ⟨y, List.mem_append_left _ hy, e⟩
  have lB : ∀ j, lcI B j → lcI (.binary x A B) j := fun j ⟨y, hy, e⟩ => ⟨y, List.mem_append_right _ hy, e⟩
  have e51 : S.2.1 51 k = 3 := by rw [hF.2 51 (by omega)]; exact row.1.1.trans k3
  have e52 : ∀ X, rnF M X → X.2.1 52 k = Int32.ofNat (k + 1) := fun X hX => by rw [hX.2 52 (by omega)]; exact row.1.2.1
  have e53 : ∀ X, rnF M X → X.2.1 53 k = Int32.ofNat (k + 1 + tsz A) := fun X hX => by rw [hX.2 53 (by omega)]; exact row.1.2.2.1
  have nA := fun (ρ : Nat → Nat) (md : Option Nat) (s : Prop) (p : Nat) (z : zN (zv M.2.1 (tvQ M.2.1 (siM M)) (siM M) (hsM M) (seM M) A (k + 1) ρ md s) p) => (by have := N_in hm A _ _ _ _ _ _ _ _ _ _ _ hA p z; rw [rA.1, rA.2]; exact this : pfQ M.2.1 (k + 1) ≤ p ∧ p < ptQ M.2.1 (k + 1))
  have nB := fun (ρ : Nat → Nat) (md : Option Nat) (s : Prop) (p : Nat) (z : zN (zv M.2.1 (tvQ M.2.1 (siM M)) (siM M) (hsM M) (seM M) B (k + 1 + tsz A) ρ md s) p) => (by have := N_in hm B _ _ _ _ _ _ _ _ _ _ _ hB p z; rw [rB.1, rB.2]; exact this : pfQ M.2.1 (k + 1 + tsz A) ≤ p ∧ p < ptQ M.2.1 (k + 1 + tsz A))
  have hrA : pfQ M.2.1 k ≤ pfQ M.2.1 (k + 1) ∧ ptQ M.2.1 (k + 1) ≤ ptQ M.2.1 k := by rw [rT.1, rT.2, rA.1, rA.2, ep]; omega
  have hrB : pfQ M.2.1 k ≤ pfQ M.2.1 (k + 1 + tsz A) ∧ ptQ M.2.1 (k + 1 + tsz A) ≤ ptQ M.2.1 k := by rw [rT.1, rT.2, rB.1, rB.2, ep]; omega
  obtain ⟨d', -, hq⟩ := rn_d (by omega) e51 (by decide) hq
  delta mm_run_L108 at hq
  obtain ⟨-, -, hq⟩ := iv_ix hq
  rw [tk] at hq
  delta dc_let at hq
  dsimp only at hq
  rw [e51, if_neg (by decide), if_neg (by decide), if_neg (by decide), if_pos rfl] at hq
  obtain ⟨q10, e10, hq⟩ := iv_bind hq
  have hq : some q10 = some q := hq
  rw [← Option.some.inj hq]
  clear hq
  cases d' with
  | zero =>
    have e10 : none = some q10 := e10
    cases e10
  | succ d' =>
    have e10 : mm_present_IZZ (mm_P3 d') S (Int32.ofNat k) p2 p3 = some q10 := e10
    delta mm_present_IZZ at e10
    unfold zv
    rw [if_pos k3]
    cases md with
    | none =>
      have hmd : p2 = 0 := hmd
      rw [if_pos hmd] at e10
      obtain ⟨-, -, e10⟩ := iv_ix e10
      rw [tk, e52 S hF] at e10
      obtain ⟨hh, eh, e10⟩ := iv_bind e10
      have bh := has_r hF (by omega) eh
      have sub : ∀ (y : Nat), mm_present_IZZ_L33 (mm_P3 d') S p3 (Int32.ofNat y) = some q10 → (mm_P3 d').1 S (Int32.ofNat y) 0 p3 = some q10 := by
        intro y e
        delta mm_present_IZZ_L33 at e
        obtain ⟨q2, e2, e⟩ := iv_bind e
        rw [Option.some.inj e] at e2
        exact e2
      rcases iv_if e10 with ⟨c0, e10⟩ | ⟨c0, e10⟩
      · obtain ⟨-, -, e10⟩ := iv_ix e10
        rw [tk, e53 S hF] at e10
        have nh : ¬ hsM M (k + 1) := bh.elim (fun z => absurd (z.2.symm.trans c0) (by decide)) (fun z => z.1)
        have ro := hTB d' S q10 ρ none s 0 p3 ⟨hF, hv, rfl, hs, h78⟩ (sub _ e10)
        refine rnG_O (rnG_Sr (rnO_G ro) nh nh (nB _ _ _) hrB lB) ?_ ?_
        · exact cB_congr ro.2.1.1 (fun c => ⟨fun z => Or.inr ⟨nh, z⟩, fun z => z.elim (fun z => absurd z.1 nh) (fun z => z.2)⟩)
        · exact mB_cg ro.2.1.2 (fun c => ⟨fun z => Or.inr ⟨nh, z⟩, fun z => z.elim (fun z => absurd z.1 nh) (fun z => z.2)⟩)
      · obtain ⟨-, -, e10⟩ := iv_ix e10
        rw [tk, e52 S hF] at e10
        have yh : hsM M (k + 1) := bh.elim (fun z => z.1) (fun z => absurd z.2 c0)
        have ro := hTA d' S q10 ρ none s 0 p3 ⟨hF, hv, rfl, hs, h78⟩ (sub _ e10)
        refine rnG_O (rnG_Sl (rnO_G ro) yh (fun z => z yh) (nA _ _ _) hrA lA) ?_ ?_
        · exact cB_congr ro.2.1.1 (fun c => ⟨fun z => Or.inl ⟨yh, z⟩, fun z => z.elim (fun z => z.2) (fun z => absurd yh z.1)⟩)
        · exact mB_cg ro.2.1.2 (fun c => ⟨fun z => Or.inl ⟨yh, z⟩, fun z => z.elim (fun z => z.2) (fun z => absurd yh z.1)⟩)
    | some d0 =>
      obtain ⟨m1, m2, m3⟩ : p2 = 1 ∧ S.1 79 = Int32.ofNat (d0 + 1) ∧ d0 ≤ w.toNat := hmd
      rw [if_neg (by rw [m1]; decide)] at e10
      obtain ⟨-, -, e10⟩ := iv_ix e10
      rw [tk, hF.2 54 (by omega)] at e10
      obtain ⟨q8, e8, e10⟩ := iv_bind e10
      have tst : pOk kk ff xx 0 (m : Int) V (lT x).2.2.2.2.2 := by
        rcases h.1.1.1 with ⟨-, z⟩ | ⟨z | z, -⟩
        · exact z
        all_goals (rw [k3] at z; exact absurd z (by decide))
      have hts : c + (txx xx (lT x).2.2.2.2.2 + (tsm xx A + tsm xx B)) ≤ 1000 := hb.2.2.1
      obtain ⟨tv, f67⟩ := tst_r W row tst hb.2.1 (by omega) hF hv e8
      rw [tv] at e10
      have h3v : v3 (tvQ M.2.1 (siM M) ρ (M.2.1 54 k)) := tvF_3 (fun s => h3 _) _ _
      generalize tvQ M.2.1 (siM M) ρ (M.2.1 54 k) = v at *
      have F8 := rnF_tr hF (rnF_67 f67)
      have hv8 : ∀ y, V y → q8.1.2.1 73 y.toInt.toNat = Int32.ofNat (ρ y.toInt.toNat) ∧ ρ y.toInt.toNat < 1662 := fun y hy => by rw [f67.2.2 73 (by omega)]; exact hv y hy
      have m8 : q8.1.1 79 = Int32.ofNat (d0 + 1) := by rw [f67.1]; exact m2
      have h88 : q8.1.1 78 = 0 ∨ q8.1.1 78 = 1 := by rw [f67.1]; exact h78
      -- a run behind the test counts from its start
      have frm : ∀ {Z : md_S} {lc : Nat → Prop} {lo hi : Nat} {e : zvT}, rnG q8.1 Z lc lo hi e → rnG S Z lc lo hi e := by
        rintro Z lc lo hi e ⟨⟨g1, g2⟩, g3, g4, g5, g6, g7, g8⟩
        rw [f67.2.2 72 (by omega)] at g3
        rw [f67.2.2 71 (by omega)] at g4
        rw [f67.2.2 73 (by omega)] at g5
        rw [f67.2.2 75 (by omega)] at g7 g8
        rw [f67.1] at g2 g6
        exact ⟨⟨rnF_tr (rnF_67 f67) g1, g2⟩, g3, g4, g5, g6, g7, g8⟩
      have sub : ∀ (y : Nat), mm_present_IZZ_L79 (mm_P3 d') q8.1 p3 (Int32.ofNat y) = some q10 → (mm_P3 d').1 q8.1 (Int32.ofNat y) 1 p3 = some q10 := by
        intro y e
        delta mm_present_IZZ_L79 at e
        obtain ⟨q2, e2, e⟩ := iv_bind e
        rw [Option.some.inj e] at e2
        exact e2
      rcases iv_if e10 with ⟨c2, e10⟩ | ⟨c2, e10⟩
      · -- unknown
        have n0 : ¬ v = 0 := by rw [c2]; decide
        have n1 : ¬ v = 1 := by rw [c2]; decide
        have s1 : (s ∧ v = 1) = False := eq_false (fun z => n1 z.2)
        have s0 : (s ∧ v = 0) = False := eq_false (fun z => n0 z.2)
        obtain ⟨-, -, e10⟩ := iv_ix e10
        rw [tk, e52 _ F8] at e10
        obtain ⟨qa, ea, e10⟩ := iv_bind e10
        delta dc_let at e10
        dsimp only at e10
        have ra := hTA d' q8.1 qa ρ (some d0) False 1 0 ⟨F8, hv8, ⟨rfl, m8, m3⟩, Or.inr ⟨id, rfl⟩, h88⟩ ea
        have Ga := rnO_G ra
        have Fa := rnF_tr F8 Ga.1.1
        obtain ⟨-, -, e10⟩ := iv_ix e10
        rw [tk, e53 _ Fa] at e10
        obtain ⟨qb, eb, e10⟩ := iv_bind e10
        have hva := sc_k Ga hA.2.2.2.2.2.2.2.2.2.2 hA.2.2.2.2.2.2.2.2.2.1 hv8
        have rb := hTB d' qa qb ρ (some d0) False 1 0 ⟨Fa, hva, ⟨rfl, by rw [Ga.1.2]; exact m8, m3⟩, Or.inr ⟨id, rfl⟩, g78 Ga h88⟩ eb
        obtain ⟨q14, e14, e10⟩ := iv_bind e10
        have e9 := out_r e14
        rw [Option.some.inj e10] at e9
        rw [e9, s1, s0]
        obtain ⟨o1, o2, o3, -⟩ := out_f (S := qb) (a := qa.1 81 ||| qb.1 81) (b := -1)
        have okA := zv_ok (Q := M.2.1) (tv := tvQ M.2.1 (siM M)) (σ := siM M) (hs := hsM M) (sel := seM M) A (k + 1) ρ (some d0) False
        have okB := zv_ok (Q := M.2.1) (tv := tvQ M.2.1 (siM M)) (σ := siM M) (hs := hsM M) (sel := seM M) B (k + 1 + tsz A) ρ (some d0) False
        refine rnG_O (rnG_out (frm (rnG_S2 Ga (rnO_G rb) n0 n1 okA okB ⟨hrA, hrB⟩ (fun j z => z.elim (lA j) (lB j))))) ?_ ?_
        · rw [o2]
          exact cB_congr (cB_or ra.2.1.1 rb.2.1.1) (fun c => ⟨fun z => z.imp (fun z => ⟨n0, z⟩) (fun z => ⟨n1, z⟩), fun z => z.imp (fun z => z.2) (fun z => z.2)⟩)
        · rw [o3]
          exact Or.inr ⟨fun c z => z.elim (fun z => okA.1 c z.2) (fun z => okB.1 c z.2), rfl⟩
      · rcases iv_if e10 with ⟨c1, e10⟩ | ⟨c1, e10⟩
        · have n0 : ¬ v = 0 := by rw [c1]; decide
          have nq : ¬ ¬ v = 1 := fun z => z c1
          have se : (s ∧ v = 1) = s := propext ⟨fun z => z.1, fun z => ⟨z, c1⟩⟩
          obtain ⟨-, -, e10⟩ := iv_ix e10
          rw [tk, e52 _ F8] at e10
          have ro := hTA d' q8.1 q10 ρ (some d0) s 1 p3 ⟨F8, hv8, ⟨rfl, m8, m3⟩, hs, h88⟩ (sub _ e10)
          rw [se]
          refine rnG_O (rnG_Sl (frm (rnO_G ro)) n0 nq (nA _ _ _) hrA lA) ?_ ?_
          · exact cB_congr ro.2.1.1 (fun c => ⟨fun z => Or.inl ⟨n0, z⟩, fun z => z.elim (fun z => z.2) (fun z => absurd c1 z.1)⟩)
          · exact mB_cg ro.2.1.2 (fun c => ⟨fun z => Or.inl ⟨n0, z⟩, fun z => z.elim (fun z => z.2) (fun z => absurd c1 z.1)⟩)
        · obtain ⟨-, -, e10⟩ := iv_ix e10
          rw [tk, e53 _ F8] at e10
          have v0 : v = 0 := by
            rcases h3v with z | z | z
            · exact z
            · exact absurd z c1
            · exact absurd z c2
          have np : ¬ ¬ v = 0 := fun z => z v0
          have se : (s ∧ v = 0) = s := propext ⟨fun z => z.1, fun z => ⟨z, v0⟩⟩
          have ro := hTB d' q8.1 q10 ρ (some d0) s 1 p3 ⟨F8, hv8, ⟨rfl, m8, m3⟩, hs, h88⟩ (sub _ e10)
          rw [se]
          refine rnG_O (rnG_Sr (frm (rnO_G ro)) np c1 (nB _ _ _) hrB lB) ?_ ?_
          · exact cB_congr ro.2.1.1 (fun c => ⟨fun z => Or.inr ⟨c1, z⟩, fun z => z.elim (fun z => absurd v0 z.1) (fun z => z.2)⟩)
          · exact mB_cg ro.2.1.2 (fun c => ⟨fun z => Or.inr ⟨c1, z⟩, fun z => z.elim (fun z => absurd v0 z.1) (fun z => z.2)⟩)
/-- pauses that stay -/
theorem cp_r {q8 Z : md_S} {lo hi : Nat} {p3 : Int32} (hF : rnF M q8) (hk : k < 1200) (e1 : M.2.1 62 k = Int32.ofNat lo) (e2 : M.2.1 62 (M.2.1 59 k).toInt.toNat = Int32.ofNat hi) (hb : lo ≤ hi ∧ hi ≤ 200) {T3 : mm_T3} (hq : dc_it (mm_suspended_s83 T3 (Int32.ofNat k) p3) (q8, Int32.ofNat lo) = some Z) : Z.1 = q8.1 ∧ (∀ i, ¬ i = 75 → Z.2.1 i = q8.2.1 i) ∧ (¬ p3 = 0 → ∀ p, (lo ≤ p ∧ p < hi → Z.2.1 75 p = M.2.1 74 p ∧ (M.2.1 74 p = 0 ∨ M.2.1 74 p = 1)) ∧ (¬ (lo ≤ p ∧ p < hi) → Z.2.1 75 p = q8.2.1 75 p)) ∧ (p3 = 0 → Z.2.1 75 = q8.2.1 75) := by
  have tk : (Int32.ofNat k).toInt.toNat = k := by rw [Int32.toInt_ofNat_of_lt (by omega)]; omega
  have th : (Int32.ofNat hi).toInt = (hi : Int) := Int32.toInt_ofNat_of_lt (by omega)
  have key : dc_pw ((dc_it (mm_suspended_s83 T3 (Int32.ofNat k) p3) (q8, Int32.ofNat lo)).bind some) (fun Z => Z.1 = q8.1 ∧ (∀ i, ¬ i = 75 → Z.2.1 i = q8.2.1 i) ∧ (¬ p3 = 0 → ∀ p, (lo ≤ p ∧ p < hi → Z.2.1 75 p = M.2.1 74 p ∧ (M.2.1 74 p = 0 ∨ M.2.1 74 p = 1)) ∧ (¬ (lo ≤ p ∧ p < hi) → Z.2.1 75 p = q8.2.1 75 p)) ∧ (p3 = 0 → Z.2.1 75 = q8.2.1 75)) := by
    refine pw_loop (fun (y : md_S × Int32) => ∃ j, y.2 = Int32.ofNat j ∧ lo ≤ j ∧ j ≤ hi ∧ y.1.1 = q8.1 ∧ (∀ i, ¬ i = 75 → y.1.2.1 i = q8.2.1 i) ∧ (∀ p, (lo ≤ p ∧ p < j → y.1.2.1 75 p = M.2.1 74 p ∧ (M.2.1 74 p = 0 ∨ M.2.1 74 p = 1)) ∧ (¬ (lo ≤ p ∧ p < j) → y.1.2.1 75 p = q8.2.1 75 p)) ∧ (p3 = 0 → y.1.2.1 75 = q8.2.1 75)) (fun Z => Z.1 = q8.1 ∧ (∀ i, ¬ i = 75 → Z.2.1 i = q8.2.1 i) ∧ (¬ p3 = 0 → ∀ p, (lo ≤ p ∧ p < hi → Z.2.1 75 p = M.2.1 74 p ∧ (M.2.1 74 p = 0 ∨ M.2.1 74 p = 1)) ∧ (¬ (lo ≤ p ∧ p < hi) → Z.2.1 75 p = q8.2.1 75 p)) ∧ (p3 = 0 → Z.2.1 75 = q8.2.1 75)) ⟨lo, rfl, Nat.le_refl _, hb.1, rfl, fun _ _ => rfl, fun p => ⟨fun z => by omega, fun _ => rfl⟩, fun _ => rfl⟩ ?_ (fun Z h => pw_some h)
    rintro ⟨Y, v⟩ ⟨j, ev, j1, j2, f1, f2, f3, f4⟩
    have ev : v = Int32.ofNat j := ev
    have f1 : Y.1 = q8.1 := f1
    have f2 : ∀ i, ¬ i = 75 → Y.2.1 i = q8.2.1 i := f2
    subst ev
    have tj : (Int32.ofNat j).toInt = (j : Int) := Int32.toInt_ofNat_of_lt (by omega)
    have tjn : (Int32.ofNat j).toInt.toNat = j := by omega
    show dc_pw (mm_suspended_b83 T3 Y (Int32.ofNat k) p3 (Int32.ofNat j)) _
    delta mm_suspended_b83
    refine pw_ix (fun _ _ => ?_)
    rw [tk]
    refine pw_ix (fun _ _ => ?_)
    rw [f2 59 (by omega), f2 62 (by omega), hF.2 59 (by omega), hF.2 62 (by omega), e2]
    refine pw_ifc (fun c => ?_) (fun c => ?_)
    · have c := i_lt.mp c
      rw [tj, th] at c
      refine pw_ifc (fun c2 => ?_) (fun c2 => ?_)
      · exact pw_some ⟨f1, f2, fun z => absurd c2 z, f4⟩
      · refine pw_ix (fun _ _ => ?_)
        rw [tjn, f2 74 (by omega), hF.2 74 (by omega)]
        intro r hr
        obtain ⟨_, ezb, hr⟩ := iv_bind hr
        obtain ⟨-, -, hr⟩ := iv_ix hr
        rw [tjn] at hr
        have hr : some (Sum.inl (md_a Y 75 j (M.2.1 74 j), Int32.ofNat j + 1)) = some r := hr
        rw [← Option.some.inj hr]
        have bz : M.2.1 74 j = 0 ∨ M.2.1 74 j = 1 := by
          delta dc_zb at ezb
          by_cases z : M.2.1 74 j = 0 ∨ M.2.1 74 j = 1
          · exact z
          · rw [if_neg z] at ezb
            cases ezb
        refine ⟨j + 1, ad_m (by omega), by omega, by omega, f1, fun i hi => by show (md_a Y 75 j (M.2.1 74 j)).2.1 i = _; rw [md_a2, if_neg hi]; exact f2 i hi, fun p => ⟨fun z => ?_, fun z => ?_⟩, fun z => absurd z c2⟩
        · show (md_a Y 75 j (M.2.1 74 j)).2.1 75 p = _ ∧ _
          rw [md_a2, if_pos rfl]
          by_cases e : p = j
          · rw [e, upd_s]; exact ⟨rfl, bz⟩
          · rw [upd_n e]; exact (f3 p).1 (by omega)
        · show (md_a Y 75 j (M.2.1 74 j)).2.1 75 p = _
          rw [md_a2, if_pos rfl, upd_n (by omega)]
          exact (f3 p).2 (by omega)
    · have c : ¬ (j : Int) < (hi : Int) := fun z => c (i_lt.mpr (by rw [tj, th]; exact z))
      have ej : j = hi := by omega
      subst ej
      exact pw_some ⟨f1, f2, fun _ => f3, f4⟩
  exact key Z (by rw [hq]; rfl)
/-- suspend -/
theorem rn_susp (hm : m ≤ 1000) (h3 : ∀ i, v3 (M.2.1 70 i)) (W : pcW names kk ff ss xx m) (h : sfT M kk ff xx m (.unary x A) V k up w t a c E) (k4 : (lT x).1 = 4) (hT : rnT M A V (k + 1) w.toNat) : rnT M (.unary x A) V k w.toNat := by
  intro d S q ρ md s p2 p3 hP hq
  have rg := rg_un hm h
  have nn := fun (s : Prop) (md : Option Nat) => n_un hm h (tv := tvQ M.2.1 (siM M)) (σ := siM M) (hs := hsM M) (sel := seM M) (ρ := ρ) (md := md) (s := s)
  obtain ⟨⟨r62, r62'⟩, rb1, rb2⟩ := rg_b hm h
  have hb := h.2.2.2.2.1
  have hsz : k + (1 + tsz A) ≤ 1200 := hb.1
  have row := h.2.1.1
  have tk : (Int32.ofNat k).toInt.toNat = k := by rw [Int32.toInt_ofNat_of_lt (by omega)]; omega
  obtain ⟨hF, hv, hmd, hs, h78⟩ := hP
  have lce : lcI (.unary x A) = lcI A := by unfold lcI; rw [lc_un (by rw [k4]; decide)]
  have e51 : S.2.1 51 k = 4 := by rw [hF.2 51 (by omega)]; exact row.1.1.trans k4
  have e52 : ∀ X, rnF M X → X.2.1 52 k = Int32.ofNat (k + 1) := fun X hX => by rw [hX.2 52 (by omega)]; exact row.1.2.1
  obtain ⟨d', -, hq⟩ := rn_d (by omega) e51 (by decide) hq
  delta mm_run_L108 at hq
  obtain ⟨-, -, hq⟩ := iv_ix hq
  rw [tk] at hq
  delta dc_let at hq
  dsimp only at hq
  rw [e51, if_neg (by decide), if_neg (by decide), if_neg (by decide), if_neg (by decide), if_pos rfl] at hq
  obtain ⟨q12, e12, hq⟩ := iv_bind hq
  have hq : some q12 = some q := hq
  rw [← Option.some.inj hq]
  clear hq
  cases d' with
  | zero =>
    have e12 : none = some q12 := e12
    cases e12
  | succ d' =>
    have e12 : mm_suspended (mm_P3 d') S (Int32.ofNat k) p2 p3 = some q12 := e12
    delta mm_suspended at e12
    unfold zv
    rw [if_pos k4]
    cases md with
    | some d0 =>
      obtain ⟨m1, m2, m3⟩ : p2 = 1 ∧ S.1 79 = Int32.ofNat (d0 + 1) ∧ d0 ≤ w.toNat := hmd
      rw [if_neg (by rw [m1]; decide)] at e12
      have fin : ∀ v : Int32, bB v s → mm_suspended_L48 (mm_P3 d') S (Int32.ofNat k) p3 0 v p2 (Int32.ofNat (k + 1)) = some q12 → rnO M S q12 (.unary x A) k (zv M.2.1 (tvQ M.2.1 (siM M)) (siM M) (hsM M) (seM M) A (k + 1) ρ (some d0) s) := by
        intro v hv' e
        delta mm_suspended_L48 at e
        obtain ⟨q11, e11, e⟩ := iv_bind e
        delta mm_suspended_L51 at e
        rw [if_neg (by decide)] at e
        delta mm_suspended_L68 at e
        rw [if_neg (by decide)] at e
        rw [← Option.some.inj e]
        have ro := hT d' S q11 ρ (some d0) s p2 v ⟨hF, hv, ⟨m1, m2, m3⟩, hv', h78⟩ e11
        have G := rnO_G ro
        rw [rg.1, rg.2, ← lce] at G
        exact rnG_O G ro.2.1.1 ro.2.1.2
      delta mm_suspended_L18 at e12
      rw [if_neg (by decide)] at e12
      obtain ⟨-, -, e12⟩ := iv_ix e12
      rw [tk, e52 S hF] at e12
      rcases iv_if e12 with ⟨c0, e12⟩ | ⟨c0, e12⟩
      · exact fin 0 (hs.elim (fun z => absurd (z.2.symm.trans c0) (by decide)) (fun z => Or.inr ⟨z.1, rfl⟩)) e12
      · rw [if_pos rfl] at e12
        exact fin 1 (hs.elim (fun z => Or.inl ⟨z.1, rfl⟩) (fun z => absurd z.2 c0)) e12
    | none =>
      have hmd : p2 = 0 := hmd
      rw [if_pos hmd] at e12
      obtain ⟨-, -, e12⟩ := iv_ix e12
      rw [tk, hF.2 54 (by omega)] at e12
      obtain ⟨q14, e14, e12⟩ := iv_bind e12
      have tst : pOk kk ff xx 0 (m : Int) V (lT x).2.2.2.2.2 := by
        rcases h.1.1.1 with ⟨-, z⟩ | ⟨z | z | z, -⟩
        · exact z
        all_goals (rw [k4] at z; exact absurd z (by decide))
      have hts : c + (txx xx (lT x).2.2.2.2.2 + tsm xx A) ≤ 1000 := hb.2.2.1
      have a0 := tsm_0 (fun V e h => pO_b hm h) A _ h.1.2
      obtain ⟨tv, f67⟩ := tst_r W row tst hb.2.1 (by omega) hF hv e14
      rw [tv] at e12
      have h3v : v3 (tvQ M.2.1 (siM M) ρ (M.2.1 54 k)) := tvF_3 (fun s => h3 _) _ _
      dsimp only
      generalize tvQ M.2.1 (siM M) ρ (M.2.1 54 k) = v at *
      have F8 := rnF_tr hF (rnF_67 f67)
      have hv8 : ∀ y, V y → q14.1.2.1 73 y.toInt.toNat = Int32.ofNat (ρ y.toInt.toNat) ∧ ρ y.toInt.toNat < 1662 := fun y hy => by rw [f67.2.2 73 (by omega)]; exact hv y hy
      have h88 : q14.1.1 78 = 0 ∨ q14.1.1 78 = 1 := by rw [f67.1]; exact h78
      have frm : ∀ {Z : md_S} {lc : Nat → Prop} {lo hi : Nat} {e : zvT}, rnG q14.1 Z lc lo hi e → rnG S Z lc lo hi e := by
        rintro Z lc lo hi e ⟨⟨g1, g2⟩, g3, g4, g5, g6, g7, g8⟩
        rw [f67.2.2 72 (by omega)] at g3
        rw [f67.2.2 71 (by omega)] at g4
        rw [f67.2.2 73 (by omega)] at g5
        rw [f67.2.2 75 (by omega)] at g7 g8
        rw [f67.1] at g2 g6
        exact ⟨⟨rnF_tr (rnF_67 f67) g1, g2⟩, g3, g4, g5, g6, g7, g8⟩
      delta mm_suspended_L18 at e12
      rcases iv_if e12 with ⟨c1, e12⟩ | ⟨c1, e12⟩
      · -- it stays
        have np : ¬ ¬ v = 1 := fun z => z c1
        have n0 : ¬ v = 0 := by rw [c1]; decide
        rw [c1] at e12
        delta mm_suspended_L51 at e12
        rw [if_neg (by decide)] at e12
        delta mm_suspended_L68 at e12
        rw [if_pos rfl] at e12
        obtain ⟨-, -, e12⟩ := iv_ix e12
        rw [tk] at e12
        have e12 : mm_suspended_L83 (mm_P3 d') q14.1 (Int32.ofNat k) p3 (q14.1.2.1 62 k) = some q12 := e12
        rw [F8.2 62 (by omega), r62] at e12
        delta mm_suspended_L83 at e12
        obtain ⟨Z, eZ, e12⟩ := iv_bind e12
        obtain ⟨z1, z2, z3, z4⟩ := cp_r F8 (by omega) r62 r62' ⟨rb1, rb2⟩ eZ
        have e12 : mm_suspended_L123 (mm_P3 d') Z p3 = some q12 := e12
        have GZ : rnG q14.1 Z (lcI (.unary x A)) (pfQ M.2.1 k) (ptQ M.2.1 k) (zP (fun p => pfQ M.2.1 k ≤ p ∧ p < ptQ M.2.1 k ∧ seM M p) (s ∧ v = 1)) := by
          refine ⟨⟨⟨fun i _ => by rw [z1], fun i hi => z2 i (by omega)⟩, by rw [z1]⟩, fun i => ⟨fun z => z.elim, fun _ => by rw [z2 72 (by omega)]⟩, fun i => ⟨fun z => z.elim, fun _ => by rw [z2 71 (by omega)]⟩, fun j _ => by rw [z2 73 (by omega)], ⟨fun z => z.elim, fun _ => by rw [z1]⟩, fun p hp => ?_, fun ⟨c, hM⟩ h0 p p1 p2 => ?_⟩
          · by_cases c0 : p3 = 0
            · rw [z4 c0]
            · exact ((z3 c0) p).2 hp
          · have n3 : ¬ p3 = 0 := hs.elim (fun z => by rw [z.2]; decide) (fun z => absurd hM.1.1 z.1)
            obtain ⟨y1, y2⟩ := ((z3 n3) p).1 ⟨p1, p2⟩
            refine ⟨fun z => ?_, fun z => ?_⟩
            · rw [y1]; exact y2.resolve_left z.2.2.2
            · rw [y1]
              rcases y2 with y | y
              · exact y
              · exact absurd ⟨hM.1, p1, p2, show ¬ M.2.1 74 p = 0 by rw [y]; decide⟩ z
        have fin : ∀ y : Int32, mB y (fun d => (s ∧ v = 1) ∧ d = 1) → mm_suspended_L134 (mm_P3 d') Z y 2 = some q12 → rnO M S q12 (.unary x A) k (zSl (¬ v = 1) (¬ v = 0) (zv M.2.1 (tvQ M.2.1 (siM M)) (siM M) (hsM M) (seM M) A (k + 1) ρ none (s ∧ v = 0)) (zP (fun p => pfQ M.2.1 k ≤ p ∧ p < ptQ M.2.1 k ∧ seM M p) (s ∧ v = 1))) := by
          intro y hy e
          delta mm_suspended_L134 at e
          obtain ⟨q5, e5, e⟩ := iv_bind e
          have e9 := out_r e5
          rw [Option.some.inj e] at e9
          rw [e9]
          obtain ⟨o1, o2, o3, -⟩ := out_f (S := Z) (a := 2) (b := y)
          refine rnG_O (rnG_out (frm (rnG_Sr GZ np n0 (fun p z => ⟨z.2.1, z.2.2.1⟩) ⟨Nat.le_refl _, Nat.le_refl _⟩ (fun _ z => z)))) ?_ ?_
          · rw [o2]
            exact cB_congr cB_2 (fun c => ⟨fun z => Or.inr ⟨n0, z⟩, fun z => z.elim (fun z => absurd z.1 np) (fun z => z.2)⟩)
          · rw [o3]
            exact mB_cg hy (fun c => ⟨fun z => Or.inr ⟨n0, z⟩, fun z => z.elim (fun z => absurd z.1 np) (fun z => z.2)⟩)
        delta mm_suspended_L123 at e12
        rcases iv_if e12 with ⟨c0, e12⟩ | ⟨c0, e12⟩
        · exact fin (-1) (mB_s (by omega) (Or.inr ⟨fun z => hs.elim (fun y => absurd (y.2.symm.trans c0) (by decide)) (fun y => y.1 z.1), rfl⟩)) e12
        · exact fin 1 (mB_s (by omega) (Or.inl ⟨⟨hs.elim (fun y => y.1) (fun y => absurd y.2 c0), c1⟩, rfl⟩)) e12
      · -- it goes on, or nobody knows
        obtain ⟨-, -, e12⟩ := iv_ix e12
        rw [tk, e52 _ F8] at e12
        have fin : ∀ u : Int32, bB u (s ∧ v = 0) → mm_suspended_L48 (mm_P3 d') q14.1 (Int32.ofNat k) p3 v u p2 (Int32.ofNat (k + 1)) = some q12 → rnO M S q12 (.unary x A) k (zSl (¬ v = 1) (¬ v = 0) (zv M.2.1 (tvQ M.2.1 (siM M)) (siM M) (hsM M) (seM M) A (k + 1) ρ none (s ∧ v = 0)) (zP (fun p => pfQ M.2.1 k ≤ p ∧ p < ptQ M.2.1 k ∧ seM M p) (s ∧ v = 1))) := by
          intro u hu e
          delta mm_suspended_L48 at e
          obtain ⟨q11, e11, e⟩ := iv_bind e
          have ro := hT d' q14.1 q11 ρ none (s ∧ v = 0) p2 u ⟨F8, hv8, hmd, hu, h88⟩ e11
          have G := rnO_G ro
          have n1 := nn (s ∧ v = 0) none
          rw [rg.1, rg.2] at G n1
          rw [← lce] at G
          delta mm_suspended_L51 at e
          rcases iv_if e with ⟨c2, e⟩ | ⟨c2, e⟩
          · have n0 : ¬ v = 0 := by rw [c2]; decide
            obtain ⟨q5, e5, e⟩ := iv_bind e
            delta mm_suspended_L68 at e
            rw [if_neg c1] at e
            have e9 := out_r e5
            rw [Option.some.inj e] at e9
            rw [e9]
            obtain ⟨o1, o2, o3, -⟩ := out_f (S := q11) (a := q11.1 81 ||| 2) (b := -1)
            have ok := zv_ok (Q := M.2.1) (tv := tvQ M.2.1 (siM M)) (σ := siM M) (hs := hsM M) (sel := seM M) A (k + 1) ρ none (s ∧ v = 0)
            refine rnG_O (rnG_out (frm ?_)) ?_ ?_
            · refine rnG_cg G (fun i => ⟨fun z => z.elim (fun z => z.2) (fun z => z.2.elim), fun z => Or.inl ⟨c1, z⟩⟩) (fun i => ⟨fun z => z.elim (fun z => z.2) (fun z => z.2.elim), fun z => Or.inl ⟨c1, z⟩⟩) ⟨fun z => z.elim (fun z => z.2) (fun z => z.2.elim), fun z => Or.inl ⟨c1, z⟩⟩ (fun _ z => z) ⟨Nat.le_refl _, Nat.le_refl _⟩ (fun ⟨c, z⟩ => z.elim (fun z => ⟨c, z.2⟩) (fun z => absurd z.2.1.2 c1)) (fun ⟨c, z⟩ => (z.elim (fun z => n0 (ok.1 c z.2).2) (fun z => c1 z.2.1.2)).elim) n1
            · rw [o2]
              exact cB_congr (cB_or ro.2.1.1 cB_2) (fun c => ⟨fun z => z.imp (fun z => ⟨c1, z⟩) (fun z => ⟨n0, z⟩), fun z => z.imp (fun z => z.2) (fun z => z.2)⟩)
            · rw [o3]
              exact Or.inr ⟨fun c z => z.elim (fun z => n0 (ok.1 c z.2).2) (fun z => c1 z.2.1.2), rfl⟩
          · have v0 : v = 0 := by
              rcases h3v with z | z | z
              · exact z
              · exact absurd z c1
              · exact absurd z c2
            delta mm_suspended_L68 at e
            rw [if_neg c1] at e
            rw [← Option.some.inj e]
            have nq : ¬ ¬ v = 0 := fun z => z v0
            refine rnG_O (frm (rnG_Sl G c1 nq n1 ⟨Nat.le_refl _, Nat.le_refl _⟩ (fun _ z => z))) ?_ ?_
            · exact cB_congr ro.2.1.1 (fun c => ⟨fun z => Or.inl ⟨c1, z⟩, fun z => z.elim (fun z => z.2) (fun z => absurd v0 z.1)⟩)
            · exact mB_cg ro.2.1.2 (fun c => ⟨fun z => Or.inl ⟨c1, z⟩, fun z => z.elim (fun z => z.2) (fun z => absurd v0 z.1)⟩)
        rcases iv_if e12 with ⟨c0, e12⟩ | ⟨c0, e12⟩
        · exact fin 0 (Or.inr ⟨fun z => hs.elim (fun y => absurd (y.2.symm.trans c0) (by decide)) (fun y => y.1 z.1), rfl⟩) e12
        · have s1 : s := hs.elim (fun y => y.1) (fun y => absurd y.2 c0)
          rcases iv_if e12 with ⟨c2, e12⟩ | ⟨c2, e12⟩
          · exact fin 1 (Or.inl ⟨⟨s1, c2⟩, rfl⟩) e12
          · exact fin 0 (Or.inr ⟨fun z => c2 z.2, rfl⟩) e12
end UN2
