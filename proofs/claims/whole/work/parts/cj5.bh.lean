/-! the reference's behind; codes -/
section BH0
variable {a b : zvT}
theorem mB_0 {x : Int32} {X : Nat → Prop} (h : mB x X) (hu : ∀ c d, X c → X d → c = d) : (x = 0 ↔ X 0) ∧ (x = 2 ↔ X 2) := by
  have key : ∀ j, j < 28 → (x = Int32.ofNat j ↔ X j) := by
    intro j hj
    rcases h with ⟨c, hc, h28, e⟩ | ⟨hn, e⟩
    · constructor
      · intro ex
        have : (Int32.ofNat c).toInt = (Int32.ofNat j).toInt := by rw [← e, ex]
        rw [Int32.toInt_ofNat_of_lt (by omega), Int32.toInt_ofNat_of_lt (by omega)] at this
        have : c = j := by omega
        rw [← this]; exact hc
      · intro z
        rw [e, hu c j hc z]
    · constructor
      · intro ex
        rw [e] at ex
        have : (-1 : Int32).toInt = (Int32.ofNat j).toInt := by rw [ex]
        rw [Int32.toInt_ofNat_of_lt (by omega), show (-1 : Int32).toInt = -1 by decide] at this
        omega
      · intro z
        exact absurd z (hn j)
  exact ⟨key 0 (by omega), key 2 (by omega)⟩
theorem zM_u {s : Prop} {e : zvT} (h : zOk s e) : ∀ c d, zM e c → zM e d → c = d := fun c d z y => (h.2.2.2.2.1 d y c).mp ((h.2.2.2.2.1 c z c).mpr rfl)
theorem cB_0 {x : Int32} {X : Nat → Prop} (h : cB x X) : (x &&& 1) = 0 ↔ ¬ X 0 := by
  rw [bit0]
  have this : gb x 0 = true ↔ X 0 := h.1 0
  constructor
  · intro z y
    have := this.mpr y
    rw [z] at this
    cases this
  · intro z
    cases e : gb x 0
    · rfl
    · exact absurd (this.mp e) z
/-- codes of a, then of b -/
theorem cB_th {x y : Int32} (ha : cB x (zC a)) (hb : cB y (zC b)) (h0 : zC a 0) : cB ((x &&& (-2)) ||| y) (zC (zTh a b)) := by
  have h := thN_b ha hb
  rw [if_neg (fun z => (cB_0 ha).mp z h0)] at h
  refine cB_congr h (fun k => ?_)
  show xTh (zC a) (zC b) k ↔ ((¬ k = 0 ∧ zC a k) ∨ (zC a 0 ∧ zC b k))
  unfold xTh
  constructor
  · rintro (⟨-, z | z⟩ | ⟨z, -⟩)
    · exact Or.inl z
    · exact Or.inr ⟨h0, z⟩
    · exact absurd h0 z
  · rintro (z | z)
    · exact Or.inl ⟨h0, Or.inl z⟩
    · exact Or.inl ⟨h0, Or.inr z.2⟩
theorem cB_t0 {x : Int32} (ha : cB x (zC a)) (h0 : ¬ zC a 0) : cB x (zC (zTh a b)) := cB_congr ha (fun k => ⟨fun z => Or.inl ⟨fun e => h0 (e ▸ z), z⟩, fun z => z.elim (fun z => z.2) (fun z => absurd z.1 h0)⟩)
theorem mB_cg {x : Int32} {X Y : Nat → Prop} (h : mB x X) (e : ∀ c, X c ↔ Y c) : mB x Y := by
  rcases h with ⟨c, h1, h2, h3⟩ | ⟨h1, h2⟩
  · exact Or.inl ⟨c, (e c).mp h1, h2, h3⟩
  · exact Or.inr ⟨fun c z => h1 c ((e c).mpr z), h2⟩
theorem mB_t0 {s : Prop} {x : Int32} (ha : mB x (zM a)) (oa : zOk s a) (h0 : ¬ zC a 0) : mB x (zM (zTh a b)) := mB_cg ha (fun c => by
  have n0 : ¬ zM a 0 := fun z => h0 ((oa.2.2.2.2.1 0 z 0).mpr rfl)
  exact ⟨fun z => Or.inr ⟨fun e => n0 (e ▸ z), z⟩, fun z => z.elim (fun z => absurd z.1 n0) (fun z => z.2)⟩)
theorem mB_th1 {s : Prop} {y : Int32} (hb : mB y (zM b)) (oa : zOk s a) (m0 : zM a 0) : mB y (zM (zTh a b)) := mB_cg hb (fun c => ⟨fun z => Or.inl ⟨m0, z⟩, fun z => z.elim (fun z => z.2) (fun z => absurd (zM_u oa c 0 z.2 m0) z.1)⟩)
theorem mB_th2 {s : Prop} {x : Int32} (ha : mB x (zM a)) (m0 : ¬ zM a 0) : mB x (zM (zTh a b)) := mB_cg ha (fun c => ⟨fun z => Or.inr ⟨fun e => m0 (e ▸ z), z⟩, fun z => z.elim (fun z => absurd z.1 m0) (fun z => z.2)⟩)
end BH0
section BH
variable {M : md_S}
theorem bh_r {B : tT} {V : Int32 → Prop} {k th wB : Nat} (hT : rnT M B V th wB) (hk : k < 1200) {S1 q : md_S} (hF : rnF M S1) {ρ : Nat → Nat} (hv : ∀ y, V y → S1.2.1 73 y.toInt.toNat = Int32.ofNat (ρ y.toInt.toNat) ∧ ρ y.toInt.toNat < 1662) {st sr : Int32} {d' : Nat} (hd : (st = 0 ∧ M.2.1 57 k = Int32.ofNat d' ∧ d' ≤ 2000) ∨ (st = 1 ∧ S1.1 79 = Int32.ofNat (d' + 1))) (hw : d' ≤ wB) {s : Prop} (hs : bB sr s) {a : zvT} (hc : cB (S1.1 81) (zC a)) (hm : mB (S1.1 80) (zM a)) (oa : zOk s a) (h78 : S1.1 78 = 0 ∨ S1.1 78 = 1) {d : Nat} (hq : (mm_P3 d).2.2.2.2.1 S1 (Int32.ofNat k) (Int32.ofNat th) st sr = some q) : (cB (q.1 81) (zC (zTh a (zv M.2.1 (tvQ M.2.1 (siM M)) (siM M) (hsM M) (seM M) B th ρ (some d') (zM a 0)))) ∧ mB (q.1 80) (zM (zTh a (zv M.2.1 (tvQ M.2.1 (siM M)) (siM M) (hsM M) (seM M) B th ρ (some d') (zM a 0))))) ∧ ((¬ zC a 0 ∧ q = S1) ∨ (zC a 0 ∧ rnG S1 q (lcI B) (pfQ M.2.1 th) (ptQ M.2.1 th) (zv M.2.1 (tvQ M.2.1 (siM M)) (siM M) (hsM M) (seM M) B th ρ (some d') (zM a 0)))) := by
  have tk : (Int32.ofNat k).toInt.toNat = k := by rw [Int32.toInt_ofNat_of_lt (by omega)]; omega
  cases d with
  | zero =>
    have hq : none = some q := hq
    cases hq
  | succ d =>
    have hq : mm_behind (mm_P3 d) S1 (Int32.ofNat k) (Int32.ofNat th) st sr = some q := hq
    delta mm_behind at hq
    by_cases h0 : zC a 0
    · rw [if_neg (fun z => (cB_0 hc).mp z h0)] at hq
      obtain ⟨u0, u2⟩ := mB_0 hm (zM_u oa)
      -- what run is asked behind
      have go : ∀ (y0 : Int32), bB y0 (zM a 0) → mm_behind_L31 (mm_P3 d) S1 (Int32.ofNat k) (Int32.ofNat th) st sr (S1.1 81 &&& (-2)) y0 = some q → (cB (q.1 81) (zC (zTh a (zv M.2.1 (tvQ M.2.1 (siM M)) (siM M) (hsM M) (seM M) B th ρ (some d') (zM a 0)))) ∧ mB (q.1 80) (zM (zTh a (zv M.2.1 (tvQ M.2.1 (siM M)) (siM M) (hsM M) (seM M) B th ρ (some d') (zM a 0))))) ∧ ((¬ zC a 0 ∧ q = S1) ∨ (zC a 0 ∧ rnG S1 q (lcI B) (pfQ M.2.1 th) (ptQ M.2.1 th) (zv M.2.1 (tvQ M.2.1 (siM M)) (siM M) (hsM M) (seM M) B th ρ (some d') (zM a 0)))) := by
        intro y0 hy hq
        have hq : mm_behind_L65 (mm_P3 d) S1 (Int32.ofNat th) sr (S1.1 81 &&& (-2)) y0 (S1.1 80) (S1.1 79) (Int32.ofNat (d' + 1)) = some q := by
          delta mm_behind_L31 at hq
          delta dc_let at hq
          dsimp only at hq
          rcases hd with ⟨c0, c1, c2⟩ | ⟨c0, c1⟩
          · rw [if_pos c0] at hq
            obtain ⟨-, -, hq⟩ := iv_ix hq
            rw [tk, hF.2 57 (by omega), c1] at hq
            have e : (1 : Int32) + Int32.ofNat d' = Int32.ofNat (d' + 1) := by
              rw [Int32.add_comm]
              exact ad_m (by omega)
            rw [e] at hq
            exact hq
          · rw [if_neg (by rw [c0]; decide), c1] at hq
            rw [c1]
            exact hq
        have f1 : ∀ i, ¬ i = 79 → (md_i S1 79 (Int32.ofNat (d' + 1))).1 i = S1.1 i := fun i hi => md_ij hi
        have f79 : (md_i S1 79 (Int32.ofNat (d' + 1))).1 79 = Int32.ofNat (d' + 1) := md_ii
        have f2 : (md_i S1 79 (Int32.ofNat (d' + 1))).2 = S1.2 := rfl
        -- the run, the way set back
        have run : ∀ su : Int32, bB su (zM a 0) → mm_behind_L86 (mm_P3 d) (md_i S1 79 (Int32.ofNat (d' + 1))) (S1.1 81 &&& (-2)) y0 (S1.1 80) (S1.1 79) su 1 (Int32.ofNat th) = some q → (cB (q.1 81) (zC (zTh a (zv M.2.1 (tvQ M.2.1 (siM M)) (siM M) (hsM M) (seM M) B th ρ (some d') (zM a 0)))) ∧ mB (q.1 80) (zM (zTh a (zv M.2.1 (tvQ M.2.1 (siM M)) (siM M) (hsM M) (seM M) B th ρ (some d') (zM a 0))))) ∧ ((¬ zC a 0 ∧ q = S1) ∨ (zC a 0 ∧ rnG S1 q (lcI B) (pfQ M.2.1 th) (ptQ M.2.1 th) (zv M.2.1 (tvQ M.2.1 (siM M)) (siM M) (hsM M) (seM M) B th ρ (some d') (zM a 0)))) := by
          intro su hsu hq
          generalize md_i S1 79 (Int32.ofNat (d' + 1)) = S4 at hq f1 f79 f2
          delta mm_behind_L86 at hq
          obtain ⟨q2, e2, hq⟩ := iv_bind hq
          have F4 : rnF M S4 := ⟨fun i hi => by rw [f1 i (by omega)]; exact hF.1 i hi, fun i hi => by rw [f2]; exact hF.2 i hi⟩
          have ro := hT d S4 q2 ρ (some d') (zM a 0) 1 su ⟨F4, by rw [f2]; exact hv, ⟨rfl, f79, hw⟩, hsu, by rw [f1 78 (by omega)]; exact h78⟩ e2
          have rc := ro.2.1
          have rg := rnO_G ro
          obtain ⟨⟨r1, r2⟩, r3, r4, r5, r6, r7, r8⟩ := rg
          have g1 : ∀ i, ¬ i = 79 → (md_i q2 79 (S1.1 79)).1 i = q2.1 i := fun i hi => md_ij hi
          have g79 : (md_i q2 79 (S1.1 79)).1 79 = S1.1 79 := md_ii
          have g2 : (md_i q2 79 (S1.1 79)).2 = q2.2 := rfl
          have hq : (if y0 = 0 then mm_behind_L117 (mm_P3 d) (md_i q2 79 (S1.1 79)) (S1.1 80) ((S1.1 81 &&& (-2)) ||| (md_i q2 79 (S1.1 79)).1 81) else mm_behind_L117 (mm_P3 d) (md_i q2 79 (S1.1 79)) ((md_i q2 79 (S1.1 79)).1 80) ((S1.1 81 &&& (-2)) ||| (md_i q2 79 (S1.1 79)).1 81)) = some q := hq
          rw [g1 81 (by omega), g1 80 (by omega)] at hq
          generalize md_i q2 79 (S1.1 79) = S3 at hq g1 g79 g2
          have G3 : rnG S1 S3 (lcI B) (pfQ M.2.1 th) (ptQ M.2.1 th) (zv M.2.1 (tvQ M.2.1 (siM M)) (siM M) (hsM M) (seM M) B th ρ (some d') (zM a 0)) := by
            rw [f2] at r3 r4 r5 r7 r8
            rw [f1 78 (by omega)] at r6
            refine ⟨⟨⟨fun i hi => by rw [g1 i (by omega), r1.1 i hi, f1 i (by omega)], fun i hi => by rw [g2, r1.2 i hi, f2]⟩, g79⟩, ?_, ?_, ?_, ?_, ?_, ?_⟩
            · rw [g2]; exact r3
            · rw [g2]; exact r4
            · rw [g2]; exact r5
            · rw [g1 78 (by omega)]; exact r6
            · rw [g2]; exact r7
            · rw [g2]; exact r8
          have cc := cB_th (b := zv M.2.1 (tvQ M.2.1 (siM M)) (siM M) (hsM M) (seM M) B th ρ (some d') (zM a 0)) hc rc.1 h0
          rcases iv_if hq with ⟨c0, hq⟩ | ⟨c0, hq⟩
          · delta mm_behind_L117 at hq
            obtain ⟨q5, e5, hq⟩ := iv_bind hq
            have e := out_r e5
            rw [Option.some.inj hq] at e
            rw [e]
            obtain ⟨o1, o2, o3, -⟩ := out_f (S := S3) (a := (S1.1 81 &&& (-2)) ||| q2.1 81) (b := S1.1 80)
            have n0 : ¬ zM a 0 := hy.elim (fun z => absurd (z.2.symm.trans c0) (by decide)) (fun z => z.1)
            refine ⟨⟨by rw [o2]; exact cc, by rw [o3]; exact mB_th2 (s := s) hm n0⟩, Or.inr ⟨h0, rnG_out G3⟩⟩
          · delta mm_behind_L117 at hq
            obtain ⟨q5, e5, hq⟩ := iv_bind hq
            have e := out_r e5
            rw [Option.some.inj hq] at e
            rw [e]
            obtain ⟨o1, o2, o3, -⟩ := out_f (S := S3) (a := (S1.1 81 &&& (-2)) ||| q2.1 81) (b := q2.1 80)
            have m0 : zM a 0 := hy.elim (fun z => z.1) (fun z => absurd z.2 c0)
            refine ⟨⟨by rw [o2]; exact cc, by rw [o3]; exact mB_th1 rc.2 oa m0⟩, Or.inr ⟨h0, rnG_out G3⟩⟩
        delta mm_behind_L65 at hq
        delta dc_let at hq
        dsimp only at hq
        rcases iv_if hq with ⟨c0, hq⟩ | ⟨c0, hq⟩
        · have ns : ¬ s := hs.elim (fun z => absurd (z.2.symm.trans c0) (by decide)) (fun z => z.1)
          exact run 0 (Or.inr ⟨fun z => ns (oa.1 0 z), rfl⟩) hq
        · rcases iv_if hq with ⟨c1, hq⟩ | ⟨c1, hq⟩
          · exact run 0 (Or.inr ⟨hy.elim (fun z => absurd (z.2.symm.trans c1) (by decide)) (fun z => z.1), rfl⟩) hq
          · exact run 1 (Or.inl ⟨hy.elim (fun z => z.1) (fun z => absurd z.2 c1), rfl⟩) hq
      delta dc_let at hq
      dsimp only at hq
      rcases iv_if hq with ⟨c0, hq⟩ | ⟨c0, hq⟩
      · exact go 1 (Or.inl ⟨u0.mp c0, rfl⟩) hq
      · exact go 0 (Or.inr ⟨fun z => c0 (u0.mpr z), rfl⟩) hq
    · rw [if_pos ((cB_0 hc).mpr h0)] at hq
      have e : S1 = q := Option.some.inj hq
      subst e
      exact ⟨⟨cB_t0 hc h0, mB_t0 hm oa h0⟩, Or.inl ⟨h0, rfl⟩⟩
end BH
