/-! a visit of the class: the value of a test; suspend that resumes -/
section GOS
variable {G : hg_E} {E : rvP} {M : md_S} {P : gvP} {D : Option Nat → Prop} {names : Int32} {kk ff ss xx : Nat → Int32} {m n ps sg pa pls N : Nat} {T A B : tT} {V : Int32 → Prop} {k : Nat} {up : Int32} {w : Int} {t : Int32} {a c : Int} {Es : List (Int32 × Int32)} {S : hg_S} {q : rsT} {x : Lean.Name} {x2 : Int32} {st : Nat} {F : hg_S ⊕ hg_S → Prop}
theorem gVo (W : pcW names kk ff ss xx m) (hm : m ≤ 1000) (hS : gSt M E P D n ps sg pa pls N) {H' : Prop} {y : lbT} {f s' : Int32} (hl : lrow True H' kk ff xx M.2.1 k y f s' up w t a c) (hp : pOk kk ff xx 0 (m : Int) V y.2.2.2.2.2) (h0 : 0 ≤ c) (h1 : c + txx xx y.2.2.2.2.2 ≤ (ps : Int)) (kn : k < n) (h34 : y.1 = 3 ∨ y.1 = 4) (hI : gIv P q) {ρ : Nat → Nat} (hV : ∀ y, V y → gA P (ρ y.toInt.toNat) ∧ q.1 4 y.toInt.toNat = Int32.ofNat (gPl P (ρ y.toInt.toNat))) (hy : ∀ y, V y → 0 ≤ y.toInt ∧ y.toInt < (sg : Int)) (hR : RV G E S q) : dc_wp (hm_RE_valueOf G S (vO E) (vR E 4 k)) (fun r => r.2 = tvQ M.2.1 (kap P q) ρ (M.2.1 54 k) ∧ ∃ f, RV G E r.1 (fX q 5 f)) := by
  obtain ⟨⟨q1, q2, q3, q4⟩, q5⟩ := hp
  have nt : ¬ y.2.2.2.2.2 = -1 := by
    intro z
    rw [z, show (-1 : Int32).toInt = -1 by decide] at q1
    omega
  obtain ⟨u1, u2, u3⟩ := hl.2.2.1 nt trivial
  have et : txx xx y.2.2.2.2.2 = (xx y.2.2.2.2.2.toInt.toNat).toInt := if_neg nt
  rw [et] at u2 u3 h1
  have hps := hS.2.1.2.1
  have hpls := hS.2.1.2.2.2.2
  have e54 : M.2.1 54 k = Int32.ofNat c.toNat := ofN_m (by omega) (by omega)
  have b := PPr_b W _ _ _ (by omega) (by omega) (by omega) u2
  have bl := PPr_l W _ _ _ (by omega) (by omega) (by omega) u2
  obtain ⟨hx, tk, ⟨r0, r1, r2, r3, r4, r7⟩, -⟩ := gRow hS kn
  obtain ⟨⟨⟨hrow, hpc⟩, -⟩, -, ⟨-, n11, n12, n13, n14⟩, ⟨⟨l1, l2, l3, l4, l5⟩, -⟩, ⟨-, hpl⟩, -⟩ := hS
  obtain ⟨-, -, hte⟩ := hrow k kn
  obtain ⟨k', x', e1, e2, e3, e4, e5⟩ := hte (by rw [r0, hl.1.1]; exact h34)
  have ek : k' = c.toNat := by
    have := congrArg Int32.toInt e1
    rw [e54, Int32.toInt_ofNat_of_lt (by omega), Int32.toInt_ofNat_of_lt (by omega)] at this
    omega
  have ex : x' = (xx y.2.2.2.2.2.toInt.toNat).toInt.toNat := by
    rw [ek] at e3
    rw [e3, Int32.toInt_ofNat_of_lt (by omega)] at u3
    omega
  subst ek
  rw [r4, e54]
  have key := vo_w (Q := M.2.1) (lo := c.toNat) (ex := x') hR e2 e4 (by omega) (by rw [n11, n12, n13, n14, l5]; omega) (fun j j1 j2 => hpc j (by omega)) (by rw [ex]; exact b) (fun j j1 j2 j3 => ?_) (fun s => hI.2.2.1 _)
  · refine wq_w key (fun r hr => ⟨?_, hr.2⟩)
    rw [hr.1]
    unfold tvQ
    rw [show (Int32.ofNat c.toNat).toInt.toNat = c.toNat by rw [Int32.toInt_ofNat_of_lt (by omega)]; omega]
    refine tvF_cg W _ _ _ (by omega) (by omega) (by omega) u2 (fun l l1 l2 l3 => ?_) 1001
    obtain ⟨v1, v2⟩ := hV _ (q5 l (by omega) (by omega) l3)
    have := hpl _ v1
    show vK q (ff l).toInt.toNat = kap P q (ρ (ff l).toInt.toNat)
    unfold vK
    rw [v2, kap_A v1, Int32.toInt_ofNat_of_lt (by omega)]
    rfl
  · obtain ⟨l, a1, a2, a3, a4⟩ := bl j j1 (by omega) j3
    have vl := q5 l (by omega) (by omega) a3
    obtain ⟨v1, v2⟩ := hV _ vl
    have yb := hy _ vl
    have pb := hpl _ v1
    rw [a4, v2, l4, l1, Int32.toInt_ofNat_of_lt (by omega)]
    omega
theorem bB_tv {p t' : Int32} {s : Prop} (h : bB p s) (v : Int32) : bB (if p = 0 then 0 else if t' = v then 1 else 0) (s ∧ t' = v) := by
  rcases h with ⟨h1, e⟩ | ⟨h1, e⟩
  · rw [if_neg (by rw [e]; decide)]
    by_cases z : t' = v
    · rw [if_pos z]; exact Or.inl ⟨⟨h1, z⟩, rfl⟩
    · rw [if_neg z]; exact Or.inr ⟨fun y => z y.2, rfl⟩
  · rw [if_pos e]
    exact Or.inr ⟨fun y => h1 y.1, rfl⟩
theorem tvQ_m {Q : Nat → Nat → Int32} {ρ : Nat → Nat} {y : Int32} : tvM (fun κ => tvQ Q κ ρ y) := fun κ κ' h => tvF_le (fun i => h (ρ i)) _ _
theorem zP_fm {R : Nat → Prop} {g Np : Nat → Prop} (h : ∀ p, Np p → g p) : zFm (fun _ s => zP Np s) R (fun _ => False) g := ⟨fun _ _ _ _ _ hs => zP_le hs, fun _ _ => zP_ok, fun _ _ _ z => z.elim, fun _ _ p z => h p z.2⟩
theorem kap_v (hO : ∀ i, v3 (gO P i)) (hI : gIv P q) {i : Nat} : v3 (kap P q i) := by
  by_cases h : gA P i
  · rw [kap_A h]
    exact hI.2.2.1 _
  · rw [kap_n h]
    exact hO i
theorem su_z (hk : (lT x).1 = 4) {ρ : Nat → Nat} : gZ M P (.unary x A) k ρ none = zSlF (fun κ => tvQ M.2.1 κ ρ (M.2.1 54 k)) 1 0 (gZ M P A (k + 1) ρ none) (fun _ s => zP (fun p => pfQ M.2.1 k ≤ p ∧ p < ptQ M.2.1 k ∧ gSe P p) s) := by
  funext κ s
  show zv _ _ _ _ _ (.unary x A) k ρ none s = _
  unfold zv
  rw [if_pos hk]
  rfl
theorem gv_un4r (W : pcW names kk ff ss xx m) (hgO : ∀ i, v3 (gO P i)) (hm : m ≤ 1000) (hS : gSt M E P D n ps sg pa pls N) (hT : gTr M kk ff xx m n ps sg pa (.unary x A) V k up w t a c Es) (hk : (lT x).1 = 4) (hA : gVis G E M P D pls N A V (k + 1) w.toNat) {ρ : Nat → Nat} {s : Prop} (hR : RV G E S q) (hP : gPre M P D (.unary x A) V k w.toNat ρ none s q) (hst : st + cst (.unary x A) none ≤ N) (kon : ∀ S' q' st', RV G E S' q' → gPost M P pls (.unary x A) k w.toNat ρ none s q q' → st' + 1 ≤ st + cst (.unary x A) none → dc_wp (dc_it (gtS G E) (S', Int32.ofNat k, -1, Int32.ofNat st')) F) : dc_wp (dc_it (gtS G E) (S, x2, Int32.ofNat k, Int32.ofNat st)) F := by
  obtain ⟨⟨u1, u2, u3, u4⟩, ⟨hx, tk, r0, r1, r4, r7, rw, r51⟩, hx1, tk1, r13⟩ := un_r hm hS hT
  obtain ⟨e8, e9, p1, p2⟩ := gPs hm hS hT
  have hpa := hS.2.1.2.2.2.1
  have n8 : ¬ (lT x).1 = 8 := by rw [hk]; decide
  have n10 : ¬ (lT x).1 = 10 := by rw [hk]; decide
  have n6 : ¬ (lT x).1 = 6 := by rw [hk]; decide
  have cs2 : cst (.unary x A) none = cst A none + 2 := by
    show 2 * (1 + rvs A + if (lT x).1 = 6 then tsz A else 0) = 2 * rvs A + 2
    rw [if_neg n6]; omega
  have ezc : k + tsz (.unary x A) = k + (1 + tsz A) := rfl
  have hlc : lcT (.unary x A) = lcT A := if_neg n10
  have hb9 := hP.2.1
  have h9 := b9_s hb9
  have hmd : q.2 15 = 0 ∧ q.2 16 = -1 ∧ q.2 17 = 0 := hP.2.2.2.1
  have hsf := hT.1
  obtain ⟨hO, hL, -, -, hbb, -, -, -, -, -, hVs⟩ := hsf
  have hpo : pOk kk ff xx 0 (m : Int) V (lT x).2.2.2.2.2 := by
    rcases hO.1.1 with z | ⟨z, -⟩
    · exact z.2
    · rcases z with z | z | z <;> (rw [hk] at z; exact absurd z (by decide))
  have t0 := tsm_0 (fun V e h => pO_b hm h) A _ (gTr_un hm hT).1.1
  have h3 : c + (txx xx (lT x).2.2.2.2.2 + tsm xx A) ≤ (ps : Int) := hT.2.2.1
  have vo := gVo W hm hS hL.1 hpo hbb.2.1 (by omega) (by omega) (Or.inr hk) hP.1 (fun y hy => ⟨(hP.2.2.1 y hy).1, (hP.2.2.1 y hy).2.1⟩) (fun y hy => ⟨(hVs y hy).1.1, hT.2.2.2.2.1 y hy⟩) hR
  obtain ⟨tv, hte⟩ : ∃ tv, tvQ M.2.1 (kap P q) ρ (M.2.1 54 k) = tv := ⟨_, rfl⟩
  rw [hte] at vo
  have vot : dc_wp (hm_RE_valueOf G S (vO E) (vR E 4 (Int32.ofNat k).toInt.toNat)) (fun r => r.2 = tv ∧ ∃ f, RV G E r.1 (fX q 5 f)) := by rw [tk]; exact vo
  have fa := gZ_fm (P := P) hm (gTr_un hm hT).1 (ρ := ρ) (md := none) trivial
  rw [if_neg n6, Int.add_zero, vL_n n10] at fa
  have fb : zFm (fun _ s => zP (fun p => pfQ M.2.1 k ≤ p ∧ p < ptQ M.2.1 k ∧ gSe P p) s) (fun i => ∃ y, V y ∧ i = ρ y.toInt.toNat) (fun _ => False) (gRg M k) := zP_fm (fun p z => ⟨z.1, z.2.1⟩)
  have dR : ∀ i, (∃ y, V y ∧ i = ρ y.toInt.toNat) → ¬ INq M.2.1 k (tsz (.unary x A)) none w.toNat i := by
    rintro i ⟨y, hy, rfl⟩
    exact (hP.2.2.1 y hy).2.2
  have sub : ∀ j, INq M.2.1 (k + 1) (tsz A) none w.toNat j → INq M.2.1 k (tsz (.unary x A)) none w.toNat j := fun j hj => INq_m hj (by omega) (by omega) (fun d => id)
  have hg : ∀ p, gRg M k p ↔ gRg M (k + 1) p ∨ gRg M k p := by
    rw [un_rg hm hT]
    exact fun p => ⟨Or.inr, fun z => z.elim id id⟩
  have hX : tvQ M.2.1 (sem P q).1 ρ (M.2.1 54 k) = tv := hte
  have comb := fun (X1 X2 : zX4) (ca cb : zvT) => zSl_A (tv := fun κ => tvQ M.2.1 κ ρ (M.2.1 54 k)) (x := 1) (y := 0) (A := gA P) (s := s) (X := sem P q) (X1 := X1) (X2 := X2) (ca := ca) (cb := cb) tvQ_m ⟨by decide, by decide, by decide⟩ fa fb (fun _ _ z => z) dR sub (fun _ z => z.elim) hg
  rw [hX] at comb
  have l10 := hS.2.2.2.1.2.2.1
  have l11 := hS.2.2.2.1.2.2.2
  by_cases t1 : tv = 1
  · rw [t1] at vot
    refine gt_br hR (gtN hS) (by omega) (nk_1 (by omega)) hmd.1 (wq_w (br_4 hR hx (by rw [tk, r0, hk]) (bsu_t hR hx (f := pfQ M.2.1 k) (t := ptQ M.2.1 k) (by rw [tk]; exact e8) (by rw [tk]; exact e9) p1 (by rw [l11]; exact p2) (by rw [l10]; omega) (by omega) vot)) ?_)
    rintro ⟨S1, v1⟩ ⟨e1, f, g1⟩
    have e1' : v1 = -1 := e1
    have g1' : RV G E S1 (reAn (reKp E (reT q (Int32.ofNat k).toInt.toNat f 1) (Int32.ofNat k).toInt.toNat) (Int32.ofNat k).toInt.toNat 2 1) := g1
    rw [tk] at g1'
    show dc_wp (dc_it (gtS G E) (S1, Int32.ofNat k, v1, Int32.ofNat (st + 1))) F
    rw [e1']
    refine kon S1 _ (st + 1) g1' ?_ (by rw [cs2]; omega)
    have hQT : gQ k (k + tsz (.unary x A)) (lcT (.unary x A)) q (reT q k f 1) := gQ_T (Nat.le_refl _) (by omega)
    have n9 : (reT q k f 1).1 9 k = q.1 9 k := by rw [reT_n (by decide) (by decide)]
    have n10' : (reT q k f 1).1 10 = gC P := by rw [reT_n (by decide) (by decide)]; exact hP.1.2.1
    have flT : (reT q k f 1).2 = q.2 := rfl
    generalize reT q k f 1 = qT at hQT n9 n10' flT g1' ⊢
    have ne : ∀ i, ¬ i = 7 → ¬ i = 8 → ¬ i = 11 → (reAn (reKp E qT k) k 2 1).1 i = qT.1 i := fun i h1 h2 h3 => by
      rw [reAn_n h1 h2]
      unfold reKp
      rw [fX_n h3]
    have n11 : ∀ p, (reAn (reKp E qT k) k 2 1).1 11 p = if pfQ M.2.1 k ≤ p ∧ p < ptQ M.2.1 k then (if q.1 9 k = 0 then 0 else if (gC P p).toInt < (gC P (p + 1)).toInt then 1 else 0) else q.1 11 p := by
      intro p
      rw [reAn_n (by decide) (by decide)]
      unfold reKp
      rw [fX_s, e8, e9, Int32.toInt_ofNat_of_lt (by omega), Int32.toInt_ofNat_of_lt (by omega), n9, n10', hQT.2.1.2.2]
      rfl
    have ez' : (reAn (reKp E qT k) k 2 1).2 = q.2 := flT
    have s9 : (reKp E qT k).1 9 k = q.1 9 k := by
      unfold reKp
      rw [fX_n (by decide)]
      exact n9
    have hQA : gFr k (k + tsz (.unary x A)) (lcT (.unary x A)) qT (reAn (reKp E qT k) k 2 1) := by
      have h1 : gFr k (k + tsz (.unary x A)) (lcT (.unary x A)) (reKp E qT k) (reAn (reKp E qT k) k 2 1) := (gQ_an (Nat.le_refl _) (by omega)).1
      have h0 : gFr k (k + tsz (.unary x A)) (lcT (.unary x A)) qT (reKp E qT k) := by
        have ne : ∀ j, ¬ j = 11 → (reKp E qT k).1 j = qT.1 j := fun j hj => fX_n hj
        exact ⟨fun i j hi hj => by rw [ne i (by omega)], fun j _ => by rw [ne 4 (by omega)], ne 3 (by omega), ne 10 (by omega), rfl⟩
      exact gFr_tr h0 h1
    have e1 : (reAn (reKp E qT k) k 2 1).1 1 = q.1 1 := (ne 1 (by omega) (by omega) (by omega)).trans hQT.2.1.1
    have e2 : (reAn (reKp E qT k) k 2 1).1 2 = q.1 2 := (ne 2 (by omega) (by omega) (by omega)).trans hQT.2.1.2.1
    have hF := gFr_tr hQT.1 hQA
    refine ⟨hF, ⟨by rw [ez'], by rw [ez'], by rw [ez']⟩, ⟨⟨fun p => by rw [e1]; exact Or.inr rfl, Or.inl ⟨by rw [ez'], e1⟩⟩, ⟨by rw [ez'], fun p => Or.inl (by rw [e2])⟩, fun p => by
      rw [n11]
      split
      · split
        · exact Or.inr (Or.inl rfl)
        · split
          · exact Or.inr (Or.inr rfl)
          · exact Or.inr (Or.inl rfl)
      · exact Or.inl rfl⟩, ⟨by rw [hF.2.2.1]; exact hP.1.1, by rw [hF.2.2.2.1]; exact hP.1.2.1, by rw [e1]; exact hP.1.2.2.1, by rw [ez']; exact hP.1.2.2.2⟩, zSl (¬ tv = 1) (¬ tv = 0) (gZ M P A (k + 1) ρ none (sem P q).1 (s ∧ tv = 0)) (zP (fun p => pfQ M.2.1 k ≤ p ∧ p < ptQ M.2.1 k ∧ gSe P p) (s ∧ tv = 1)), ⟨?_, ?_⟩, ?_⟩
    · rw [reAn_7]
      refine cB_congr cB_2 (fun d => ?_)
      show d = 1 ↔ (¬ tv = 1 ∧ _) ∨ (¬ tv = 0 ∧ d = 1)
      exact ⟨fun z => Or.inr ⟨by rw [t1]; decide, z⟩, fun z => z.elim (fun z => absurd t1 z.1) (fun z => z.2)⟩
    · rw [reAn_8, s9]
      refine mB_cg (mB_s (s := s) (c := 1) (by omega) (bB_i hb9)) (fun d => ?_)
      show s ∧ d = 1 ↔ (¬ tv = 1 ∧ _) ∨ (¬ tv = 0 ∧ (s ∧ tv = 1) ∧ d = 1)
      exact ⟨fun z => Or.inr ⟨by rw [t1]; decide, ⟨z.1, t1⟩, z.2⟩, fun z => z.elim (fun z => absurd t1 z.1) (fun z => ⟨z.2.1.1, z.2.2⟩)⟩
    · rw [su_z hk]
      refine comb (sem P q) _ _ _ (fun z => absurd t1 z) (fun _ => ⟨rfl, rfl⟩) (fun _ => ?_) (fun z => absurd (t1.symm.trans z) (by decide))
      have k1 : kap P (reAn (reKp E qT k) k 2 1) = kap P q := by funext i; unfold kap; rw [e1]
      have k2 : emS P (reAn (reKp E qT k) k 2 1) = emS P q := by funext i; unfold emS; rw [e2, ez']
      have es : sem P (reAn (reKp E qT k) k 2 1) = (kap P q, emS P q, q.2 14 = 1, chS (reAn (reKp E qT k) k 2 1)) := by
        unfold sem
        rw [k1, k2, ez']
      rw [es]
      refine ⟨zP_O (fun _ _ => Iff.rfl), zP_S, zP_N Iff.rfl (fun hs p hp => ?_) (fun p hp => ?_)⟩
      · have hp : pfQ M.2.1 k ≤ p ∧ p < ptQ M.2.1 k := hp
        have h91 : q.1 9 k = 1 := hb9.elim (fun z => z.2) (fun z => absurd hs.1 z.1)
        have hse := hS.2.2.2.2.2.1.2 p (by omega)
        show ¬ (reAn (reKp E qT k) k 2 1).1 11 p = 0 ↔ (pfQ M.2.1 k ≤ p ∧ p < ptQ M.2.1 k ∧ gSe P p)
        rw [n11, if_pos hp, if_neg (by rw [h91]; decide)]
        by_cases y : (gC P p).toInt < (gC P (p + 1)).toInt
        · rw [if_pos y]
          exact ⟨fun _ => ⟨hp.1, hp.2, hse.mpr y⟩, fun _ => by decide⟩
        · rw [if_neg y]
          exact ⟨fun z => absurd rfl z, fun z => absurd (hse.mp z.2.2) y⟩
      · have hp : ¬ (pfQ M.2.1 k ≤ p ∧ p < ptQ M.2.1 k) := hp
        show ¬ (reAn (reKp E qT k) k 2 1).1 11 p = 0 ↔ ¬ q.1 11 p = 0
        rw [n11, if_neg hp]
  · refine gt_br hR (gtN hS) (by omega) (nk_1 (by omega)) hmd.1 (wq_w (br_4 hR hx (by rw [tk, r0, hk]) (bsu_f hR hx (by rw [tk]; exact h9) (by rw [tk, r1]; exact hx1) vot t1)) ?_)
    rintro ⟨S1, v1⟩ ⟨e1, f, g1⟩
    have e1' : v1 = vR E 1 (Int32.ofNat k).toInt.toNat := e1
    rw [tk, r1] at e1'
    have g1' : RV G E S1 (uX (reT q (Int32.ofNat k).toInt.toNat f tv) 9 (vR E 1 (Int32.ofNat k).toInt.toNat).toInt.toNat (if q.1 9 (Int32.ofNat k).toInt.toNat = 0 then 0 else if tv = 0 then 1 else 0)) := g1
    rw [tk, r1, tk1] at g1'
    show dc_wp (dc_it (gtS G E) (S1, Int32.ofNat k, v1, Int32.ofNat (st + 1))) F
    rw [e1']
    have b91 : bB ((uX (reT q k f tv) 9 (k + 1) (if q.1 9 k = 0 then 0 else if tv = 0 then 1 else 0)).1 9 (k + 1)) (s ∧ tv = 0) := by
      rw [u9_9]
      exact bB_tv hb9 0
    have n4' : (uX (reT q k f tv) 9 (k + 1) (if q.1 9 k = 0 then 0 else if tv = 0 then 1 else 0)).1 4 = q.1 4 := by rw [uX_n (by decide), reT_n (by decide) (by decide)]
    have n6' : (uX (reT q k f tv) 9 (k + 1) (if q.1 9 k = 0 then 0 else if tv = 0 then 1 else 0)).1 6 k = tv := by rw [uX_n (by decide), reT_6]
    have n9' : (uX (reT q k f tv) 9 (k + 1) (if q.1 9 k = 0 then 0 else if tv = 0 then 1 else 0)).1 9 k = q.1 9 k := by rw [uX_s, upd_n (by omega), reT_n (by decide) (by decide)]
    have hQ1 : gQ k (k + tsz (.unary x A)) (lcT (.unary x A)) q (uX (reT q k f tv) 9 (k + 1) (if q.1 9 k = 0 then 0 else if tv = 0 then 1 else 0)) := gQ_tr (gQ_T (Nat.le_refl _) (by omega)) (gQ_u (by omega) (by omega) (by omega))
    have fl1 : (uX (reT q k f tv) 9 (k + 1) (if q.1 9 k = 0 then 0 else if tv = 0 then 1 else 0)).2 = q.2 := rfl
    generalize uX (reT q k f tv) 9 (k + 1) (if q.1 9 k = 0 then 0 else if tv = 0 then 1 else 0) = q1 at g1' b91 n4' n6' n9' hQ1 fl1
    have pA := gPre_1 (A := A) (kA := k + 1) (v' := w.toNat) (s' := s ∧ tv = 0) hP hQ1 ⟨by rw [fl1], by rw [fl1], by rw [fl1]⟩ (fun y hy => by rw [n4']) (by omega) (by omega) b91 (by omega) (fun z => (un_hs hm hT _).mpr (hP.2.2.2.2.2.2.2 z))
    refine hA ρ none _ S1 q1 (Int32.ofNat k) (st + 1) F g1' pA (by omega) ?_
    intro S2 q2 st2 g2 pst hst2
    obtain ⟨f1, ⟨f15, f16, f17⟩, fk, fI, z, ⟨zc, zm⟩, za⟩ := pst
    have k6 : q2.1 6 k = tv := by rw [f1.1 6 k (by omega) (by omega)]; exact n6'
    have k9 : q2.1 9 k = q.1 9 k := by rw [f1.1 9 k (by omega) (by omega)]; exact n9'
    refine gt_gr g2 (gtN hS) (by omega) hx1 rfl (nk_0 (by omega) (by omega)) ?_ (by rw [f15, fl1]; exact hmd.1) ?_
    · rw [f16, fl1, hmd.2.1]
      exact nk_1 (by omega)
    · rw [tk1, r13]
      refine wq_w (gr_4 g2 hx (by rw [tk, r0, hk]) hx1) ?_
      rintro ⟨S3, v4⟩ ⟨e3, g3⟩
      have e3' : v4 = -1 := e3
      have g3' : RV G E S3 (reAn q2 (Int32.ofNat k).toInt.toNat (q2.1 7 (Int32.ofNat (k + 1)).toInt.toNat ||| (if q2.1 6 (Int32.ofNat k).toInt.toNat = 2 then 2 else 0)) (q2.1 8 (Int32.ofNat (k + 1)).toInt.toNat)) := g3
      rw [tk, tk1, k6] at g3'
      show dc_wp (dc_it (gtS G E) (S3, Int32.ofNat k, v4, Int32.ofNat (st2 + 1))) F
      rw [e3']
      refine kon S3 _ (st2 + 1) g3' ?_ (by rw [cs2]; omega)
      have hQ3 : gQ k (k + tsz (.unary x A)) (lcT (.unary x A)) q2 (reAn q2 k (q2.1 7 (k + 1) ||| (if tv = 2 then 2 else 0)) (q2.1 8 (k + 1))) := gQ_an (Nat.le_refl _) (by omega)
      have tv3 : v3 tv := by
        rw [← hte]
        exact tvF_3 (fun i => kap_v hgO hP.1) _ _
      refine gWr hQ1 (gFr_m f1 (show k ≤ k + 1 by omega) (show k + 1 + tsz A ≤ k + tsz (.unary x A) by omega) (fun y hy => by rw [hlc]; exact hy)) fk fI hQ3 ⟨by show q2.2 15 = _; rw [f15, fl1], by show q2.2 16 = _; rw [f16, fl1], by show q2.2 17 = _; rw [f17, fl1]⟩ (z := zSl (¬ tv = 1) (¬ tv = 0) z (zP (fun p => pfQ M.2.1 k ≤ p ∧ p < ptQ M.2.1 k ∧ gSe P p) (s ∧ tv = 1))) ?_ ?_ ?_
      · rw [reAn_7]
        by_cases t2 : tv = 2
        · rw [if_pos t2]
          refine cB_congr (cB_or zc cB_2) (fun d => ?_)
          show zC z d ∨ d = 1 ↔ (¬ tv = 1 ∧ zC z d) ∨ (¬ tv = 0 ∧ d = 1)
          exact ⟨fun y => y.imp (fun y => ⟨t1, y⟩) (fun y => ⟨by rw [t2]; decide, y⟩), fun y => y.imp (fun y => y.2) (fun y => y.2)⟩
        · rw [if_neg t2]
          have t0 : tv = 0 := by
            rcases tv3 with y | y | y
            · exact y
            · exact absurd y t1
            · exact absurd y t2
          refine cB_congr (cB_z _ zc) (fun d => ?_)
          show zC z d ↔ (¬ tv = 1 ∧ zC z d) ∨ (¬ tv = 0 ∧ d = 1)
          exact ⟨fun y => Or.inl ⟨t1, y⟩, fun y => y.elim (fun y => y.2) (fun y => absurd t0 y.1)⟩
      · rw [reAn_8, k9, ms_if hb9 zm (zOk_s za.1.2.2.2.1 And.left)]
        refine mB_cg zm (fun d => ?_)
        show zM z d ↔ (¬ tv = 1 ∧ zM z d) ∨ (¬ tv = 0 ∧ (s ∧ tv = 1) ∧ d = 1)
        exact ⟨fun y => Or.inl ⟨t1, y⟩, fun y => y.elim (fun y => y.2) (fun y => absurd y.2.1.2 t1)⟩
      · rw [su_z hk, gQ_sem (P := P) hQ1]
        rw [gQ_sem (P := P) hQ1] at za
        refine comb (sem P q2) (sem P q2) z _ (fun _ => za) (fun y => absurd y t1) (fun _ => ?_) (fun _ => ⟨rfl, rfl⟩)
        exact ⟨zP_O (fun _ _ => Iff.rfl), zP_S, zP_N Iff.rfl (fun hs => absurd hs.2 t1) (fun _ _ => Iff.rfl)⟩
end GOS
