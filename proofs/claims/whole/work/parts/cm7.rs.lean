/-! a visit of the class: sequence and both that resume; every tree -/
section GO5
variable {G : hg_E} {E : rvP} {M : md_S} {P : gvP} {D : Option Nat → Prop} {names : Int32} {kk ff ss xx : Nat → Int32} {m n ps sg pa pls N : Nat} {T A B Ta Tb : tT} {V : Int32 → Prop} {k ka kB va : Nat} {up : Int32} {w : Int} {t : Int32} {a c : Int} {Es : List (Int32 × Int32)} {S : hg_S} {q q1 q2 q3 : rsT} {x : Lean.Name} {x2 : Int32} {st st2 : Nat} {F : hg_S ⊕ hg_S → Prop}
theorem zDN_s {e : zF} {g g' : Nat → Prop} {s : Prop} {κ κ' : Nat → Int32} {db db' : Prop} {ch ch' : Nat → Prop} {z : zvT} (h : zDN e s κ κ' db db' g ch ch' z) (u : ∀ p, g p → g' p) (ne : zNi e g) : zDN e s κ κ' db db' g' ch ch' z := by
  obtain ⟨d1, d2⟩ := h
  refine ⟨fun ek => ⟨(d1 ek).1, fun hm0 h0 p hp => ?_⟩, fun p hp => d2 p (fun y => hp (u p y))⟩
  by_cases y : g p
  · exact (d1 ek).2 hm0 (fun p hp => h0 p (u p hp)) p y
  · rw [d2 p y]
    exact ⟨fun v => absurd v (h0 p hp), fun v => absurd (ne _ _ _ v) y⟩
theorem gv_bi5r (hm : m ≤ 1000) (hS : gSt M E P D n ps sg pa pls N) (hT : gTr M kk ff xx m n ps sg pa (.binary x A B) V k up w t a c Es) (hk : (lT x).1 = 5) (hA : gVis G E M P D pls N A V (k + 1) w.toNat) (hB : gVis G E M P D pls N B V (k + 1 + tsz A) (w + 1).toNat) {ρ : Nat → Nat} {s : Prop} (hR : RV G E S q) (hP : gPre M P D (.binary x A B) V k w.toNat ρ none s q) (hst : st + cst (.binary x A B) none ≤ N) (kon : ∀ S' q' st', RV G E S' q' → gPost M P pls (.binary x A B) k w.toNat ρ none s q q' → st' + 1 ≤ st + cst (.binary x A B) none → dc_wp (dc_it (gtS G E) (S', Int32.ofNat k, -1, Int32.ofNat st')) F) : dc_wp (dc_it (gtS G E) (S, x2, Int32.ofNat k, Int32.ofNat st)) F := by
  obtain ⟨⟨u1, u2, u3, u4, u5⟩, ⟨hx, tk, r0, r1, r2, r4, r7, rw⟩, ⟨hx1, tk1, r13⟩, hx2, tk2, r23⟩ := bi_r hm hS hT
  have ezc : k + tsz (.binary x A B) = k + (1 + tsz A + tsz B) := rfl
  have hmd : q.2 15 = 0 ∧ q.2 16 = -1 ∧ q.2 17 = 0 := hP.2.2.2.1
  have hb9 := hP.2.1
  have h9 := b9_s hb9
  have cs2 : cst (.binary x A B) none = 2 * (1 + rvs A + rvs B + tsz B) := by
    show 2 * (1 + rvs A + rvs B + if (lT x).1 = 5 then tsz B else 0) = _
    rw [if_pos hk]
  obtain ⟨tA, tB⟩ := gTr_bi hm hT
  rw [if_pos hk] at tB
  obtain ⟨lcA, lcB⟩ := lc_bi (x := x) (A := A) (B := B)
  obtain ⟨hVl, hlT⟩ := hVT hT
  have hdh := hd_hs (M := M) hS hP.1 (show k + 1 < n by omega)
  have held := gHd hm hS tA hR
  have ez : ∀ κ s, gZ M P (.binary x A B) k ρ none κ s = zSl (hsC M.2.1 (gC P) (k + 1)) (¬ hsC M.2.1 (gC P) (k + 1)) (zTh (gZ M P A (k + 1) ρ none κ s) (gZ M P B (k + 1 + tsz A) ρ (some w.toNat) κ (zM (gZ M P A (k + 1) ρ none κ s) 0))) (gZ M P B (k + 1 + tsz A) ρ none κ s) := by
    intro κ s
    show zv _ _ _ _ _ (.binary x A B) k ρ none s = _
    unfold zv
    rw [if_neg (by rw [hk]; decide), if_pos hk, rw]
    rfl
  refine gt_br hR (gtN hS) (by omega) (nk_1 (by omega)) hmd.1 (wq_w (br_5 hR hx (by rw [tk, r0, hk]) (by rw [tk]; exact h9) (by rw [tk, r1]; exact hx1) (by rw [tk, r2]; exact hx2) (by rw [tk, r1, tk1]; exact held)) (fun r hr => ?_))
  rw [tk, r1, tk1, r2, tk2] at hr
  rcases hr with ⟨h1, e1, g1⟩ | ⟨h1, e1, g1⟩
  · rw [e1]
    have h1 := hdh.mp h1
    have hQ1 : gQ k (k + tsz (.binary x A B)) (lcT (.binary x A B)) q (uX q 9 (k + 1) (q.1 9 k)) := gQ_u (by omega) (by omega) (by omega)
    have n9 : (uX q 9 (k + 1) (q.1 9 k)).1 9 k = q.1 9 k := by rw [uX_s, upd_n (by omega)]
    have n4 : (uX q 9 (k + 1) (q.1 9 k)).1 4 = q.1 4 := uX_n (by decide)
    have pA := gPre_1 (A := A) (kA := k + 1) (v' := w.toNat) (s' := s) hP hQ1 ⟨rfl, rfl, rfl⟩ (fun y hy => by rw [n4]) (by omega) (by omega) (by rw [u9_9]; exact hb9) (by omega) (fun _ => h1)
    refine hA ρ none s r.1 _ (Int32.ofNat k) (st + 1) F g1 pA (by show st + 1 + 2 * rvs A ≤ N; omega) ?_
    intro S2 q2 st2 g2 pst hst2
    have hst2 : st2 + 1 ≤ st + 1 + 2 * rvs A := hst2
    obtain ⟨f1, ffl, fk, fI, z, ⟨zc, zm⟩, za⟩ := pst
    have fl1 : (uX q 9 (k + 1) (q.1 9 k)).2 = q.2 := rfl
    refine gt_gr g2 (gtN hS) (by omega) hx1 rfl (nk_0 (by omega) (by omega)) ?_ (by rw [ffl.1, fl1]; exact hmd.1) ?_
    · rw [ffl.2.1, fl1, hmd.2.1]
      exact nk_1 (by omega)
    rw [tk1, r13]
    refine wq_w (gr_5a g2 hx (by rw [tk, r0, hk]) hx1 (by rw [tk, r2]; exact hx2) (by rw [tk, r2]; exact nk_i (by omega) (by omega) (by omega))) (fun r hr => ?_)
    rw [tk, tk1, r2] at hr
    have fa := gZ_fm (P := P) hm tA.1 (ρ := ρ) (md := none) trivial
    refine gBeh (Ta := A) (Tb := B) (ka := k + 1) (kB := k + 1 + tsz A) (va := w.toNat) hm hS hT.2.1 u5 r7 hP hQ1 fl1 n9 n4 (by omega) (by omega) (by omega) lcA f1 ffl fk fI zc zm za (by omega) (by omega) lcB fa tB hVl hlT (fun i a1 a2 => INq_d a1 a2 (Or.inl (Nat.le_refl _))) (bi_rg hm hT).1 (fun κ s => ?_) hB hst (by omega) kon r hr
    rw [ez, zR_sl h1]
  · rw [e1]
    have h1 : ¬ hsC M.2.1 (gC P) (k + 1) := fun y => h1 (hdh.mpr y)
    have h2 := bi_hs hm hS hT (hP.2.2.2.2.2.2.2 rfl) h1
    have hQ1 : gQ k (k + tsz (.binary x A B)) (lcT (.binary x A B)) q (uX q 9 (k + 1 + tsz A) (q.1 9 k)) := gQ_u (by omega) (by omega) (by omega)
    have n9 : (uX q 9 (k + 1 + tsz A) (q.1 9 k)).1 9 k = q.1 9 k := by rw [uX_s, upd_n (by omega)]
    have n4 : (uX q 9 (k + 1 + tsz A) (q.1 9 k)).1 4 = q.1 4 := uX_n (by decide)
    have pA := gPre_1 (A := B) (kA := k + 1 + tsz A) (v' := (w + 1).toNat) (s' := s) hP hQ1 ⟨rfl, rfl, rfl⟩ (fun y hy => by rw [n4]) (by omega) (by omega) (by rw [u9_9]; exact hb9) (by omega) (fun _ => h2)
    refine hB ρ none s r.1 _ (Int32.ofNat k) (st + 1) F g1 pA (by show st + 1 + 2 * rvs B ≤ N; omega) ?_
    intro S2 q2 st2 g2 pst hst2
    have hst2 : st2 + 1 ≤ st + 1 + 2 * rvs B := hst2
    obtain ⟨f1, ffl, fk, fI, z, ⟨zc, zm⟩, za⟩ := pst
    have fl1 : (uX q 9 (k + 1 + tsz A) (q.1 9 k)).2 = q.2 := rfl
    have k9 : q2.1 9 k = q.1 9 k := by rw [f1.1 9 k (by omega) (by omega)]; exact n9
    refine gt_gr g2 (gtN hS) (by omega) hx2 rfl (nk_0 (by omega) (by omega)) ?_ (by rw [ffl.1, fl1]; exact hmd.1) ?_
    · rw [ffl.2.1, fl1, hmd.2.1]
      exact nk_1 (by omega)
    rw [tk2, r23]
    refine wq_w (gr_5b g2 hx (by rw [tk, r0, hk]) hx2 (by rw [tk, r2])) (fun r hr => ?_)
    rw [tk, tk2] at hr
    obtain ⟨e3, g3⟩ := hr
    rw [e3]
    refine kon r.1 _ (st2 + 1) g3 ?_ (by omega)
    have hQ3 : gQ k (k + tsz (.binary x A B)) (lcT (.binary x A B)) q2 (reS1 q2 k (k + 1 + tsz A)) := gQ_an (Nat.le_refl _) (by omega)
    have e7 : (reS1 q2 k (k + 1 + tsz A)).1 7 k = q2.1 7 (k + 1 + tsz A) := reAn_7
    have e8 : (reS1 q2 k (k + 1 + tsz A)).1 8 k = q2.1 8 (k + 1 + tsz A) := by
      have : (reS1 q2 k (k + 1 + tsz A)).1 8 k = if q2.1 9 k = 0 then -1 else q2.1 8 (k + 1 + tsz A) := reAn_8
      rw [this, k9, ms_if hb9 zm za.1.2.2.2.1]
    refine gWr hQ1 (gFr_m f1 (by omega) (by omega) lcB) fk fI hQ3 ⟨by show q2.2 15 = _; rw [ffl.1, fl1], by show q2.2 16 = _; rw [ffl.2.1, fl1], by show q2.2 17 = _; rw [ffl.2.2, fl1]⟩ (by rw [e7]; exact zc) (by rw [e8]; exact zm) ?_
    have fb := gZ_fm (P := P) hm tB.1 (ρ := ρ) (md := none) trivial
    refine zA_c (e := gZ M P B (k + 1 + tsz A) ρ none) (fun κ s => by rw [ez, zR_sr h1]) ⟨za.1, zSd_m za.2.1 (fun i hi => INq_m hi (by omega) (by omega) (fun d => mdD_m (by omega))), zDN_s za.2.2 (fun p hp => ((bi_rg hm hT).1 p).mpr (Or.inr hp)) fb.2.2.2⟩
theorem zR_pa {a1 a2 b1 b2 : zvT} (h : zR a1 = zR a2) (g : zR b1 = zR b2) : zR (zPa a1 b1) = zR (zPa a2 b2) := by
  obtain ⟨h1, h2, h3, h4, h5, h6, h7⟩ := zR_p h
  obtain ⟨g1, g2, g3, g4, g5, g6, g7⟩ := zR_p g
  show (xPa (zC a1) (zC b1), (fun c => ∃ x y, zM a1 x ∧ zM b1 y ∧ c = max x y), (fun i => zE a1 i ∨ zE b1 i), (fun i => zS a1 i ∨ zS b1 i), (fun i => zV a1 i ∨ zV b1 i), (zD a1 ∨ zD b1), (fun i => zN a1 i ∨ zN b1 i)) = (xPa (zC a2) (zC b2), (fun c => ∃ x y, zM a2 x ∧ zM b2 y ∧ c = max x y), (fun i => zE a2 i ∨ zE b2 i), (fun i => zS a2 i ∨ zS b2 i), (fun i => zV a2 i ∨ zV b2 i), (zD a2 ∨ zD b2), (fun i => zN a2 i ∨ zN b2 i))
  rw [h1, h2, h3, h4, h5, h6, h7, g1, g2, g3, g4, g5, g6, g7]
theorem zK_fm {R g : Nat → Prop} {j : Nat} : zFm (fun _ s => zK j s) R (fun _ => False) g := ⟨fun _ _ _ _ _ hs => zK_le hs, fun _ _ => zK_ok, fun _ _ _ z => z.elim, fun _ _ p z => z.elim⟩
theorem zK_A {I A' g : Nat → Prop} {s : Prop} {X : zX4} {j : Nat} : zA (fun _ s => zK j s) I A' g s X X (zK j s) := ⟨zK_O (fun _ _ => Iff.rfl), zK_S, zK_N Iff.rfl (fun _ => Iff.rfl)⟩
theorem gv_bi7r (hm : m ≤ 1000) (hS : gSt M E P D n ps sg pa pls N) (hT : gTr M kk ff xx m n ps sg pa (.binary x A B) V k up w t a c Es) (hk : (lT x).1 = 7) (hA : gVis G E M P D pls N A V (k + 1) w.toNat) (hB : gVis G E M P D pls N B V (k + 1 + tsz A) w.toNat) {ρ : Nat → Nat} {s : Prop} (hR : RV G E S q) (hP : gPre M P D (.binary x A B) V k w.toNat ρ none s q) (hst : st + cst (.binary x A B) none ≤ N) (kon : ∀ S' q' st', RV G E S' q' → gPost M P pls (.binary x A B) k w.toNat ρ none s q q' → st' + 1 ≤ st + cst (.binary x A B) none → dc_wp (dc_it (gtS G E) (S', Int32.ofNat k, -1, Int32.ofNat st')) F) : dc_wp (dc_it (gtS G E) (S, x2, Int32.ofNat k, Int32.ofNat st)) F := by
  obtain ⟨⟨u1, u2, u3, u4, u5⟩, ⟨hx, tk, r0, r1, r2, r4, r7, rw⟩, ⟨hx1, tk1, r13⟩, hx2, tk2, r23⟩ := bi_r hm hS hT
  have ezc : k + tsz (.binary x A B) = k + (1 + tsz A + tsz B) := rfl
  have hmd : q.2 15 = 0 ∧ q.2 16 = -1 ∧ q.2 17 = 0 := hP.2.2.2.1
  have hb9 := hP.2.1
  have h9 := b9_s hb9
  have cs2 : cst (.binary x A B) none = 2 * (1 + rvs A + rvs B) := by
    show 2 * (1 + rvs A + rvs B + if (lT x).1 = 5 then tsz B else 0) = _
    rw [if_neg (by rw [hk]; decide)]
    omega
  obtain ⟨tA, tB⟩ := gTr_bi hm hT
  have w5 : w + (if (lT x).1 = 5 then (1 : Int) else 0) = w := by rw [if_neg (by rw [hk]; decide)]; omega
  rw [w5] at tB
  obtain ⟨lcA, lcB⟩ := lc_bi (x := x) (A := A) (B := B)
  obtain ⟨hVl, hlT⟩ := hVT hT
  have hdh := hd_hs (M := M) hS hP.1 (show k + 1 < n by omega)
  have fa := gZ_fm (P := P) hm tA.1 (ρ := ρ) (md := none) trivial
  have fb := gZ_fm (P := P) hm tB.1 (ρ := ρ) (md := none) trivial
  have dR : ∀ i, (∃ y, V y ∧ i = ρ y.toInt.toNat) → ¬ INq M.2.1 k (tsz (.binary x A B)) none w.toNat i := by
    rintro i ⟨y, hy, rfl⟩
    exact (hP.2.2.1 y hy).2.2
  have sa : ∀ j, INq M.2.1 (k + 1) (tsz A) none w.toNat j → INq M.2.1 k (tsz (.binary x A B)) none w.toNat j := fun j hj => INq_m hj (by omega) (by omega) (fun d => id)
  have sb : ∀ j, INq M.2.1 (k + 1 + tsz A) (tsz B) none w.toNat j → INq M.2.1 k (tsz (.binary x A B)) none w.toNat j := fun j hj => INq_m hj (by omega) (by omega) (fun d => id)
  have dab : ∀ i, INq M.2.1 (k + 1) (tsz A) none w.toNat i → INq M.2.1 (k + 1 + tsz A) (tsz B) none w.toNat i → False := fun i h1 h2 => INq_d h1 h2 (Or.inl (Nat.le_refl _))
  have ez : ∀ κ s, gZ M P (.binary x A B) k ρ none κ s = zPa (zSl (hsC M.2.1 (gC P) (k + 1)) (¬ hsC M.2.1 (gC P) (k + 1)) (gZ M P A (k + 1) ρ none κ s) (zK 0 s)) (zSl (hsC M.2.1 (gC P) (k + 1 + tsz A)) (¬ hsC M.2.1 (gC P) (k + 1 + tsz A)) (gZ M P B (k + 1 + tsz A) ρ none κ s) (zK 0 s)) := by
    intro κ s
    show zv _ _ _ _ _ (.binary x A B) k ρ none s = _
    unfold zv
    rw [if_neg (by rw [hk]; decide), if_neg (by rw [hk]; decide)]
    rfl
  obtain ⟨hg, hgd⟩ := bi_rg hm hT
  -- the end of both
  have fin : ∀ (q1 q4 : rsT) (S4 : hg_S) (st4 : Nat) (za zb : zvT), gQ k (k + tsz (.binary x A B)) (lcT (.binary x A B)) q q1 → gFr k (k + tsz (.binary x A B)) (lcT (.binary x A B)) q1 q4 → gKn pls q1 q4 → gIv P q4 → (q4.2 15 = q.2 15 ∧ q4.2 16 = q.2 16 ∧ q4.2 17 = q.2 17) → q4.1 9 k = q.1 9 k → cB (q4.1 7 (k + 1)) (zC za) → (s → mB (q4.1 8 (k + 1)) (zM za)) → cB (q4.1 7 (k + 1 + tsz A)) (zC zb) → (s → mB (q4.1 8 (k + 1 + tsz A)) (zM zb)) → zOk s za → zOk s zb → zA (gZ M P (.binary x A B) k ρ none) (INq M.2.1 k (tsz (.binary x A B)) none w.toNat) (gA P) (gRg M k) s (sem P q1) (sem P q4) (zPa za zb) → RV G E S4 (reCb q4 k (k + 1) (k + 1 + tsz A)) → st4 + 1 ≤ st + cst (.binary x A B) none → dc_wp (dc_it (gtS G E) (S4, Int32.ofNat k, -1, Int32.ofNat st4)) F := by
    intro q1 q4 S4 st4 za zb hQ1 fall kall hI4 hfl d9 ca ma cb mb oa ob hz g5 hs5
    have hQ5 : gQ k (k + tsz (.binary x A B)) (lcT (.binary x A B)) q4 (reCb q4 k (k + 1) (k + 1 + tsz A)) := gQ_an (Nat.le_refl _) (by omega)
    exact kon S4 _ st4 g5 (gWr hQ1 fall kall hI4 hQ5 hfl (z := zPa za zb) (by rw [reCb_7]; exact gP_b ca cb) (by rw [reCb_8, d9]; exact pa_m hb9 oa ob ma mb) hz) hs5
  have mK : s → mB 0 (zM (zK 0 s)) := fun hs => Or.inl ⟨0, ⟨hs, rfl⟩, by omega, rfl⟩
  refine gt_br hR (gtN hS) (by omega) (nk_1 (by omega)) hmd.1 (wq_w (br_7 hR hx (by rw [tk, r0, hk]) (by rw [tk]; exact h9) (by rw [tk, r1]; exact hx1) (by rw [tk, r2]; exact hx2) ?_) (fun r hr => ?_))
  · intro S' q' hR' hq'
    rw [tk, r1, tk1]
    have := gHd hm hS tA hR'
    have e : hdC E q' (k + 1) = hdC E q (k + 1) := by
      unfold hdC
      rw [hq' 10 (by decide) (by decide)]
    rw [e] at this
    exact this
  rw [tk, r1, tk1, r2, tk2] at hr
  -- what the first steps leave
  have pre : ∀ kc, kc = k + 1 ∨ kc = k + 1 + tsz A → gQ k (k + tsz (.binary x A B)) (lcT (.binary x A B)) q (uX (reE2 q (k + 1) (k + 1 + tsz A)) 9 kc (q.1 9 k)) ∧ (uX (reE2 q (k + 1) (k + 1 + tsz A)) 9 kc (q.1 9 k)).2 = q.2 ∧ (uX (reE2 q (k + 1) (k + 1 + tsz A)) 9 kc (q.1 9 k)).1 4 = q.1 4 ∧ (uX (reE2 q (k + 1) (k + 1 + tsz A)) 9 kc (q.1 9 k)).1 9 k = q.1 9 k ∧ (∀ j, j = k + 1 ∨ j = k + 1 + tsz A → (uX (reE2 q (k + 1) (k + 1 + tsz A)) 9 kc (q.1 9 k)).1 7 j = 1 ∧ (uX (reE2 q (k + 1) (k + 1 + tsz A)) 9 kc (q.1 9 k)).1 8 j = 0) ∧ (uX (reE2 q (k + 1) (k + 1 + tsz A)) 9 kc (q.1 9 k)).1 9 kc = q.1 9 k := by
    intro kc hkc
    refine ⟨gQ_tr (gQ_tr (gQ_en (by omega) (by omega)) (gQ_en (by omega) (by omega))) (gQ_u (by omega) (by omega) (by omega)), rfl, by rw [uX_n (by decide), reE2_n (by decide) (by decide)], by rw [uX_s, upd_n (by omega), reE2_n (by decide) (by decide)], fun j hj => ?_, u9_9⟩
    rw [uX_n (by decide), uX_n (by decide)]
    unfold reE2 reEn
    have e7 : (uX (uX (uX (uX q 7 (k + 1) 1) 8 (k + 1) 0) 7 (k + 1 + tsz A) 1) 8 (k + 1 + tsz A) 0).1 7 j = 1 := by
      rw [uX_n (by decide), uX_s, uX_n (by decide), uX_s]
      rcases hj with e | e
      · rw [e, upd_n (by omega), upd_s]
      · rw [e, upd_s]
    have e8 : (uX (uX (uX (uX q 7 (k + 1) 1) 8 (k + 1) 0) 7 (k + 1 + tsz A) 1) 8 (k + 1 + tsz A) 0).1 8 j = 0 := by
      rw [uX_s, uX_n (by decide), uX_s]
      rcases hj with e | e
      · rw [e, upd_n (by omega), upd_s]
      · rw [e, upd_s]
    exact ⟨e7, e8⟩
  rcases hr with ⟨h1, e1, g1⟩ | ⟨h1, e1, g1⟩
  · rw [e1]
    have h1 := hdh.mp h1
    obtain ⟨hQ1, fl1, n4, n9, n78, b91⟩ := pre (k + 1) (Or.inl rfl)
    generalize uX (reE2 q (k + 1) (k + 1 + tsz A)) 9 (k + 1) (q.1 9 k) = q1 at g1 hQ1 fl1 n4 n9 n78 b91
    have pA := gPre_1 (A := A) (kA := k + 1) (v' := w.toNat) (s' := s) hP hQ1 ⟨by rw [fl1], by rw [fl1], by rw [fl1]⟩ (fun y hy => by rw [n4]) (by omega) (by omega) (by rw [b91]; exact hb9) (by omega) (fun _ => h1)
    refine hA ρ none s r.1 q1 (Int32.ofNat k) (st + 1) F g1 pA (by show st + 1 + 2 * rvs A ≤ N; omega) ?_
    intro S2 q2 st2 g2 pst hst2
    have hst2 : st2 + 1 ≤ st + 1 + 2 * rvs A := hst2
    obtain ⟨f1, ffl, fk, fI, z, ⟨zc, zm⟩, za⟩ := pst
    have k9 : q2.1 9 k = q.1 9 k := by rw [f1.1 9 k (by omega) (by omega)]; exact n9
    have fT := gFr_m (L' := lcT (.binary x A B)) f1 (show k ≤ k + 1 by omega) (show k + 1 + tsz A ≤ k + tsz (.binary x A B) by omega) lcA
    have hdB := hd_hs (M := M) hS fI (show k + 1 + tsz A < n by omega)
    refine gt_gr g2 (gtN hS) (by omega) hx1 rfl (nk_0 (by omega) (by omega)) ?_ (by rw [ffl.1, fl1]; exact hmd.1) ?_
    · rw [ffl.2.1, fl1, hmd.2.1]
      exact nk_1 (by omega)
    rw [tk1, r13]
    refine wq_w (gr_7a g2 hx (by rw [tk, r0, hk]) (by rw [tk, k9]; exact h9) (by rw [tk, r1]; exact hx1) (by rw [tk, r2]; exact hx2) (by rw [tk, r2, tk2]; exact gHd hm hS tB g2) (by rw [tk, r2]; exact nk_i (by omega) (by omega) (by omega))) (fun r hr => ?_)
    rw [tk, r1, tk1, r2, tk2, k9] at hr
    rcases hr with ⟨h2, e3, g3⟩ | ⟨h2, e3, g3⟩
    · rw [e3]
      have h2 := hdB.mp h2
      have hQ3 : gQ k (k + tsz (.binary x A B)) (lcT (.binary x A B)) q2 (uX q2 9 (k + 1 + tsz A) (q.1 9 k)) := gQ_u (by omega) (by omega) (by omega)
      have b93 : bB ((uX q2 9 (k + 1 + tsz A) (q.1 9 k)).1 9 (k + 1 + tsz A)) s := by rw [u9_9]; exact hb9
      have n43 : (uX q2 9 (k + 1 + tsz A) (q.1 9 k)).1 4 = q2.1 4 := uX_n (by decide)
      have fl3 : (uX q2 9 (k + 1 + tsz A) (q.1 9 k)).2 = q2.2 := rfl
      have b7 : (uX q2 9 (k + 1 + tsz A) (q.1 9 k)).1 7 = q2.1 7 := uX_n (by decide)
      have b8 : (uX q2 9 (k + 1 + tsz A) (q.1 9 k)).1 8 = q2.1 8 := uX_n (by decide)
      have b9 : (uX q2 9 (k + 1 + tsz A) (q.1 9 k)).1 9 k = q.1 9 k := by rw [uX_s, upd_n (by omega)]; exact k9
      generalize uX q2 9 (k + 1 + tsz A) (q.1 9 k) = q3 at g3 hQ3 b93 n43 fl3 b7 b8 b9
      have pB := gPre_2 (Ta := A) (ka := k + 1) (Tb := B) (kB := k + 1 + tsz A) hS hP hQ1 fl1 n4 f1 ffl fI za fa.2.2.1 lcA hVl hlT hQ3 fl3 n43 (by omega) (by omega) b93 (by omega) tB dab (fun _ => h2)
      refine hB ρ none _ r.1 q3 (Int32.ofNat k) (st2 + 1) F g3 pB (by show st2 + 1 + 2 * rvs B ≤ N; omega) ?_
      intro S4 q4 st4 g4 pst hst4
      have hst4 : st4 + 1 ≤ st2 + 1 + 2 * rvs B := hst4
      obtain ⟨h1', hfl, hk4, hI4, zb, ⟨zbc, zbm⟩, zbA⟩ := pst
      refine gt_gr g4 (gtN hS) (by omega) hx2 rfl (nk_0 (by omega) (by omega)) ?_ (by rw [hfl.1, fl3, ffl.1, fl1]; exact hmd.1) ?_
      · rw [hfl.2.1, fl3, ffl.2.1, fl1, hmd.2.1]
        exact nk_1 (by omega)
      rw [tk2, r23]
      refine wq_w (gr_7b g4 hx (by rw [tk, r0, hk]) (by rw [tk, r1]; exact hx1) (by rw [tk, r2]; exact hx2) (by rw [tk, r2])) (fun r hr => ?_)
      rw [tk, r1, tk1, r2, tk2] at hr
      obtain ⟨e5, g5⟩ := hr
      rw [e5]
      have d7 : q4.1 7 (k + 1) = q2.1 7 (k + 1) := by rw [h1'.1 7 (k + 1) (by omega) (by omega), b7]
      have d8 : q4.1 8 (k + 1) = q2.1 8 (k + 1) := by rw [h1'.1 8 (k + 1) (by omega) (by omega), b8]
      have d9 : q4.1 9 k = q.1 9 k := by rw [h1'.1 9 k (by omega) (by omega)]; exact b9
      refine fin q1 q4 r.1 (st4 + 1) z zb hQ1 (gFr_tr (gFr_tr fT hQ3.1) (gFr_m h1' (by omega) (by omega) lcB)) (gKn_tr (gKn_tr fk (gQ_kn hQ3)) hk4) hI4 ⟨by rw [hfl.1, fl3, ffl.1, fl1], by rw [hfl.2.1, fl3, ffl.2.1, fl1], by rw [hfl.2.2, fl3, ffl.2.2, fl1]⟩ d9 (by rw [d7]; exact zc) (fun _ => by rw [d8]; exact zm) zbc (fun _ => zbm) za.1.2.2.2.1 zbA.1.2.2.2.1 ?_ g5 (by omega)
      rw [gQ_sem (P := P) hQ3] at zbA
      exact zA_c (fun κ s => by rw [ez]; exact zR_pa (zR_sl h1).symm (zR_sl h2).symm) (zPa_A fa fb dab dR sa sb hg hgd za zbA)
    · rw [e3]
      have h2 : ¬ hsC M.2.1 (gC P) (k + 1 + tsz A) := fun y => h2 (hdB.mpr y)
      obtain ⟨m7, m8⟩ := n78 (k + 1 + tsz A) (Or.inr rfl)
      have d7 : q2.1 7 (k + 1 + tsz A) = 1 := by rw [f1.1 7 (k + 1 + tsz A) (by omega) (by omega)]; exact m7
      have d8 : q2.1 8 (k + 1 + tsz A) = 0 := by rw [f1.1 8 (k + 1 + tsz A) (by omega) (by omega)]; exact m8
      refine fin q1 q2 r.1 (st2 + 1) z (zK 0 s) hQ1 fT fk fI ⟨by rw [ffl.1, fl1], by rw [ffl.2.1, fl1], by rw [ffl.2.2, fl1]⟩ k9 zc (fun _ => zm) (by rw [d7]; exact cB_1) (fun hs => by rw [d8]; exact mK hs) za.1.2.2.2.1 zK_ok ?_ g3 (by omega)
      exact zA_c (fun κ s => by rw [ez]; exact zR_pa (zR_sl h1).symm (zR_sr h2).symm) (zPa_A fa (zK_fm (j := 0)) (fun _ _ y => y) dR sa (fun _ y => y.elim) hg hgd za zK_A)
  · rw [e1]
    have h1 : ¬ hsC M.2.1 (gC P) (k + 1) := fun y => h1 (hdh.mpr y)
    have h2 := bi_hs hm hS hT (hP.2.2.2.2.2.2.2 rfl) h1
    obtain ⟨hQ1, fl1, n4, n9, n78, b91⟩ := pre (k + 1 + tsz A) (Or.inr rfl)
    generalize uX (reE2 q (k + 1) (k + 1 + tsz A)) 9 (k + 1 + tsz A) (q.1 9 k) = q1 at g1 hQ1 fl1 n4 n9 n78 b91
    have pB := gPre_1 (A := B) (kA := k + 1 + tsz A) (v' := w.toNat) (s' := s) hP hQ1 ⟨by rw [fl1], by rw [fl1], by rw [fl1]⟩ (fun y hy => by rw [n4]) (by omega) (by omega) (by rw [b91]; exact hb9) (by omega) (fun _ => h2)
    refine hB ρ none s r.1 q1 (Int32.ofNat k) (st + 1) F g1 pB (by show st + 1 + 2 * rvs B ≤ N; omega) ?_
    intro S2 q2 st2 g2 pst hst2
    have hst2 : st2 + 1 ≤ st + 1 + 2 * rvs B := hst2
    obtain ⟨f1, ffl, fk, fI, z, ⟨zc, zm⟩, za⟩ := pst
    have k9 : q2.1 9 k = q.1 9 k := by rw [f1.1 9 k (by omega) (by omega)]; exact n9
    obtain ⟨m7, m8⟩ := n78 (k + 1) (Or.inl rfl)
    have d7 : q2.1 7 (k + 1) = 1 := by rw [f1.1 7 (k + 1) (by omega) (by omega)]; exact m7
    have d8 : q2.1 8 (k + 1) = 0 := by rw [f1.1 8 (k + 1) (by omega) (by omega)]; exact m8
    refine gt_gr g2 (gtN hS) (by omega) hx2 rfl (nk_0 (by omega) (by omega)) ?_ (by rw [ffl.1, fl1]; exact hmd.1) ?_
    · rw [ffl.2.1, fl1, hmd.2.1]
      exact nk_1 (by omega)
    rw [tk2, r23]
    refine wq_w (gr_7b g2 hx (by rw [tk, r0, hk]) (by rw [tk, r1]; exact hx1) (by rw [tk, r2]; exact hx2) (by rw [tk, r2])) (fun r hr => ?_)
    rw [tk, r1, tk1, r2, tk2] at hr
    obtain ⟨e5, g5⟩ := hr
    rw [e5]
    refine fin q1 q2 r.1 (st2 + 1) (zK 0 s) z hQ1 (gFr_m f1 (by omega) (by omega) lcB) fk fI ⟨by rw [ffl.1, fl1], by rw [ffl.2.1, fl1], by rw [ffl.2.2, fl1]⟩ k9 (by rw [d7]; exact cB_1) (fun hs => by rw [d8]; exact mK hs) zc (fun _ => zm) zK_ok za.1.2.2.2.1 ?_ g5 (by omega)
    exact zA_c (fun κ s => by rw [ez]; exact zR_pa (zR_sr h1).symm (zR_sl h2).symm) (zPa_A (zK_fm (j := 0)) fb (fun _ y _ => y) dR (fun _ y => y.elim) sb hg hgd zK_A za)
/-- THE CLASS'S VISIT of every tree -/
theorem go_T (W : pcW names kk ff ss xx m) (hgO : ∀ i, v3 (gO P i)) (hm : m ≤ 1000) (hS : gSt M E P D n ps sg pa pls N) : ∀ (T : tT) (V : Int32 → Prop) (k : Nat) (up : Int32) (w : Int) (t : Int32) (a c : Int) (Es : List (Int32 × Int32)), gTr M kk ff xx m n ps sg pa T V k up w t a c Es → gVis G E M P D pls N T V k w.toNat
  | .const x, V, k, up, w, t, a, c, Es, h => gv_leaf hm hS h
  | .unary x A, V, k, up, w, t, a, c, Es, h => gv_un W hgO hm hS h (go_T W hgO hm hS A _ _ _ _ _ _ _ _ (gTr_un hm h))
  | .binary x A B, V, k, up, w, t, a, c, Es, h => by
    obtain ⟨tA, tB⟩ := gTr_bi hm h
    have gA' := go_T W hgO hm hS A _ _ _ _ _ _ _ _ tA
    have gB' := go_T W hgO hm hS B _ _ _ _ _ _ _ _ tB
    have hO := h.1.1
    rcases hO.1.1 with ⟨z, -⟩ | ⟨z | z, -⟩
    · rw [if_neg (by rw [z]; decide), Int.add_zero] at gB'
      intro ρ md s S q x2 st F hR hP hst kon
      cases md with
      | none => exact gv_bi3r hm hS h z gA' gB' hR hP hst kon
      | some d => exact gv_bi3s W hgO hm hS h z gA' gB' hR hP hst kon
    · rw [if_pos z] at gB'
      intro ρ md s S q x2 st F hR hP hst kon
      cases md with
      | none => exact gv_bi5r hm hS h z gA' gB' hR hP hst kon
      | some d => exact gv_bi5s hm hS h z gA' gB' hR hP hst kon
    · rw [if_neg (by rw [z]; decide), Int.add_zero] at gB'
      intro ρ md s S q x2 st F hR hP hst kon
      cases md with
      | none => exact gv_bi7r hm hS h z gA' gB' hR hP hst kon
      | some d => exact gv_bi7s hm hS h z gA' gB' hR hP hst kon
  | .nodeWithAntiquot .., _, _, _, _, _, _, _, _, h => h.1.1.elim
  | .node .., _, _, _, _, _, _, _, _, h => h.1.1.elim
  | .trailingNode .., _, _, _, _, _, _, _, _, h => h.1.1.elim
  | .symbol .., _, _, _, _, _, _, _, _, h => h.1.1.elim
  | .nonReservedSymbol .., _, _, _, _, _, _, _, _, h => h.1.1.elim
  | .cat .., _, _, _, _, _, _, _, _, h => h.1.1.elim
  | .parser .., _, _, _, _, _, _, _, _, h => h.1.1.elim
  | .sepBy .., _, _, _, _, _, _, _, _, h => h.1.1.elim
  | .sepBy1 .., _, _, _, _, _, _, _, _, h => h.1.1.elim
  | .unicodeSymbol .., _, _, _, _, _, _, _, _, h => h.1.1.elim
end GO5
