/-! a visit of the class: sequence and both that start -/
section GO4
variable {G : hg_E} {E : rvP} {M : md_S} {P : gvP} {D : Option Nat → Prop} {names : Int32} {kk ff ss xx : Nat → Int32} {m n ps sg pa pls N : Nat} {T A B Ta Tb : tT} {V : Int32 → Prop} {k ka kB va : Nat} {up : Int32} {w : Int} {t : Int32} {a c : Int} {Es : List (Int32 × Int32)} {S : hg_S} {q q1 q2 q3 : rsT} {x : Lean.Name} {x2 : Int32} {st st2 : Nat} {F : hg_S ⊕ hg_S → Prop}
theorem pa_m {s : Prop} {za zb : zvT} {p u v : Int32} (hp : bB p s) (oa : zOk s za) (ob : zOk s zb) (ha : s → mB u (zM za)) (hb : s → mB v (zM zb)) : mB (if p = 0 then -1 else (if u = -1 ∨ v = -1 then -1 else dc_max u v)) (zM (zPa za zb)) := by
  rcases hp with ⟨hs, e⟩ | ⟨hs, e⟩
  · rw [if_neg (by rw [e]; decide)]
    refine mB_pa (s := s) (ha hs) (hb hs) ⟨fun y => if_pos (Or.inl y), fun y => if_pos (Or.inr y), fun y1 y2 => if_neg (fun y => y.elim y1 y2)⟩
  · rw [if_pos e]
    exact Or.inr ⟨fun d y => hs ((zPa_ok oa ob).1 d y), rfl⟩
theorem reCb_7 {j a' b' : Nat} : (reCb q j a' b').1 7 j = gP (q.1 7 a') (q.1 7 b') := reAn_7
theorem reCb_8 {j a' b' : Nat} : (reCb q j a' b').1 8 j = if q.1 9 j = 0 then -1 else (if q.1 8 a' = -1 ∨ q.1 8 b' = -1 then -1 else dc_max (q.1 8 a') (q.1 8 b')) := reAn_8
theorem gv_bi5s (hm : m ≤ 1000) (hS : gSt M E P D n ps sg pa pls N) (hT : gTr M kk ff xx m n ps sg pa (.binary x A B) V k up w t a c Es) (hk : (lT x).1 = 5) (hA : gVis G E M P D pls N A V (k + 1) w.toNat) (hB : gVis G E M P D pls N B V (k + 1 + tsz A) (w + 1).toNat) {ρ : Nat → Nat} {d : Nat} {s : Prop} (hR : RV G E S q) (hP : gPre M P D (.binary x A B) V k w.toNat ρ (some d) s q) (hst : st + cst (.binary x A B) (some d) ≤ N) (kon : ∀ S' q' st', RV G E S' q' → gPost M P pls (.binary x A B) k w.toNat ρ (some d) s q q' → st' + 1 ≤ st + cst (.binary x A B) (some d) → dc_wp (dc_it (gtS G E) (S', Int32.ofNat k, -1, Int32.ofNat st')) F) : dc_wp (dc_it (gtS G E) (S, x2, Int32.ofNat k, Int32.ofNat st)) F := by
  obtain ⟨⟨u1, u2, u3, u4, u5⟩, ⟨hx, tk, r0, r1, r2, r4, r7, rw⟩, ⟨hx1, tk1, r13⟩, hx2, tk2, r23⟩ := bi_r hm hS hT
  have ezc : k + tsz (.binary x A B) = k + (1 + tsz A + tsz B) := rfl
  have cs2 : cst (.binary x A B) (some d) = 2 * (1 + tsz A + tsz B) := rfl
  rw [cs2] at hst kon
  have hmd : ¬ q.2 15 = 0 ∧ q.2 17 = Int32.ofNat d ∧ d < w.toNat := hP.2.2.2.1
  have hb9 := hP.2.1
  have h9 := b9_s hb9
  obtain ⟨tA, tB⟩ := gTr_bi hm hT
  rw [if_pos hk] at tB
  obtain ⟨lcA, lcB⟩ := lc_bi (x := x) (A := A) (B := B)
  obtain ⟨hVl, hlT⟩ := hVT hT
  have fa := gZ_fm (P := P) hm tA.1 (ρ := ρ) (md := some d) (show d ≤ w.toNat by omega)
  have fb := gZ_fm (P := P) hm tB.1 (ρ := ρ) (md := some d) (show d ≤ (w + 1).toNat by omega)
  have dR : ∀ i, (∃ y, V y ∧ i = ρ y.toInt.toNat) → ¬ INq M.2.1 k (tsz (.binary x A B)) (some d) w.toNat i := by
    rintro i ⟨y, hy, rfl⟩
    exact (hP.2.2.1 y hy).2.2
  have sa : ∀ j, INq M.2.1 (k + 1) (tsz A) (some d) w.toNat j → INq M.2.1 k (tsz (.binary x A B)) (some d) w.toNat j := fun j hj => INq_m hj (by omega) (by omega) (fun d => id)
  have sb : ∀ j, INq M.2.1 (k + 1 + tsz A) (tsz B) (some d) (w + 1).toNat j → INq M.2.1 k (tsz (.binary x A B)) (some d) w.toNat j := fun j hj => INq_m hj (by omega) (by omega) (fun d => mdD_m (by omega))
  have dab : ∀ i, INq M.2.1 (k + 1) (tsz A) (some d) w.toNat i → INq M.2.1 (k + 1 + tsz A) (tsz B) (some d) (w + 1).toNat i → False := fun i h1 h2 => INq_d h1 h2 (Or.inl (Nat.le_refl _))
  have ez : gZ M P (.binary x A B) k ρ (some d) = fun κ s => zTh (gZ M P A (k + 1) ρ (some d) κ s) (gZ M P B (k + 1 + tsz A) ρ (some d) κ (zM (gZ M P A (k + 1) ρ (some d) κ s) 0)) := by
    funext κ s
    show zv _ _ _ _ _ (.binary x A B) k ρ (some d) s = _
    unfold zv
    rw [if_neg (by rw [hk]; decide), if_pos hk]
    rfl
  refine gt_bs hR (gtN hS) (by omega) (nk_1 (by omega)) hmd.1 (wq_w (bs_w hR hx (by rw [tk, r0, hk]; decide) (by rw [tk]; exact h9) (by rw [tk, r1]; exact hx1)) (fun r hr => ?_))
  rw [tk, r1, tk1] at hr
  obtain ⟨e1, g1⟩ := hr
  rw [e1]
  have hQ1 : gQ k (k + tsz (.binary x A B)) (lcT (.binary x A B)) q (uX q 9 (k + 1) (q.1 9 k)) := gQ_u (by omega) (by omega) (by omega)
  have n9 : (uX q 9 (k + 1) (q.1 9 k)).1 9 k = q.1 9 k := by rw [uX_s, upd_n (by omega)]
  have n4 : (uX q 9 (k + 1) (q.1 9 k)).1 4 = q.1 4 := uX_n (by decide)
  have fl1 : (uX q 9 (k + 1) (q.1 9 k)).2 = q.2 := rfl
  have pA := gPre_1 (A := A) (kA := k + 1) (v' := w.toNat) (s' := s) hP hQ1 ⟨rfl, rfl, rfl⟩ (fun y hy => by rw [n4]) (by omega) (by omega) (by rw [u9_9]; exact hb9) (by omega) (fun z => by cases z)
  refine hA ρ (some d) s r.1 _ (Int32.ofNat k) (st + 1) F g1 pA (by show st + 1 + 2 * tsz A ≤ N; omega) ?_
  generalize uX q 9 (k + 1) (q.1 9 k) = q1 at hQ1 n9 n4 fl1
  intro S2 q2 st2 g2 pst hst2
  have hst2 : st2 + 1 ≤ st + 1 + 2 * tsz A := hst2
  obtain ⟨f1, ffl, fk, fI, z, ⟨zc, zm⟩, za⟩ := pst
  have oka := za.1.2.2.2.1
  have k9 : q2.1 9 k = q.1 9 k := by rw [f1.1 9 k (by omega) (by omega)]; exact n9
  have e7 : (reS1 q2 k (k + 1)).1 7 k = q2.1 7 (k + 1) := reAn_7
  have e8 : (reS1 q2 k (k + 1)).1 8 k = q2.1 8 (k + 1) := by
    have : (reS1 q2 k (k + 1)).1 8 k = if q2.1 9 k = 0 then -1 else q2.1 8 (k + 1) := reAn_8
    rw [this, k9, ms_if hb9 zm oka]
  have hQs : gQ k (k + tsz (.binary x A B)) (lcT (.binary x A B)) q2 (reS1 q2 k (k + 1)) := gQ_an (Nat.le_refl _) (by omega)
  have fT := gFr_m (L' := lcT (.binary x A B)) f1 (show k ≤ k + 1 by omega) (show k + 1 + tsz A ≤ k + tsz (.binary x A B) by omega) lcA
  have v0 : (q2.1 7 (k + 1) &&& 1) = 0 ↔ ¬ zC z 0 := cB_0 zc
  refine gt_gs g2 (gtN hS) (by omega) hx1 rfl (nk_0 (by omega) (by omega)) ?_ (by rw [ffl.1, fl1]; exact hmd.1) ?_
  · rw [ffl.2.1, fl1]
    exact fun e => hP.2.2.2.2.1 (k + 1) (by omega) (by omega) e.symm
  rw [tk1, r13]
  refine wq_w (gs_5a g2 hx (by rw [tk, r0, hk]) hx1 (by rw [tk, r2]; exact nk_i (by omega) (by omega) (by omega)) (by rw [tk, r2]; exact hx2)) (fun r hr => ?_)
  rw [tk, tk1, r2, tk2, e8] at hr
  rcases hr with ⟨c0, e3, g3⟩ | ⟨c0, e3, g3⟩
  · have nz := v0.mp c0
    rw [e3]
    refine kon r.1 _ (st2 + 1) g3 ?_ (by omega)
    refine gWr hQ1 fT fk fI hQs ⟨by show q2.2 15 = _; rw [ffl.1, fl1], by show q2.2 16 = _; rw [ffl.2.1, fl1], by show q2.2 17 = _; rw [ffl.2.2, fl1]⟩ (z := zTh z (gZ M P B (k + 1 + tsz A) ρ (some d) (sem P q2).1 (zM z 0))) (by rw [e7]; exact cB_t0 zc nz) (by rw [e8]; exact mB_t0 zm oka nz) ?_
    rw [ez]
    exact zTh_A fa fb dab dR sa sb (bi_rg hm hT).1 za (fun y => absurd y nz) (fun _ => ⟨rfl, rfl⟩)
  · have z0 : zC z 0 := Classical.byContradiction (fun y => c0 (v0.mpr y))
    have m0 : q2.1 8 (k + 1) = 0 ↔ zM z 0 := (mB_0 zm (fun c d hc hd => (oka.2.2.2.2.1 d hd c).mp ((oka.2.2.2.2.1 c hc c).mpr rfl))).1
    rw [e3]
    have hQ3 : gQ k (k + tsz (.binary x A B)) (lcT (.binary x A B)) q2 (uX (reS1 q2 k (k + 1)) 9 (k + 1 + tsz A) (if q2.1 8 (k + 1) = 0 then 1 else 0)) := gQ_tr hQs (gQ_u (by omega) (by omega) (by omega))
    have b93 : bB ((uX (reS1 q2 k (k + 1)) 9 (k + 1 + tsz A) (if q2.1 8 (k + 1) = 0 then 1 else 0)).1 9 (k + 1 + tsz A)) (zM z 0) := by
      rw [u9_9]
      by_cases y : q2.1 8 (k + 1) = 0
      · rw [if_pos y]; exact Or.inl ⟨m0.mp y, rfl⟩
      · rw [if_neg y]; exact Or.inr ⟨fun u => y (m0.mpr u), rfl⟩
    have n43 : (uX (reS1 q2 k (k + 1)) 9 (k + 1 + tsz A) (if q2.1 8 (k + 1) = 0 then 1 else 0)).1 4 = q2.1 4 := by
      rw [uX_n (by decide)]
      exact reAn_n (by decide) (by decide)
    have b7 : (uX (reS1 q2 k (k + 1)) 9 (k + 1 + tsz A) (if q2.1 8 (k + 1) = 0 then 1 else 0)).1 7 k = q2.1 7 (k + 1) := by rw [uX_n (by decide)]; exact e7
    have b8 : (uX (reS1 q2 k (k + 1)) 9 (k + 1 + tsz A) (if q2.1 8 (k + 1) = 0 then 1 else 0)).1 8 k = q2.1 8 (k + 1) := by rw [uX_n (by decide)]; exact e8
    have b9 : (uX (reS1 q2 k (k + 1)) 9 (k + 1 + tsz A) (if q2.1 8 (k + 1) = 0 then 1 else 0)).1 9 k = q.1 9 k := by
      have : (reS1 q2 k (k + 1)).1 9 = q2.1 9 := reAn_n (by decide) (by decide)
      rw [uX_s, upd_n (by omega), this]
      exact k9
    have fl3 : (uX (reS1 q2 k (k + 1)) 9 (k + 1 + tsz A) (if q2.1 8 (k + 1) = 0 then 1 else 0)).2 = q2.2 := rfl
    generalize uX (reS1 q2 k (k + 1)) 9 (k + 1 + tsz A) (if q2.1 8 (k + 1) = 0 then 1 else 0) = q3 at g3 hQ3 b93 n43 b7 b8 b9 fl3
    have pB := gPre_2 (Ta := A) (ka := k + 1) (Tb := B) (kB := k + 1 + tsz A) hS hP hQ1 fl1 n4 f1 ffl fI za fa.2.2.1 lcA hVl hlT hQ3 fl3 n43 (by omega) (by omega) b93 (by omega) tB dab (fun z => by cases z)
    refine hB ρ (some d) _ r.1 q3 (Int32.ofNat k) (st2 + 1) F g3 pB (by show st2 + 1 + 2 * tsz B ≤ N; omega) ?_
    intro S4 q4 st4 g4 pst hst4
    have hst4 : st4 + 1 ≤ st2 + 1 + 2 * tsz B := hst4
    obtain ⟨h1, hfl, hk4, hI4, zb, ⟨zbc, zbm⟩, zbA⟩ := pst
    refine gt_gs g4 (gtN hS) (by omega) hx2 rfl (nk_0 (by omega) (by omega)) ?_ (by rw [hfl.1, fl3, ffl.1, fl1]; exact hmd.1) ?_
    · rw [hfl.2.1, fl3, ffl.2.1, fl1]
      exact fun e => hP.2.2.2.2.1 (k + 1 + tsz A) (by omega) (by omega) e.symm
    rw [tk2, r23]
    refine wq_w (gs_5b g4 hx (by rw [tk, r0, hk]) hx2 (by rw [tk, r2])) (fun r hr => ?_)
    rw [tk, tk2] at hr
    obtain ⟨e5, g5⟩ := hr
    rw [e5]
    refine kon r.1 _ (st4 + 1) g5 ?_ (by omega)
    have hQ5 : gQ k (k + tsz (.binary x A B)) (lcT (.binary x A B)) q4 (rePb q4 k (k + 1 + tsz A)) := gQ_an (Nat.le_refl _) (by omega)
    have d7 : q4.1 7 k = q2.1 7 (k + 1) := by rw [h1.1 7 k (by omega) (by omega)]; exact b7
    have d8 : q4.1 8 k = q2.1 8 (k + 1) := by rw [h1.1 8 k (by omega) (by omega)]; exact b8
    have d9 : q4.1 9 k = q.1 9 k := by rw [h1.1 9 k (by omega) (by omega)]; exact b9
    have fall : gFr k (k + tsz (.binary x A B)) (lcT (.binary x A B)) q1 q4 := gFr_tr (gFr_tr fT hQ3.1) (gFr_m h1 (by omega) (by omega) lcB)
    obtain ⟨y1, y2⟩ := pb_cm zc zm zbc zbm oka zbA.1.2.2.2.1 z0 hb9
    refine gWr hQ1 fall (gKn_tr (gKn_tr fk (gQ_kn hQ3)) hk4) hI4 hQ5 ⟨by show q4.2 15 = _; rw [hfl.1, fl3, ffl.1, fl1], by show q4.2 16 = _; rw [hfl.2.1, fl3, ffl.2.1, fl1], by show q4.2 17 = _; rw [hfl.2.2, fl3, ffl.2.2, fl1]⟩ (z := zTh z zb) (by rw [rePb_7, d7]; exact y1) (by rw [rePb_8, d8, d9]; exact y2) ?_
    rw [gQ_sem (P := P) hQ3] at zbA
    rw [ez]
    exact zTh_A fa fb dab dR sa sb (bi_rg hm hT).1 za (fun _ => zbA) (fun y => absurd z0 y)
theorem gv_bi7s (hm : m ≤ 1000) (hS : gSt M E P D n ps sg pa pls N) (hT : gTr M kk ff xx m n ps sg pa (.binary x A B) V k up w t a c Es) (hk : (lT x).1 = 7) (hA : gVis G E M P D pls N A V (k + 1) w.toNat) (hB : gVis G E M P D pls N B V (k + 1 + tsz A) w.toNat) {ρ : Nat → Nat} {d : Nat} {s : Prop} (hR : RV G E S q) (hP : gPre M P D (.binary x A B) V k w.toNat ρ (some d) s q) (hst : st + cst (.binary x A B) (some d) ≤ N) (kon : ∀ S' q' st', RV G E S' q' → gPost M P pls (.binary x A B) k w.toNat ρ (some d) s q q' → st' + 1 ≤ st + cst (.binary x A B) (some d) → dc_wp (dc_it (gtS G E) (S', Int32.ofNat k, -1, Int32.ofNat st')) F) : dc_wp (dc_it (gtS G E) (S, x2, Int32.ofNat k, Int32.ofNat st)) F := by
  obtain ⟨⟨u1, u2, u3, u4, u5⟩, ⟨hx, tk, r0, r1, r2, r4, r7, rw⟩, ⟨hx1, tk1, r13⟩, hx2, tk2, r23⟩ := bi_r hm hS hT
  have ezc : k + tsz (.binary x A B) = k + (1 + tsz A + tsz B) := rfl
  have cs2 : cst (.binary x A B) (some d) = 2 * (1 + tsz A + tsz B) := rfl
  rw [cs2] at hst kon
  have hmd : ¬ q.2 15 = 0 ∧ q.2 17 = Int32.ofNat d ∧ d < w.toNat := hP.2.2.2.1
  have hb9 := hP.2.1
  have h9 := b9_s hb9
  obtain ⟨tA, tB⟩ := gTr_bi hm hT
  have w5 : w + (if (lT x).1 = 5 then (1 : Int) else 0) = w := by rw [if_neg (by rw [hk]; decide)]; omega
  rw [w5] at tB
  obtain ⟨lcA, lcB⟩ := lc_bi (x := x) (A := A) (B := B)
  obtain ⟨hVl, hlT⟩ := hVT hT
  have fa := gZ_fm (P := P) hm tA.1 (ρ := ρ) (md := some d) (show d ≤ w.toNat by omega)
  have fb := gZ_fm (P := P) hm tB.1 (ρ := ρ) (md := some d) (show d ≤ w.toNat by omega)
  have dR : ∀ i, (∃ y, V y ∧ i = ρ y.toInt.toNat) → ¬ INq M.2.1 k (tsz (.binary x A B)) (some d) w.toNat i := by
    rintro i ⟨y, hy, rfl⟩
    exact (hP.2.2.1 y hy).2.2
  have sa : ∀ j, INq M.2.1 (k + 1) (tsz A) (some d) w.toNat j → INq M.2.1 k (tsz (.binary x A B)) (some d) w.toNat j := fun j hj => INq_m hj (by omega) (by omega) (fun d => id)
  have sb : ∀ j, INq M.2.1 (k + 1 + tsz A) (tsz B) (some d) w.toNat j → INq M.2.1 k (tsz (.binary x A B)) (some d) w.toNat j := fun j hj => INq_m hj (by omega) (by omega) (fun d => id)
  have dab : ∀ i, INq M.2.1 (k + 1) (tsz A) (some d) w.toNat i → INq M.2.1 (k + 1 + tsz A) (tsz B) (some d) w.toNat i → False := fun i h1 h2 => INq_d h1 h2 (Or.inl (Nat.le_refl _))
  have ez : gZ M P (.binary x A B) k ρ (some d) = fun κ s => zPa (gZ M P A (k + 1) ρ (some d) κ s) (gZ M P B (k + 1 + tsz A) ρ (some d) κ s) := by
    funext κ s
    show zv _ _ _ _ _ (.binary x A B) k ρ (some d) s = _
    unfold zv
    rw [if_neg (by rw [hk]; decide), if_neg (by rw [hk]; decide)]
    rfl
  refine gt_bs hR (gtN hS) (by omega) (nk_1 (by omega)) hmd.1 (wq_w (bs_w hR hx (by rw [tk, r0, hk]; decide) (by rw [tk]; exact h9) (by rw [tk, r1]; exact hx1)) (fun r hr => ?_))
  rw [tk, r1, tk1] at hr
  obtain ⟨e1, g1⟩ := hr
  rw [e1]
  have hQ1 : gQ k (k + tsz (.binary x A B)) (lcT (.binary x A B)) q (uX q 9 (k + 1) (q.1 9 k)) := gQ_u (by omega) (by omega) (by omega)
  have n9 : (uX q 9 (k + 1) (q.1 9 k)).1 9 k = q.1 9 k := by rw [uX_s, upd_n (by omega)]
  have n4 : (uX q 9 (k + 1) (q.1 9 k)).1 4 = q.1 4 := uX_n (by decide)
  have fl1 : (uX q 9 (k + 1) (q.1 9 k)).2 = q.2 := rfl
  have pA := gPre_1 (A := A) (kA := k + 1) (v' := w.toNat) (s' := s) hP hQ1 ⟨rfl, rfl, rfl⟩ (fun y hy => by rw [n4]) (by omega) (by omega) (by rw [u9_9]; exact hb9) (by omega) (fun z => by cases z)
  refine hA ρ (some d) s r.1 _ (Int32.ofNat k) (st + 1) F g1 pA (by show st + 1 + 2 * tsz A ≤ N; omega) ?_
  generalize uX q 9 (k + 1) (q.1 9 k) = q1 at hQ1 n9 n4 fl1
  intro S2 q2 st2 g2 pst hst2
  have hst2 : st2 + 1 ≤ st + 1 + 2 * tsz A := hst2
  obtain ⟨f1, ffl, fk, fI, z, ⟨zc, zm⟩, za⟩ := pst
  have k9 : q2.1 9 k = q.1 9 k := by rw [f1.1 9 k (by omega) (by omega)]; exact n9
  have fT := gFr_m (L' := lcT (.binary x A B)) f1 (show k ≤ k + 1 by omega) (show k + 1 + tsz A ≤ k + tsz (.binary x A B) by omega) lcA
  refine gt_gs g2 (gtN hS) (by omega) hx1 rfl (nk_0 (by omega) (by omega)) ?_ (by rw [ffl.1, fl1]; exact hmd.1) ?_
  · rw [ffl.2.1, fl1]
    exact fun e => hP.2.2.2.2.1 (k + 1) (by omega) (by omega) e.symm
  rw [tk1, r13]
  refine wq_w (gs_7a g2 hx (by rw [tk, r0, hk]) (by rw [tk, k9]; exact h9) (by rw [tk, r2]; exact hx2) (by rw [tk, r2]; exact nk_i (by omega) (by omega) (by omega))) (fun r hr => ?_)
  rw [tk, r2, tk2, k9] at hr
  obtain ⟨e3, g3⟩ := hr
  rw [e3]
  have hQ3 : gQ k (k + tsz (.binary x A B)) (lcT (.binary x A B)) q2 (uX q2 9 (k + 1 + tsz A) (q.1 9 k)) := gQ_u (by omega) (by omega) (by omega)
  have b93 : bB ((uX q2 9 (k + 1 + tsz A) (q.1 9 k)).1 9 (k + 1 + tsz A)) s := by rw [u9_9]; exact hb9
  have n43 : (uX q2 9 (k + 1 + tsz A) (q.1 9 k)).1 4 = q2.1 4 := uX_n (by decide)
  have fl3 : (uX q2 9 (k + 1 + tsz A) (q.1 9 k)).2 = q2.2 := rfl
  have b7 : (uX q2 9 (k + 1 + tsz A) (q.1 9 k)).1 7 = q2.1 7 := uX_n (by decide)
  have b8 : (uX q2 9 (k + 1 + tsz A) (q.1 9 k)).1 8 = q2.1 8 := uX_n (by decide)
  have b9 : (uX q2 9 (k + 1 + tsz A) (q.1 9 k)).1 9 k = q.1 9 k := by rw [uX_s, upd_n (by omega)]; exact k9
  generalize uX q2 9 (k + 1 + tsz A) (q.1 9 k) = q3 at g3 hQ3 b93 n43 fl3 b7 b8 b9
  have pB := gPre_2 (Ta := A) (ka := k + 1) (Tb := B) (kB := k + 1 + tsz A) hS hP hQ1 fl1 n4 f1 ffl fI za fa.2.2.1 lcA hVl hlT hQ3 fl3 n43 (by omega) (by omega) b93 (by omega) tB dab (fun z => by cases z)
  refine hB ρ (some d) _ r.1 q3 (Int32.ofNat k) (st2 + 1) F g3 pB (by show st2 + 1 + 2 * tsz B ≤ N; omega) ?_
  intro S4 q4 st4 g4 pst hst4
  have hst4 : st4 + 1 ≤ st2 + 1 + 2 * tsz B := hst4
  obtain ⟨h1, hfl, hk4, hI4, zb, ⟨zbc, zbm⟩, zbA⟩ := pst
  refine gt_gs g4 (gtN hS) (by omega) hx2 rfl (nk_0 (by omega) (by omega)) ?_ (by rw [hfl.1, fl3, ffl.1, fl1]; exact hmd.1) ?_
  · rw [hfl.2.1, fl3, ffl.2.1, fl1]
    exact fun e => hP.2.2.2.2.1 (k + 1 + tsz A) (by omega) (by omega) e.symm
  rw [tk2, r23]
  refine wq_w (gs_7b g4 hx (by rw [tk, r0, hk]) (by rw [tk, r1]; exact hx1) (by rw [tk, r2]; exact hx2) (by rw [tk, r2])) (fun r hr => ?_)
  rw [tk, r1, tk1, r2, tk2] at hr
  obtain ⟨e5, g5⟩ := hr
  rw [e5]
  refine kon r.1 _ (st4 + 1) g5 ?_ (by omega)
  have hQ5 : gQ k (k + tsz (.binary x A B)) (lcT (.binary x A B)) q4 (reCb q4 k (k + 1) (k + 1 + tsz A)) := gQ_an (Nat.le_refl _) (by omega)
  have d7 : q4.1 7 (k + 1) = q2.1 7 (k + 1) := by rw [h1.1 7 (k + 1) (by omega) (by omega), b7]
  have d8 : q4.1 8 (k + 1) = q2.1 8 (k + 1) := by rw [h1.1 8 (k + 1) (by omega) (by omega), b8]
  have d9 : q4.1 9 k = q.1 9 k := by rw [h1.1 9 k (by omega) (by omega)]; exact b9
  have fall : gFr k (k + tsz (.binary x A B)) (lcT (.binary x A B)) q1 q4 := gFr_tr (gFr_tr fT hQ3.1) (gFr_m h1 (by omega) (by omega) lcB)
  refine gWr hQ1 fall (gKn_tr (gKn_tr fk (gQ_kn hQ3)) hk4) hI4 hQ5 ⟨by show q4.2 15 = _; rw [hfl.1, fl3, ffl.1, fl1], by show q4.2 16 = _; rw [hfl.2.1, fl3, ffl.2.1, fl1], by show q4.2 17 = _; rw [hfl.2.2, fl3, ffl.2.2, fl1]⟩ (z := zPa z zb) (by rw [reCb_7, d7]; exact gP_b zc zbc) (by rw [reCb_8, d8, d9]; exact pa_m hb9 za.1.2.2.2.1 zbA.1.2.2.2.1 (fun _ => zm) (fun _ => zbm)) ?_
  rw [gQ_sem (P := P) hQ3] at zbA
  rw [ez]
  exact zPa_A fa fb dab dR sa sb (bi_rg hm hT).1 (bi_rg hm hT).2 za zbA
end GO4
