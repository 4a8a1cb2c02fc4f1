/-! a visit of the class: two within that start -/
section GO3
variable {G : hg_E} {E : rvP} {M : md_S} {P : gvP} {D : Option Nat → Prop} {names : Int32} {kk ff ss xx : Nat → Int32} {m n ps sg pa pls N : Nat} {T A B Ta Tb : tT} {V : Int32 → Prop} {k ka kB va : Nat} {up : Int32} {w : Int} {t : Int32} {a c : Int} {Es : List (Int32 × Int32)} {S : hg_S} {q q1 q2 q3 : rsT} {x : Lean.Name} {x2 : Int32} {st st2 : Nat} {F : hg_S ⊕ hg_S → Prop}
theorem bB_cg {p : Int32} {s s' : Prop} (h : bB p s) (e : s ↔ s') : bB p s' := h.imp (fun z => ⟨e.mp z.1, z.2⟩) (fun z => ⟨fun y => z.1 (e.mpr y), z.2⟩)
theorem bB_n2 {p t' : Int32} {s : Prop} (h : bB p s) : bB (if p = 0 then 0 else if t' = 2 then 0 else 1) (s ∧ ¬ t' = 2) := by
  rcases h with ⟨h1, e⟩ | ⟨h1, e⟩
  · rw [if_neg (by rw [e]; decide)]
    by_cases z : t' = 2
    · rw [if_pos z]; exact Or.inr ⟨fun y => y.2 z, rfl⟩
    · rw [if_neg z]; exact Or.inl ⟨⟨h1, z⟩, rfl⟩
  · rw [if_pos e]
    exact Or.inr ⟨fun y => h1 y.1, rfl⟩
theorem pr_z (hk : (lT x).1 = 3) {ρ : Nat → Nat} {d : Nat} : gZ M P (.binary x A B) k ρ (some d) = zSlF (fun κ => tvQ M.2.1 κ ρ (M.2.1 54 k)) 0 1 (gZ M P A (k + 1) ρ (some d)) (gZ M P B (k + 1 + tsz A) ρ (some d)) := by
  funext κ s
  show zv _ _ _ _ _ (.binary x A B) k ρ (some d) s = _
  unfold zv
  rw [if_pos hk]
  rfl
theorem gv_bi3s (W : pcW names kk ff ss xx m) (hgO : ∀ i, v3 (gO P i)) (hm : m ≤ 1000) (hS : gSt M E P D n ps sg pa pls N) (hT : gTr M kk ff xx m n ps sg pa (.binary x A B) V k up w t a c Es) (hk : (lT x).1 = 3) (hA : gVis G E M P D pls N A V (k + 1) w.toNat) (hB : gVis G E M P D pls N B V (k + 1 + tsz A) w.toNat) {ρ : Nat → Nat} {d : Nat} {s : Prop} (hR : RV G E S q) (hP : gPre M P D (.binary x A B) V k w.toNat ρ (some d) s q) (hst : st + cst (.binary x A B) (some d) ≤ N) (kon : ∀ S' q' st', RV G E S' q' → gPost M P pls (.binary x A B) k w.toNat ρ (some d) s q q' → st' + 1 ≤ st + cst (.binary x A B) (some d) → dc_wp (dc_it (gtS G E) (S', Int32.ofNat k, -1, Int32.ofNat st')) F) : dc_wp (dc_it (gtS G E) (S, x2, Int32.ofNat k, Int32.ofNat st)) F := by
  obtain ⟨⟨u1, u2, u3, u4, u5⟩, ⟨hx, tk, r0, r1, r2, r4, r7, rw⟩, ⟨hx1, tk1, r13⟩, hx2, tk2, r23⟩ := bi_r hm hS hT
  have ezc : k + tsz (.binary x A B) = k + (1 + tsz A + tsz B) := rfl
  have cs2 : cst (.binary x A B) (some d) = 2 * (1 + tsz A + tsz B) := rfl
  rw [cs2] at hst kon
  have hmd : ¬ q.2 15 = 0 ∧ q.2 17 = Int32.ofNat d ∧ d < w.toNat := hP.2.2.2.1
  have hb9 := hP.2.1
  have h9 := b9_s hb9
  obtain ⟨tA, tB⟩ := gTr_bi hm hT
  have w5 : w + (if (lT x).1 = 5 then (1 : Int) else 0) = w := by rw [if_neg (by rw [hk]; decide)]; omega
  rw [w5] at tB
  obtain ⟨lcA, lcB⟩ := lc_bi (x := x) (A := A) (B := B)
  obtain ⟨hVl, hlT⟩ := hVT hT
  have hsf := hT.1
  obtain ⟨hO, hL, -, -, hbb, -, -, -, -, -, hVs⟩ := hsf
  have hpo : pOk kk ff xx 0 (m : Int) V (lT x).2.2.2.2.2 := by
    rcases hO.1.1 with z | ⟨z, -⟩
    · exact z.2
    · rcases z with z | z <;> (rw [hk] at z; exact absurd z (by decide))
  have t0A := tsm_0 (fun V e h => pO_b hm h) A _ tA.1.1
  have t0B := tsm_0 (fun V e h => pO_b hm h) B _ tB.1.1
  have h3 : c + (txx xx (lT x).2.2.2.2.2 + (tsm xx A + tsm xx B)) ≤ (ps : Int) := hT.2.2.1
  have vo := gVo W hm hS hL.1 hpo hbb.2.1 (by omega) (by omega) (Or.inl hk) hP.1 (fun y hy => ⟨(hP.2.2.1 y hy).1, (hP.2.2.1 y hy).2.1⟩) (fun y hy => ⟨(hVs y hy).1.1, hT.2.2.2.2.1 y hy⟩) hR
  obtain ⟨tv, hte⟩ : ∃ tv, tvQ M.2.1 (kap P q) ρ (M.2.1 54 k) = tv := ⟨_, rfl⟩
  rw [hte] at vo
  have tv3 : v3 tv := by
    rw [← hte]
    exact tvF_3 (fun i => kap_v hgO hP.1) _ _
  have fa := gZ_fm (P := P) hm tA.1 (ρ := ρ) (md := some d) (show d ≤ w.toNat by omega)
  have fb := gZ_fm (P := P) hm tB.1 (ρ := ρ) (md := some d) (show d ≤ w.toNat by omega)
  have dR : ∀ i, (∃ y, V y ∧ i = ρ y.toInt.toNat) → ¬ INq M.2.1 k (tsz (.binary x A B)) (some d) w.toNat i := by
    rintro i ⟨y, hy, rfl⟩
    exact (hP.2.2.1 y hy).2.2
  have sa : ∀ j, INq M.2.1 (k + 1) (tsz A) (some d) w.toNat j → INq M.2.1 k (tsz (.binary x A B)) (some d) w.toNat j := fun j hj => INq_m hj (by omega) (by omega) (fun d => id)
  have sb : ∀ j, INq M.2.1 (k + 1 + tsz A) (tsz B) (some d) w.toNat j → INq M.2.1 k (tsz (.binary x A B)) (some d) w.toNat j := fun j hj => INq_m hj (by omega) (by omega) (fun d => id)
  have dab : ∀ i, INq M.2.1 (k + 1) (tsz A) (some d) w.toNat i → INq M.2.1 (k + 1 + tsz A) (tsz B) (some d) w.toNat i → False := fun i h1 h2 => INq_d h1 h2 (Or.inl (Nat.le_refl _))
  have hX : tvQ M.2.1 (sem P q).1 ρ (M.2.1 54 k) = tv := hte
  have comb := fun (X1 X2 : zX4) (ca cb : zvT) => zSl_A (tv := fun κ => tvQ M.2.1 κ ρ (M.2.1 54 k)) (x := 0) (y := 1) (A := gA P) (s := s) (X := sem P q) (X1 := X1) (X2 := X2) (ca := ca) (cb := cb) tvQ_m ⟨by decide, by decide, by decide⟩ fa fb dab dR sa sb (bi_rg hm hT).1
  rw [hX] at comb
  -- the first one taken
  have beg : ∀ (kc : Nat) (Tc : tT), k < kc → kc + tsz Tc ≤ k + tsz (.binary x A B) → (tv = 0 ∧ kc = k + 1 + tsz A ∨ ¬ tv = 0 ∧ kc = k + 1) → gVis G E M P D pls N Tc V kc w.toNat → 2 * tsz Tc + 1 ≤ 2 * (1 + tsz A + tsz B) → (∀ f S1 q1 S2 q2 st2, q1 = uX (reT q k f tv) 9 kc (if q.1 9 k = 0 then 0 else if tv = 2 then 0 else 1) → gQ k (k + tsz (.binary x A B)) (lcT (.binary x A B)) q q1 → q1.2 = q.2 → q1.1 4 = q.1 4 → q1.1 6 k = tv → q1.1 9 k = q.1 9 k → RV G E S1 q1 → RV G E S2 q2 → gPost M P pls Tc kc w.toNat ρ (some d) (s ∧ ¬ tv = 2) q1 q2 → st2 ≤ st + 2 * tsz Tc → dc_wp (dc_it (gtS G E) (S2, Int32.ofNat kc, -1, Int32.ofNat st2)) F) → dc_wp (dc_it (gtS G E) (S, x2, Int32.ofNat k, Int32.ofNat st)) F := by
    intro kc Tc k1 k2 hkc hC hcs cont
    have zc1 := tsz_pos Tc
    refine gt_bs hR (gtN hS) (by omega) (nk_1 (by omega)) hmd.1 (wq_w (bs_3 hR hx (by rw [tk, r0, hk]) (by rw [tk]; exact h9) (by rw [tk, r1]; exact hx1) (by rw [tk, r2]; exact hx2) (t := tv) (by rw [tk]; exact vo)) (fun r hr => ?_))
    rw [tk, r1, r2] at hr
    have ek : (if tv = 0 then Int32.ofNat (k + 1 + tsz A) else Int32.ofNat (k + 1)) = Int32.ofNat kc := by
      rcases hkc with ⟨z, e⟩ | ⟨z, e⟩
      · rw [if_pos z, e]
      · rw [if_neg z, e]
    rw [ek, show (Int32.ofNat kc).toInt.toNat = kc by rw [Int32.toInt_ofNat_of_lt (by omega)]; omega] at hr
    obtain ⟨e1, f, g1⟩ := hr
    rw [e1]
    obtain ⟨q1, hq1⟩ : ∃ q1, uX (reT q k f tv) 9 kc (if q.1 9 k = 0 then 0 else if tv = 2 then 0 else 1) = q1 := ⟨_, rfl⟩
    have hQ1 : gQ k (k + tsz (.binary x A B)) (lcT (.binary x A B)) q q1 := by
      rw [← hq1]
      exact gQ_tr (gQ_T (Nat.le_refl _) (by omega)) (gQ_u (by omega) (by omega) (by omega))
    have fl1 : q1.2 = q.2 := by rw [← hq1]; rfl
    have n4 : q1.1 4 = q.1 4 := by rw [← hq1, uX_n (by decide), reT_n (by decide) (by decide)]
    have n6 : q1.1 6 k = tv := by rw [← hq1, uX_n (by decide), reT_6]
    have n9 : q1.1 9 k = q.1 9 k := by rw [← hq1, uX_s, upd_n (by omega), reT_n (by decide) (by decide)]
    have b9 : bB (q1.1 9 kc) (s ∧ ¬ tv = 2) := by rw [← hq1, u9_9]; exact bB_n2 hb9
    rw [hq1] at g1
    have pA := gPre_1 (A := Tc) (kA := kc) (v' := w.toNat) hP hQ1 ⟨by rw [fl1], by rw [fl1], by rw [fl1]⟩ (fun y hy => by rw [n4]) k1 k2 b9 (by omega) (fun z => by cases z)
    refine hC ρ (some d) _ r.1 q1 (Int32.ofNat k) (st + 1) F g1 pA (by show st + 1 + 2 * tsz Tc ≤ N; omega) ?_
    intro S2 q2 st2 g2 pst hst2
    have hst2 : st2 + 1 ≤ st + 1 + 2 * tsz Tc := hst2
    exact cont f r.1 q1 S2 q2 st2 hq1.symm hQ1 fl1 n4 n6 n9 g1 g2 pst (by omega)
  by_cases t2 : tv = 2
  · have s0 : s ∧ ¬ tv = 2 ↔ s ∧ tv = 1 := ⟨fun y => absurd t2 y.2, fun y => absurd (t2.symm.trans y.2) (by decide)⟩
    have s1 : (s ∧ tv = 0) = False := propext ⟨fun y => absurd (t2.symm.trans y.2) (by decide), False.elim⟩
    refine beg (k + 1) A (by omega) (by omega) (Or.inr ⟨by rw [t2]; decide, rfl⟩) hA (by omega) ?_
    intro f S1 q1 S2 q2 st2 hq1 hQ1 fl1 n4 n6 n9 g1 g2 pst hst2
    obtain ⟨f1, ffl, fk, fI, z, ⟨zc, zm⟩, za⟩ := pst
    have k6 : q2.1 6 k = 2 := by rw [f1.1 6 k (by omega) (by omega), n6]; exact t2
    have k9 : q2.1 9 k = q.1 9 k := by rw [f1.1 9 k (by omega) (by omega)]; exact n9
    refine gt_gs g2 (gtN hS) (by omega) hx1 rfl (nk_0 (by omega) (by omega)) ?_ (by rw [ffl.1, fl1]; exact hmd.1) ?_
    · rw [ffl.2.1, fl1]
      exact fun e => hP.2.2.2.2.1 (k + 1) (by omega) (by omega) e.symm
    rw [tk1, r13]
    refine wq_w (gs_3 g2 hx (by rw [tk, r0, hk]) (gp_a g2 hx (by rw [tk, r2]; exact hx2) (by rw [tk]; exact k6) (by rw [tk, r1]))) (fun r hr => ?_)
    rw [tk, r2, tk2] at hr
    obtain ⟨e3, g3⟩ := hr
    rw [e3]
    have hQ3 : gQ k (k + tsz (.binary x A B)) (lcT (.binary x A B)) q2 (uX q2 9 (k + 1 + tsz A) 0) := gQ_u (by omega) (by omega) (by omega)
    have b93 : bB ((uX q2 9 (k + 1 + tsz A) 0).1 9 (k + 1 + tsz A)) (s ∧ tv = 0) := by
      rw [u9_9, s1]
      exact Or.inr ⟨id, rfl⟩
    have pB := gPre_2 (Ta := A) (ka := k + 1) (Tb := B) (kB := k + 1 + tsz A) hS hP hQ1 fl1 n4 f1 ffl fI za fa.2.2.1 lcA hVl hlT hQ3 rfl (uX_n (by decide)) (by omega) (by omega) b93 (by omega) tB dab (fun z => by cases z)
    refine hB ρ (some d) _ r.1 _ (Int32.ofNat k) (st2 + 1) F g3 pB (by show st2 + 1 + 2 * tsz B ≤ N; omega) ?_
    intro S4 q4 st4 g4 pst hst4
    have hst4 : st4 + 1 ≤ st2 + 1 + 2 * tsz B := hst4
    obtain ⟨h1, hfl, hk4, hI4, zb, ⟨zbc, zbm⟩, zbA⟩ := pst
    have l6 : q4.1 6 k = 2 := by rw [h1.1 6 k (by omega) (by omega), uX_n (by decide)]; exact k6
    have l7 : q4.1 7 (k + 1) = q2.1 7 (k + 1) := by rw [h1.1 7 (k + 1) (by omega) (by omega), uX_n (by decide)]
    have fl3 : (uX q2 9 (k + 1 + tsz A) 0).2 = q2.2 := rfl
    refine gt_gs g4 (gtN hS) (by omega) hx2 rfl (nk_0 (by omega) (by omega)) ?_ (by rw [hfl.1, fl3, ffl.1, fl1]; exact hmd.1) ?_
    · rw [hfl.2.1, fl3, ffl.2.1, fl1]
      exact fun e => hP.2.2.2.2.1 (k + 1 + tsz A) (by omega) (by omega) e.symm
    rw [tk2, r23]
    refine wq_w (gs_3 g4 hx (by rw [tk, r0, hk]) (gp_b g4 hx hx2 (by rw [tk, r1]; exact hx1) (by rw [tk]; exact l6) (by rw [tk, r1]; exact nk_i (by omega) (by omega) (by omega)))) (fun r hr => ?_)
    rw [tk, r1, tk1, tk2, l7] at hr
    obtain ⟨e5, g5⟩ := hr
    rw [e5]
    refine kon r.1 _ (st4 + 1) g5 ?_ (by omega)
    have hQ5 : gQ k (k + tsz (.binary x A B)) (lcT (.binary x A B)) q4 (reAn q4 k (q2.1 7 (k + 1) ||| q4.1 7 (k + 1 + tsz A)) (-1)) := gQ_an (Nat.le_refl _) (by omega)
    have fall : gFr k (k + tsz (.binary x A B)) (lcT (.binary x A B)) q1 q4 := gFr_tr (gFr_tr (gFr_m f1 (by omega) (by omega) lcA) hQ3.1) (gFr_m h1 (by omega) (by omega) lcB)
    refine gWr hQ1 fall (gKn_tr (gKn_tr fk (gQ_kn hQ3)) hk4) hI4 hQ5 ⟨by show q4.2 15 = _; rw [hfl.1, fl3, ffl.1, fl1], by show q4.2 16 = _; rw [hfl.2.1, fl3, ffl.2.1, fl1], by show q4.2 17 = _; rw [hfl.2.2, fl3, ffl.2.2, fl1]⟩ (z := zSl (¬ tv = 0) (¬ tv = 1) z zb) ?_ ?_ ?_
    · rw [reAn_7]
      refine cB_congr (cB_or zc zbc) (fun j => ?_)
      show zC z j ∨ zC zb j ↔ (¬ tv = 0 ∧ zC z j) ∨ (¬ tv = 1 ∧ zC zb j)
      exact ⟨fun y => y.imp (fun y => ⟨by rw [t2]; decide, y⟩) (fun y => ⟨by rw [t2]; decide, y⟩), fun y => y.imp (fun y => y.2) (fun y => y.2)⟩
    · rw [reAn_8]
      have : (if q4.1 9 k = 0 then (-1 : Int32) else -1) = -1 := by split <;> rfl
      rw [this]
      refine Or.inr ⟨fun j y => ?_, rfl⟩
      rcases y with ⟨-, y⟩ | ⟨-, y⟩
      · exact (za.1.2.2.2.1.1 j y).2 t2
      · have := (zbA.1.2.2.2.1.1 j y)
        rw [s1] at this
        exact this
    · rw [pr_z hk, gQ_sem (P := P) hQ1]
      rw [gQ_sem (P := P) hQ1, propext s0] at za
      rw [gQ_sem (P := P) hQ3] at zbA
      exact comb (sem P q2) (sem P q4) z zb (fun _ => za) (fun y => absurd (t2.symm.trans y) (by decide)) (fun _ => zbA) (fun y => absurd (t2.symm.trans y) (by decide))
  · -- one branch
    have fin : ∀ (kc : Nat) (Tc : tT) (z : zvT) (q1 q2 : rsT) (S2 : hg_S) (st2 : Nat), k < kc → kc + tsz Tc ≤ k + tsz (.binary x A B) → (∀ y, y ∈ lcT Tc → y ∈ lcT (.binary x A B)) → rvN E (Int32.ofNat kc) → (Int32.ofNat kc).toInt.toNat = kc → vR E 3 kc = Int32.ofNat k → gQ k (k + tsz (.binary x A B)) (lcT (.binary x A B)) q q1 → q1.2 = q.2 → q1.1 6 k = tv → q1.1 9 k = q.1 9 k → RV G E S2 q2 → gFr kc (kc + tsz Tc) (lcT Tc) q1 q2 → (q2.2 15 = q1.2 15 ∧ q2.2 16 = q1.2 16 ∧ q2.2 17 = q1.2 17) → gKn pls q1 q2 → gIv P q2 → cB (q2.1 7 kc) (zC z) → mB (q2.1 8 kc) (zM z) → zOk s z → st2 + 2 ≤ st + 2 * (1 + tsz A + tsz B) → (∃ zz, (∀ j, zC z j ↔ zC zz j) ∧ (∀ j, zM z j ↔ zM zz j) ∧ zA (gZ M P (.binary x A B) k ρ (some d)) (INq M.2.1 k (tsz (.binary x A B)) (some d) w.toNat) (gA P) (gRg M k) s (sem P q1) (sem P q2) zz) → dc_wp (dc_it (gtS G E) (S2, Int32.ofNat kc, -1, Int32.ofNat st2)) F := by
      intro kc Tc z q1 q2 S2 st2 k1 k2 lc hxc tkc rc hQ1 fl1 n6 n9 g2 f1 ffl fk fI zc zm zo hst2 ⟨zz, zz1, zz2, zzA⟩
      have zc1 := tsz_pos Tc
      have k6 : ¬ q2.1 6 k = 2 := by rw [f1.1 6 k (by omega) (by omega), n6]; exact t2
      have k9 : q2.1 9 k = q.1 9 k := by rw [f1.1 9 k (by omega) (by omega)]; exact n9
      refine gt_gs g2 (gtN hS) (by omega) hxc rfl (nk_0 (by omega) (by omega)) ?_ (by rw [ffl.1, fl1]; exact hmd.1) ?_
      · rw [ffl.2.1, fl1]
        exact fun e => hP.2.2.2.2.1 kc (by omega) (by omega) e.symm
      rw [tkc, rc]
      refine wq_w (gs_3 g2 hx (by rw [tk, r0, hk]) (gp_k g2 hx hxc (by rw [tk]; exact k6))) (fun r hr => ?_)
      rw [tk, tkc] at hr
      obtain ⟨e3, g3⟩ := hr
      rw [e3]
      refine kon r.1 _ (st2 + 1) g3 ?_ (by omega)
      have hQ3 : gQ k (k + tsz (.binary x A B)) (lcT (.binary x A B)) q2 (reAn q2 k (q2.1 7 kc) (q2.1 8 kc)) := gQ_an (Nat.le_refl _) (by omega)
      refine gWr hQ1 (gFr_m f1 (by omega) k2 lc) fk fI hQ3 ⟨by show q2.2 15 = _; rw [ffl.1, fl1], by show q2.2 16 = _; rw [ffl.2.1, fl1], by show q2.2 17 = _; rw [ffl.2.2, fl1]⟩ (z := zz) (by rw [reAn_7]; exact cB_congr zc zz1) ?_ zzA
      rw [reAn_8, k9, ms_if hb9 zm zo]
      exact mB_cg zm zz2
    by_cases t0 : tv = 0
    · have s0 : s ∧ ¬ tv = 2 ↔ s ∧ tv = 0 := ⟨fun y => ⟨y.1, t0⟩, fun y => ⟨y.1, t2⟩⟩
      refine beg (k + 1 + tsz A) B (by omega) (by omega) (Or.inl ⟨t0, rfl⟩) hB (by omega) ?_
      intro f S1 q1 S2 q2 st2 hq1 hQ1 fl1 n4 n6 n9 g1 g2 pst hst2
      obtain ⟨f1, ffl, fk, fI, z, ⟨zc, zm⟩, za⟩ := pst
      refine fin (k + 1 + tsz A) B z q1 q2 S2 st2 (by omega) (by omega) lcB hx2 tk2 r23 hQ1 fl1 n6 n9 g2 f1 ffl fk fI zc zm (zOk_s za.1.2.2.2.1 And.left) (by omega) ⟨zSl (¬ tv = 0) (¬ tv = 1) (gZ M P A (k + 1) ρ (some d) (sem P q).1 (s ∧ tv = 1)) z, fun j => ?_, fun j => ?_, ?_⟩
      · show zC z j ↔ (¬ tv = 0 ∧ _) ∨ (¬ tv = 1 ∧ zC z j)
        exact ⟨fun y => Or.inr ⟨by rw [t0]; decide, y⟩, fun y => y.elim (fun y => absurd t0 y.1) (fun y => y.2)⟩
      · show zM z j ↔ (¬ tv = 0 ∧ _) ∨ (¬ tv = 1 ∧ zM z j)
        exact ⟨fun y => Or.inr ⟨by rw [t0]; decide, y⟩, fun y => y.elim (fun y => absurd t0 y.1) (fun y => y.2)⟩
      · rw [pr_z hk, gQ_sem (P := P) hQ1]
        rw [gQ_sem (P := P) hQ1, propext s0] at za
        exact comb (sem P q) (sem P q2) _ z (fun y => absurd t0 y) (fun _ => ⟨rfl, rfl⟩) (fun _ => za) (fun y => absurd (t0.symm.trans y) (by decide))
    · have t1 : tv = 1 := by
        rcases tv3 with y | y | y
        · exact absurd y t0
        · exact y
        · exact absurd y t2
      have s0 : s ∧ ¬ tv = 2 ↔ s ∧ tv = 1 := ⟨fun y => ⟨y.1, t1⟩, fun y => ⟨y.1, t2⟩⟩
      refine beg (k + 1) A (by omega) (by omega) (Or.inr ⟨t0, rfl⟩) hA (by omega) ?_
      intro f S1 q1 S2 q2 st2 hq1 hQ1 fl1 n4 n6 n9 g1 g2 pst hst2
      obtain ⟨f1, ffl, fk, fI, z, ⟨zc, zm⟩, za⟩ := pst
      refine fin (k + 1) A z q1 q2 S2 st2 (by omega) (by omega) lcA hx1 tk1 r13 hQ1 fl1 n6 n9 g2 f1 ffl fk fI zc zm (zOk_s za.1.2.2.2.1 And.left) (by omega) ⟨zSl (¬ tv = 0) (¬ tv = 1) z (gZ M P B (k + 1 + tsz A) ρ (some d) (sem P q2).1 (s ∧ tv = 0)), fun j => ?_, fun j => ?_, ?_⟩
      · show zC z j ↔ (¬ tv = 0 ∧ zC z j) ∨ (¬ tv = 1 ∧ _)
        exact ⟨fun y => Or.inl ⟨t0, y⟩, fun y => y.elim (fun y => y.2) (fun y => absurd t1 y.1)⟩
      · show zM z j ↔ (¬ tv = 0 ∧ zM z j) ∨ (¬ tv = 1 ∧ _)
        exact ⟨fun y => Or.inl ⟨t0, y⟩, fun y => y.elim (fun y => y.2) (fun y => absurd t1 y.1)⟩
      · rw [pr_z hk, gQ_sem (P := P) hQ1]
        rw [gQ_sem (P := P) hQ1, propext s0] at za
        exact comb (sem P q2) (sem P q2) z _ (fun _ => za) (fun y => absurd y t0) (fun y => absurd t1 y) (fun _ => ⟨rfl, rfl⟩)
end GO3
