/-! a visit of the class: two within; present -/
section GO2
variable {G : hg_E} {E : rvP} {M : md_S} {P : gvP} {D : Option Nat → Prop} {names : Int32} {kk ff ss xx : Nat → Int32} {m n ps sg pa pls N : Nat} {T A B Ta Tb : tT} {V : Int32 → Prop} {k ka kB va : Nat} {up : Int32} {w : Int} {t : Int32} {a c : Int} {Es : List (Int32 × Int32)} {S : hg_S} {q q1 q2 q3 : rsT} {x : Lean.Name} {x2 : Int32} {st st2 : Nat} {F : hg_S ⊕ hg_S → Prop}
/-- what stands of a row with two within -/
theorem bi_r (hm : m ≤ 1000) (hS : gSt M E P D n ps sg pa pls N) (hT : gTr M kk ff xx m n ps sg pa (.binary x A B) V k up w t a c Es) : (k + (1 + tsz A + tsz B) ≤ n ∧ 1 ≤ tsz A ∧ 1 ≤ tsz B ∧ n ≤ 1200 ∧ 1 ≤ w) ∧ (rvN E (Int32.ofNat k) ∧ (Int32.ofNat k).toInt.toNat = k ∧ vR E 0 k = (lT x).1 ∧ vR E 1 k = Int32.ofNat (k + 1) ∧ vR E 2 k = Int32.ofNat (k + 1 + tsz A) ∧ vR E 4 k = M.2.1 54 k ∧ vR E 7 k = Int32.ofNat w.toNat ∧ wtQ M.2.1 k = w.toNat) ∧ (rvN E (Int32.ofNat (k + 1)) ∧ (Int32.ofNat (k + 1)).toInt.toNat = k + 1 ∧ vR E 3 (k + 1) = Int32.ofNat k) ∧ (rvN E (Int32.ofNat (k + 1 + tsz A)) ∧ (Int32.ofNat (k + 1 + tsz A)).toInt.toNat = k + 1 + tsz A ∧ vR E 3 (k + 1 + tsz A) = Int32.ofNat k) := by
  have h2 : k + (1 + tsz A + tsz B) ≤ n := hT.2.1
  have z1 := tsz_pos A
  have z2 := tsz_pos B
  have hn := hS.2.1.1
  have b := hT.1.2.2.2.2.1
  obtain ⟨hx, tk, ⟨r0, r1, r2, r3, r4, r7⟩, -⟩ := gRow hS (show k < n by omega)
  obtain ⟨hx1, tk1, ⟨-, -, -, r13, -⟩, -⟩ := gRow hS (show k + 1 < n by omega)
  obtain ⟨hx2, tk2, ⟨-, -, -, r23, -⟩, -⟩ := gRow hS (show k + 1 + tsz A < n by omega)
  have hL := hT.1.2.1
  have w57 : (M.2.1 57 k).toInt = w := hL.1.1.2.2.2.2.1
  obtain ⟨tA, tB⟩ := gTr_bi hm hT
  refine ⟨⟨h2, z1, z2, hn, b.2.2.2.1⟩, ⟨hx, tk, r0.trans hL.1.1.1, r1.trans hL.1.1.2.1, r2.trans hL.1.1.2.2.1, r4, ?_, by unfold wtQ; rw [w57]⟩, ⟨hx1, tk1, r13.trans (LPr_up tA.1.2.1)⟩, hx2, tk2, r23.trans (LPr_up tB.1.2.1)⟩
  rw [r7]
  exact ofN_m (by omega) (by omega)
theorem bi_p (hm : m ≤ 1000) (hT : gTr M kk ff xx m n ps sg pa (.binary x A B) V k up w t a c Es) : pfQ M.2.1 (k + 1) = pfQ M.2.1 k ∧ ptQ M.2.1 (k + 1) = pfQ M.2.1 (k + 1 + tsz A) ∧ ptQ M.2.1 (k + 1 + tsz A) = ptQ M.2.1 k ∧ pfQ M.2.1 (k + 1) ≤ ptQ M.2.1 (k + 1) ∧ pfQ M.2.1 (k + 1 + tsz A) ≤ ptQ M.2.1 (k + 1 + tsz A) := by
  obtain ⟨tA, tB⟩ := gTr_bi hm hT
  have h1 := sfT_p hT.1
  have h2 := sfT_p tA.1
  have h3 := sfT_p tB.1
  have e := pa_bi hT.1
  rw [e] at h1
  have := pas_nn A
  have := pas_nn B
  have := hT.1.2.2.2.2.1
  refine ⟨?_, ?_, ?_, ?_, ?_⟩
  · rw [h1.1, h2.1]
  · rw [h2.2, h3.1]
  · rw [h3.2, h1.2, Int.add_assoc]
  · rw [h2.1, h2.2]; omega
  · rw [h3.1, h3.2]; omega
theorem bi_rg (hm : m ≤ 1000) (hT : gTr M kk ff xx m n ps sg pa (.binary x A B) V k up w t a c Es) : (∀ p, gRg M k p ↔ gRg M (k + 1) p ∨ gRg M (k + 1 + tsz A) p) ∧ ∀ p, gRg M (k + 1) p → ¬ gRg M (k + 1 + tsz A) p := by
  obtain ⟨e1, e2, e3, e4, e5⟩ := bi_p hm hT
  unfold gRg
  rw [e1, e2, e3]
  rw [e1, e2] at e4
  rw [e3] at e5
  exact ⟨fun p => by omega, fun p => by omega⟩
theorem bi_hs (hm : m ≤ 1000) (hS : gSt M E P D n ps sg pa pls N) (hT : gTr M kk ff xx m n ps sg pa (.binary x A B) V k up w t a c Es) (h : hsC M.2.1 (gC P) k) (hn : ¬ hsC M.2.1 (gC P) (k + 1)) : hsC M.2.1 (gC P) (k + 1 + tsz A) := by
  obtain ⟨e1, e2, e3, e4, e5⟩ := bi_p hm hT
  unfold hsC at h hn ⊢
  rw [e1, e2] at hn
  rw [e3]
  omega
/-- the second one within is ready -/
theorem gPre_2 (hS : gSt M E P D n ps sg pa pls N) {ρ : Nat → Nat} {md : Option Nat} {s s' : Prop} {v : Nat} {sa : Prop} {z : zvT} {e : zF} {Ia g : Nat → Prop} (hP : gPre M P D T V k v ρ md s q) {lo hi : Nat} {L : List Int32} (hQ1 : gQ lo hi L q q1) (fl1 : q1.2 = q.2) (n4 : q1.1 4 = q.1 4) (f1 : gFr ka (ka + tsz Ta) (lcT Ta) q1 q2) (ffl : q2.2 15 = q1.2 15 ∧ q2.2 16 = q1.2 16 ∧ q2.2 17 = q1.2 17) (fI : gIv P q2) (za : zA e Ia (gA P) g sa (sem P q1) (sem P q2) z) (ie : zEi e (fun i => ∃ y, V y ∧ i = ρ y.toInt.toNat) Ia) (hla : ∀ y, y ∈ lcT Ta → y ∈ lcT T) (hV : ∀ y, V y → 0 ≤ y.toInt ∧ ¬ y ∈ lcT T) (hlT : ∀ y, y ∈ lcT T → 0 ≤ y.toInt) {lo' hi' : Nat} {L' : List Int32} (hQ3 : gQ lo' hi' L' q2 q3) (fl3 : q3.2 = q2.2) (n43 : q3.1 4 = q2.1 4) (hk : k < kB) (hk' : kB + tsz Tb ≤ k + tsz T) (b9 : bB (q3.1 9 kB) s') (hv : (v : Int) ≤ w) (hTb : gTr M kk ff xx m n ps sg pa Tb V kB up w t a c Es) (dab : ∀ i, Ia i → INq M.2.1 kB (tsz Tb) md w.toNat i → False) (hh : md = none → hsC M.2.1 (gC P) kB) : gPre M P D Tb V kB w.toNat ρ md s' q3 := by
  obtain ⟨hI, -, hVv, hmd, h16, hem, hD, -⟩ := hP
  have sub : ∀ i, INq M.2.1 kB (tsz Tb) md w.toNat i → INq M.2.1 k (tsz T) md v i := fun i hi => INq_m hi (by omega) hk' (fun d => mdD_m (by omega))
  have hmd' : gMd md w.toNat q := by
    cases md with
    | none => exact hmd
    | some d => exact ⟨hmd.1, hmd.2.1, by have := hmd.2.2; omega⟩
  refine ⟨gIv_q hQ3 fI, b9, fun y hy => ?_, ?_, fun j j1 j2 => by rw [fl3, ffl.2.1, fl1]; exact h16 j (by omega) (by omega), fun i hi => ?_, hD, hh⟩
  · obtain ⟨a1, a2, a3⟩ := hVv y hy
    refine ⟨a1, ?_, fun u => a3 (sub _ u)⟩
    rw [n43, f1.2.1 _ (fun y' hy' u => ?_), n4]
    · exact a2
    · have h1 := hV y hy
      have h2 := hlT y' (hla y' hy')
      have : y = y' := Int32.toInt_inj.mp (by omega)
      exact h1.2 (by rw [this]; exact hla y' hy')
  · cases md with
    | none =>
      show q3.2 15 = 0 ∧ q3.2 16 = -1 ∧ q3.2 17 = 0
      rw [fl3, ffl.1, ffl.2.1, ffl.2.2, fl1]
      exact hmd
    | some d =>
      show ¬ q3.2 15 = 0 ∧ q3.2 17 = Int32.ofNat d ∧ d < w.toNat
      rw [fl3, ffl.1, ffl.2.2, fl1]
      exact hmd'
  · rw [emS_q hQ3]
    have n0 : ¬ emS P q1 i := by rw [emS_q hQ1]; exact hem i (sub i hi)
    refine gEm za ie (gI_A hS hTb hD (gMd_lt hmd') hi) n0 (fun ⟨y, hy, u⟩ => ?_) (fun u => dab i u hi)
    exact (hVv y hy).2.2 (u ▸ sub i hi)
theorem hVT (hT : gTr M kk ff xx m n ps sg pa T V k up w t a c Es) : (∀ y, V y → 0 ≤ y.toInt ∧ ¬ y ∈ lcT T) ∧ ∀ y, y ∈ lcT T → 0 ≤ y.toInt := ⟨fun y hy => ⟨(hT.1.2.2.2.2.2.2.2.2.2.2 y hy).1.1, (hT.1.2.2.2.2.2.2.2.2.2.2 y hy).2⟩, fun y hy => (hT.1.2.2.2.2.2.2.2.2.2.1 y hy).1⟩
theorem lc_bi : (∀ y, y ∈ lcT A → y ∈ lcT (.binary x A B)) ∧ ∀ y, y ∈ lcT B → y ∈ lcT (.binary x A B) := ⟨fun _ hy => List.mem_append.mpr (Or.inl hy), fun _ hy => List.mem_append.mpr (Or.inr hy)⟩
/-- present that resumes -/
theorem gv_bi3r (hm : m ≤ 1000) (hS : gSt M E P D n ps sg pa pls N) (hT : gTr M kk ff xx m n ps sg pa (.binary x A B) V k up w t a c Es) (hk : (lT x).1 = 3) (hA : gVis G E M P D pls N A V (k + 1) w.toNat) (hB : gVis G E M P D pls N B V (k + 1 + tsz A) w.toNat) {ρ : Nat → Nat} {s : Prop} (hR : RV G E S q) (hP : gPre M P D (.binary x A B) V k w.toNat ρ none s q) (hst : st + cst (.binary x A B) none ≤ N) (kon : ∀ S' q' st', RV G E S' q' → gPost M P pls (.binary x A B) k w.toNat ρ none s q q' → st' + 1 ≤ st + cst (.binary x A B) none → dc_wp (dc_it (gtS G E) (S', Int32.ofNat k, -1, Int32.ofNat st')) F) : dc_wp (dc_it (gtS G E) (S, x2, Int32.ofNat k, Int32.ofNat st)) F := by
  obtain ⟨⟨u1, u2, u3, u4, u5⟩, ⟨hx, tk, r0, r1, r2, r4, r7, rw⟩, ⟨hx1, tk1, r13⟩, hx2, tk2, r23⟩ := bi_r hm hS hT
  have ezc : k + tsz (.binary x A B) = k + (1 + tsz A + tsz B) := rfl
  have n8 : ¬ (lT x).1 = 8 := by rw [hk]; decide
  have n10 : ¬ (lT x).1 = 10 := by rw [hk]; decide
  have hmd : q.2 15 = 0 ∧ q.2 16 = -1 ∧ q.2 17 = 0 := hP.2.2.2.1
  have h9 := b9_s hP.2.1
  have cs2 : 2 + (2 * rvs A + 2 * rvs B) ≤ cst (.binary x A B) none := by
    show _ ≤ 2 * (1 + rvs A + rvs B + if (lT x).1 = 5 then tsz B else 0)
    omega
  obtain ⟨tA, tB⟩ := gTr_bi hm hT
  obtain ⟨lcA, lcB⟩ := lc_bi (x := x) (A := A) (B := B)
  have hdh := hd_hs (M := M) hS hP.1 (show k + 1 < n by omega)
  have held := gHd hm hS tA hR
  -- one of both
  have one : ∀ (Tc : tT) (kc : Nat), k < kc → kc + tsz Tc ≤ k + tsz (.binary x A B) → (∀ y, y ∈ lcT Tc → y ∈ lcT (.binary x A B)) → rvN E (Int32.ofNat kc) → (Int32.ofNat kc).toInt.toNat = kc → vR E 3 kc = Int32.ofNat k → gVis G E M P D pls N Tc V kc w.toNat → hsC M.2.1 (gC P) kc → cst Tc none + 2 ≤ cst (.binary x A B) none → zFe (gZ M P Tc kc ρ none) (gZ M P (.binary x A B) k ρ none) → (∀ p, gRg M kc p → gRg M k p) → zFm (gZ M P Tc kc ρ none) (fun i => ∃ y, V y ∧ i = ρ y.toInt.toNat) (INq M.2.1 kc (tsz Tc) none w.toNat) (gRg M kc) → ∀ S1, RV G E S1 (uX q 9 kc (q.1 9 k)) → dc_wp (dc_it (gtS G E) (S1, Int32.ofNat k, Int32.ofNat kc, Int32.ofNat (st + 1))) F := by
    intro Tc kc k1 k2 lc hxc tkc rc hC hhc hcs ez hgr fc S1 g1
    have zc1 := tsz_pos Tc
    have hQ1 : gQ k (k + tsz (.binary x A B)) (lcT (.binary x A B)) q (uX q 9 kc (q.1 9 k)) := gQ_u (by omega) (by omega) (by omega)
    have pA := gPre_1 (A := Tc) (kA := kc) (v' := w.toNat) (s' := s) hP hQ1 ⟨rfl, rfl, rfl⟩ (fun y hy => by rw [uX_n (by decide)]) k1 k2 (by rw [u9_9]; exact hP.2.1) (by omega) (fun _ => hhc)
    refine hC ρ none s S1 _ (Int32.ofNat k) (st + 1) F g1 pA (by omega) ?_
    intro S2 q2 st2 g2 pst hst2
    obtain ⟨f1, ffl, fk, fI, z, ⟨zc, zm⟩, za⟩ := pst
    have fl1 : (uX q 9 kc (q.1 9 k)).2 = q.2 := rfl
    have cs := cs_w g2 hx hxc (fun z => by rw [tk, r0] at z; exact absurd z n8) (fun z => by rw [tk, r0] at z; exact absurd z n10)
    have ecs : reCs E q2 (Int32.ofNat k).toInt.toNat (Int32.ofNat kc).toInt.toNat = reC1 q2 k kc := by
      unfold reCs
      rw [tk, tkc, r0, if_neg n10, if_neg n8]
    refine gt_gr g2 (gtN hS) (by omega) hxc rfl (nk_0 (by omega) (by omega)) ?_ (by rw [ffl.1, fl1]; exact hmd.1) ?_
    · rw [ffl.2.1, fl1, hmd.2.1]
      exact nk_1 (by omega)
    · rw [tkc, rc]
      refine wq_w (gr_3 g2 hx (by rw [tk, r0, hk]) cs) ?_
      rintro ⟨S3, v4⟩ ⟨e3, g3⟩
      have e3' : v4 = -1 := e3
      have g3' : RV G E S3 (reCs E q2 (Int32.ofNat k).toInt.toNat (Int32.ofNat kc).toInt.toNat) := g3
      rw [ecs] at g3'
      show dc_wp (dc_it (gtS G E) (S3, Int32.ofNat k, v4, Int32.ofNat (st2 + 1))) F
      rw [e3']
      refine kon S3 _ (st2 + 1) g3' ?_ (by omega)
      have hQ3 : gQ k (k + tsz (.binary x A B)) (lcT (.binary x A B)) q2 (reC1 q2 k kc) := gQ_c1 (Nat.le_refl _) (by omega)
      refine gWr hQ1 (gFr_m f1 (show k ≤ kc by omega) k2 lc) fk fI hQ3 ⟨by show q2.2 15 = _; rw [ffl.1, fl1], by show q2.2 16 = _; rw [ffl.2.1, fl1], by show q2.2 17 = _; rw [ffl.2.2, fl1]⟩ (by rw [reC1_7]; exact zc) (by rw [reC1_8]; exact zm) ?_
      refine zA_c ez ⟨za.1, zSd_m za.2.1 (fun i hi => INq_m hi (by omega) k2 (fun d => id)), ?_⟩
      obtain ⟨d1, d2⟩ := za.2.2
      refine ⟨fun ek => ⟨(d1 ek).1, fun hm0 h0 p hp => ?_⟩, fun p hp => d2 p (fun y => hp (hgr p y))⟩
      by_cases y : gRg M kc p
      · exact (d1 ek).2 hm0 (fun p hp => h0 p (hgr p hp)) p y
      · rw [d2 p y]
        exact ⟨fun u => absurd u (h0 p hp), fun u => absurd (fc.2.2.2 _ _ _ u) y⟩
  have ez : ∀ κ s, gZ M P (.binary x A B) k ρ none κ s = zSl (hsC M.2.1 (gC P) (k + 1)) (¬ hsC M.2.1 (gC P) (k + 1)) (gZ M P A (k + 1) ρ none κ s) (gZ M P B (k + 1 + tsz A) ρ none κ s) := by
    intro κ s
    show zv _ _ _ _ _ (.binary x A B) k ρ none s = _
    unfold zv
    rw [if_pos hk]
    rfl
  have w5 : w + (if (lT x).1 = 5 then (1 : Int) else 0) = w := by rw [if_neg (by rw [hk]; decide)]; omega
  rw [w5] at tB
  refine gt_br hR (gtN hS) (by omega) (nk_1 (by omega)) hmd.1 (wq_w (br_3 hR hx (by rw [tk, r0, hk]) (by rw [tk]; exact h9) (by rw [tk, r1]; exact hx1) (by rw [tk, r2]; exact hx2) (by rw [tk, r1, tk1]; exact held)) (fun r hr => ?_))
  rw [tk, r1, tk1, r2, tk2] at hr
  rcases hr with ⟨h1, e1, g1⟩ | ⟨h1, e1, g1⟩
  · rw [e1]
    have h1 := hdh.mp h1
    refine one A (k + 1) (by omega) (by omega) lcA hx1 tk1 r13 hA h1 (by show 2 * rvs A + 2 ≤ _; omega) (fun κ s => ?_) (fun p hp => ((bi_rg hm hT).1 p).mpr (Or.inl hp)) (gZ_fm hm tA.1 trivial) r.1 g1
    rw [ez, zR_sl h1]
  · rw [e1]
    have h1 : ¬ hsC M.2.1 (gC P) (k + 1) := fun y => h1 (hdh.mpr y)
    refine one B (k + 1 + tsz A) (by omega) (by omega) lcB hx2 tk2 r23 hB (bi_hs hm hS hT (hP.2.2.2.2.2.2.2 rfl) h1) (by show 2 * rvs B + 2 ≤ _; omega) (fun κ s => ?_) (fun p hp => ((bi_rg hm hT).1 p).mpr (Or.inr hp)) (gZ_fm hm tB.1 trivial) r.1 g1
    rw [ez, zR_sr h1]
end GO2
