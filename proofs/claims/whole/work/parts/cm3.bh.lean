/-! a visit of the class: one started behind one that resumed; a loop that resumes -/
section GOB
variable {G : hg_E} {E : rvP} {M : md_S} {P : gvP} {D : Option Nat → Prop} {names : Int32} {kk ff ss xx : Nat → Int32} {m n ps sg pa pls N : Nat} {T A B Ta Tb : tT} {V : Int32 → Prop} {k ka kB va : Nat} {up : Int32} {w : Int} {t : Int32} {a c : Int} {Es : List (Int32 × Int32)} {S : hg_S} {q q1 q2 : rsT} {x : Lean.Name} {x2 : Int32} {st st2 : Nat} {F : hg_S ⊕ hg_S → Prop}
theorem rePb_7 {j d : Nat} : (rePb q j d).1 7 j = (q.1 7 j &&& (-2)) ||| q.1 7 d := reAn_7
theorem rePb_8 {j d : Nat} : (rePb q j d).1 8 j = if q.1 9 j = 0 then -1 else if q.1 8 j = 0 then q.1 8 d else q.1 8 j := reAn_8
/-- codes of one behind the other, from the answers of both -/
theorem pb_cm {s : Prop} {za zb : zvT} {p u v u' v' : Int32} (ca : cB u (zC za)) (ma : mB v (zM za)) (cb : cB u' (zC zb)) (mb : mB v' (zM zb)) (oa : zOk s za) (ob : zOk (zM za 0) zb) (h0 : zC za 0) (hp : bB p s) : cB ((u &&& (-2)) ||| u') (zC (zTh za zb)) ∧ mB (if p = 0 then -1 else if v = 0 then v' else v) (zM (zTh za zb)) := by
  refine ⟨cB_th ca cb h0, ?_⟩
  have v0 : v = 0 ↔ zM za 0 := (mB_0 ma (fun c d hc hd => (oa.2.2.2.2.1 d hd c).mp ((oa.2.2.2.2.1 c hc c).mpr rfl))).1
  have key : mB (if v = 0 then v' else v) (zM (zTh za zb)) := by
    by_cases e : v = 0
    · rw [if_pos e]; exact mB_th1 mb oa (v0.mp e)
    · rw [if_neg e]; exact mB_th2 (s := s) ma (fun z => e (v0.mpr z))
  rw [ms_if hp key (zTh_ok oa ob)]
  exact key
theorem gBeh {ρ : Nat → Nat} {s : Prop} (hm : m ≤ 1000) (hS : gSt M E P D n ps sg pa pls N) (hn : k + tsz T ≤ n) (hw : 1 ≤ w) (hR7 : vR E 7 k = Int32.ofNat w.toNat) (hP : gPre M P D T V k w.toNat ρ none s q) (hQ1 : gQ k (k + tsz T) (lcT T) q q1) (fl1 : q1.2 = q.2) (n9 : q1.1 9 k = q.1 9 k) (n4 : q1.1 4 = q.1 4) (ha1 : k < ka) (ha2 : ka + tsz Ta ≤ k + tsz T) (hva : w.toNat ≤ va) (hla : ∀ y, y ∈ lcT Ta → y ∈ lcT T) (f1 : gFr ka (ka + tsz Ta) (lcT Ta) q1 q2) (ffl : q2.2 15 = q1.2 15 ∧ q2.2 16 = q1.2 16 ∧ q2.2 17 = q1.2 17) (fk : gKn pls q1 q2) (fI : gIv P q2) {z : zvT} (zc : cB (q2.1 7 ka) (zC z)) (zm : mB (q2.1 8 ka) (zM z)) (za : zA (gZ M P Ta ka ρ none) (INq M.2.1 ka (tsz Ta) none va) (gA P) (gRg M ka) s (sem P q1) (sem P q2) z) (hb1 : k < kB) (hb2 : kB + tsz Tb ≤ k + tsz T) (hlb : ∀ y, y ∈ lcT Tb → y ∈ lcT T) (hTa : zFm (gZ M P Ta ka ρ none) (fun i => ∃ y, V y ∧ i = ρ y.toInt.toNat) (INq M.2.1 ka (tsz Ta) none va) (gRg M ka)) (hTb : gTr M kk ff xx m n ps sg pa Tb V kB (Int32.ofNat k) (w + 1) t a c Es) (hV : ∀ y, V y → 0 ≤ y.toInt ∧ ¬ y ∈ lcT T) (hlT : ∀ y, y ∈ lcT T → 0 ≤ y.toInt) (dab : ∀ i, INq M.2.1 ka (tsz Ta) none va i → INq M.2.1 kB (tsz Tb) (some w.toNat) (w + 1).toNat i → False) (hg : ∀ p, gRg M k p ↔ gRg M ka p ∨ gRg M kB p) (ez : zFe (fun κ s => zTh (gZ M P Ta ka ρ none κ s) (gZ M P Tb kB ρ (some w.toNat) κ (zM (gZ M P Ta ka ρ none κ s) 0))) (gZ M P T k ρ none)) (hB : gVis G E M P D pls N Tb V kB (w + 1).toNat) (hst : st + cst T none ≤ N) (hst2 : st2 + 2 * tsz Tb + 2 ≤ st + cst T none) (kon : ∀ S' q' st', RV G E S' q' → gPost M P pls T k w.toNat ρ none s q q' → st' + 1 ≤ st + cst T none → dc_wp (dc_it (gtS G E) (S', Int32.ofNat k, -1, Int32.ofNat st')) F) (r : hg_S × Int32) (hr : ((reS1 q2 k ka).1 7 k &&& 1 = 0 ∧ r.2 = -1 ∧ RV G E r.1 (reS1 q2 k ka)) ∨ (¬ (reS1 q2 k ka).1 7 k &&& 1 = 0 ∧ r.2 = Int32.ofNat kB ∧ RV G E r.1 (reSB E (reS1 q2 k ka) k (Int32.ofNat kB)))) : dc_wp (dc_it (gtS G E) (r.1, Int32.ofNat k, r.2, Int32.ofNat (st2 + 1))) F := by
  have zb1 := tsz_pos Tb
  have hn2 := hS.2.1.1
  have kn : k < n := by omega
  obtain ⟨hx, tk, -⟩ := gRow hS kn
  obtain ⟨hxB, tkB, ⟨-, -, -, rB3, -⟩, -⟩ := gRow hS (show kB < n by omega)
  have rB : vR E 3 kB = Int32.ofNat k := rB3.trans (LPr_up hTb.1.2.1)
  have hb9 := hP.2.1
  have hmd : q.2 15 = 0 ∧ q.2 16 = -1 ∧ q.2 17 = 0 := hP.2.2.2.1
  have hD : D none := hP.2.2.2.2.2.2.1
  have e7 : (reS1 q2 k ka).1 7 k = q2.1 7 ka := reAn_7
  have k9 : q2.1 9 k = q.1 9 k := by rw [f1.1 9 k (by omega) (by omega)]; exact n9
  have oka := za.1.2.2.2.1
  have e8 : (reS1 q2 k ka).1 8 k = q2.1 8 ka := by
    have : (reS1 q2 k ka).1 8 k = if q2.1 9 k = 0 then -1 else q2.1 8 ka := reAn_8
    rw [this, k9, ms_if hb9 zm oka]
  have hQs : gQ k (k + tsz T) (lcT T) q2 (reS1 q2 k ka) := gQ_an (Nat.le_refl _) (by omega)
  have fls : (reS1 q2 k ka).2 = q2.2 := rfl
  have s9 : (reS1 q2 k ka).1 9 k = q.1 9 k := by
    have : (reS1 q2 k ka).1 9 = q2.1 9 := reAn_n (by decide) (by decide)
    rw [this]; exact k9
  have s4 : (reS1 q2 k ka).1 4 = q2.1 4 := reAn_n (by decide) (by decide)
  have fT := gFr_m (L' := lcT T) f1 (show k ≤ ka by omega) ha2 hla
  have v0 : (q2.1 7 ka &&& 1) = 0 ↔ ¬ zC z 0 := cB_0 zc
  have dR : ∀ i, (∃ y, V y ∧ i = ρ y.toInt.toNat) → ¬ INq M.2.1 k (tsz T) none w.toNat i := by
    rintro i ⟨y, hy, rfl⟩
    exact (hP.2.2.1 y hy).2.2
  have sa : ∀ j, INq M.2.1 ka (tsz Ta) none va j → INq M.2.1 k (tsz T) none w.toNat j := fun j hj => INq_m hj (by omega) ha2 (fun d => mdD_m hva)
  have sb : ∀ j, INq M.2.1 kB (tsz Tb) (some w.toNat) (w + 1).toNat j → INq M.2.1 k (tsz T) none w.toNat j := fun j hj => INq_m hj (by omega) hb2 (fun d hd => by
    have hd : d = w.toNat := hd
    show w.toNat ≤ d
    omega)
  have fb := gZ_fm (P := P) hm hTb.1 (ρ := ρ) (md := some w.toNat) (show w.toNat ≤ (w + 1).toNat by omega)
  rcases hr with ⟨c0, e, g⟩ | ⟨c0, e, g⟩
  · rw [e7] at c0
    have nz := v0.mp c0
    rw [e]
    refine kon r.1 _ (st2 + 1) g ?_ (by omega)
    refine gWr hQ1 fT fk fI hQs ⟨by rw [fls, ffl.1, fl1], by rw [fls, ffl.2.1, fl1], by rw [fls, ffl.2.2, fl1]⟩ (z := zTh z (gZ M P Tb kB ρ (some w.toNat) (sem P q2).1 (zM z 0))) (by rw [e7]; exact cB_t0 zc nz) (by rw [e8]; exact mB_t0 zm oka nz) ?_
    exact zA_c ez (zTh_A hTa fb dab dR sa sb hg za (fun y => absurd y nz) (fun _ => ⟨rfl, rfl⟩))
  · rw [e7] at c0
    have z0 : zC z 0 := Classical.byContradiction (fun y => c0 (v0.mpr y))
    have hQb : gQ k (k + tsz T) (lcT T) (reS1 q2 k ka) (reSB E (reS1 q2 k ka) k (Int32.ofNat kB)) := by
      unfold reSB
      rw [tkB]
      exact gQ_tr (gQ_tr (gQ_tr (gQ_c (by omega)) (gQ_c (by omega))) (gQ_c (by omega))) (gQ_u (by omega) (by omega) (by omega))
    have b15 : (reSB E (reS1 q2 k ka) k (Int32.ofNat kB)).2 15 = 1 := by
      unfold reSB
      show (uC (uC (uC (reS1 q2 k ka) 15 1) 16 (Int32.ofNat kB)) 17 (vR E 7 k)).2 15 = 1
      rw [uC_n (by decide), uC_n (by decide), uC_s]
    have b16 : (reSB E (reS1 q2 k ka) k (Int32.ofNat kB)).2 16 = Int32.ofNat kB := by
      unfold reSB
      show (uC (uC (uC (reS1 q2 k ka) 15 1) 16 (Int32.ofNat kB)) 17 (vR E 7 k)).2 16 = _
      rw [uC_n (by decide), uC_s]
    have b17 : (reSB E (reS1 q2 k ka) k (Int32.ofNat kB)).2 17 = Int32.ofNat w.toNat := by
      unfold reSB
      show (uC (uC (uC (reS1 q2 k ka) 15 1) 16 (Int32.ofNat kB)) 17 (vR E 7 k)).2 17 = _
      rw [uC_s, hR7]
    have m0 : q2.1 8 ka = 0 ↔ zM z 0 := (mB_0 zm (fun c d hc hd => (oka.2.2.2.2.1 d hd c).mp ((oka.2.2.2.2.1 c hc c).mpr rfl))).1
    have b9 : bB ((reSB E (reS1 q2 k ka) k (Int32.ofNat kB)).1 9 kB) (zM z 0) := by
      unfold reSB
      rw [tkB, u9_9, e8]
      by_cases y : q2.1 8 ka = 0
      · rw [if_pos y]; exact Or.inl ⟨m0.mp y, rfl⟩
      · rw [if_neg y]; exact Or.inr ⟨fun u => y (m0.mpr u), rfl⟩
    have b4 : (reSB E (reS1 q2 k ka) k (Int32.ofNat kB)).1 4 = q2.1 4 := by
      unfold reSB
      rw [uX_n (by decide)]
      exact s4
    have b7 : (reSB E (reS1 q2 k ka) k (Int32.ofNat kB)).1 7 k = q2.1 7 ka := by
      unfold reSB
      rw [uX_n (by decide)]
      exact e7
    have b8 : (reSB E (reS1 q2 k ka) k (Int32.ofNat kB)).1 8 k = q2.1 8 ka := by
      unfold reSB
      rw [uX_n (by decide)]
      exact e8
    have b99 : (reSB E (reS1 q2 k ka) k (Int32.ofNat kB)).1 9 k = q.1 9 k := by
      unfold reSB
      rw [tkB, uX_s, upd_n (by omega)]
      exact s9
    have hQ2 := gQ_tr hQs hQb
    generalize reSB E (reS1 q2 k ka) k (Int32.ofNat kB) = q3 at g hQ2 b15 b16 b17 b9 b4 b7 b8 b99
    rw [e]
    have iA : ∀ i, INq M.2.1 kB (tsz Tb) (some w.toNat) (w + 1).toNat i → gA P i := fun i hi => gI_A hS hTb (hS.2.2.2.2.2.2.2 hD _ (by omega)) (fun d hd => by cases hd; omega) hi
    have pB : gPre M P D Tb V kB (w + 1).toNat ρ (some w.toNat) (zM z 0) q3 := by
      refine ⟨gIv_q hQ2 fI, b9, fun y hy => ?_, ⟨by rw [b15]; decide, b17, by omega⟩, fun j j1 j2 => ?_, fun i hi => ?_, hS.2.2.2.2.2.2.2 hD _ (by omega), fun y => by cases y⟩
      · obtain ⟨a1, a2, a3⟩ := hP.2.2.1 y hy
        refine ⟨a1, ?_, fun u => a3 (sb _ u)⟩
        rw [b4, f1.2.1 _ (fun y' hy' u => ?_), n4]
        · exact a2
        · have h1 := hV y hy
          have h2 := hlT y' (hla y' hy')
          have : y = y' := Int32.toInt_inj.mp (by omega)
          exact h1.2 (by rw [this]; exact hla y' hy')
      · rw [b16]
        exact nk_i (by omega) (by omega) (by omega)
      · rw [emS_q hQ2]
        have n0 : ¬ emS P q1 i := by rw [emS_q hQ1]; exact hP.2.2.2.2.2.1 i (sb i hi)
        exact gEm za hTa.2.2.1 (iA i hi) n0 (fun u => dR i u (sb i hi)) (fun u => dab i u hi)
    refine hB ρ (some w.toNat) (zM z 0) r.1 q3 (Int32.ofNat k) (st2 + 1) F g pB (by show st2 + 1 + 2 * tsz Tb ≤ N; omega) ?_
    intro S4 q4 st4 g4 pst hst4
    have hst4 : st4 + 1 ≤ st2 + 1 + 2 * tsz Tb := hst4
    obtain ⟨h1, ⟨h15, h16, h17⟩, hk4, hI4, zb, ⟨zbc, zbm⟩, zbA⟩ := pst
    refine gt_cb g4 (gtN hS) (by omega) hxB rfl (nk_0 (by omega) (by omega)) (by rw [h16, b16]) ?_
    rw [tkB, rB]
    refine wq_w (cmb_w g4 hx hxB) ?_
    rintro ⟨S5, v5⟩ ⟨e5, g5⟩
    have e5' : v5 = -1 := e5
    have g5' : RV G E S5 (reCB q4 (Int32.ofNat k).toInt.toNat (Int32.ofNat kB).toInt.toNat) := g5
    rw [tk, tkB] at g5'
    show dc_wp (dc_it (gtS G E) (S5, Int32.ofNat k, v5, Int32.ofNat (st4 + 1))) F
    rw [e5']
    refine kon S5 _ (st4 + 1) g5' ?_ (by omega)
    have hf4 := gFr_m (L' := lcT T) h1 (show k ≤ kB by omega) hb2 hlb
    have hQ5 : gQ k (k + tsz T) (lcT T) q4 (reCB q4 k kB) := gQ_tr (gQ_tr (gQ_tr (gQ_c (by omega)) (gQ_c (by omega))) (gQ_c (by omega))) (gQ_an (Nat.le_refl _) (by omega))
    have c15 : (reCB q4 k kB).2 15 = 0 := by
      show (uC (uC (uC q4 15 0) 16 (-1)) 17 0).2 15 = 0
      rw [uC_n (by decide), uC_n (by decide), uC_s]
    have c16 : (reCB q4 k kB).2 16 = -1 := by
      show (uC (uC (uC q4 15 0) 16 (-1)) 17 0).2 16 = -1
      rw [uC_n (by decide), uC_s]
    have c17 : (reCB q4 k kB).2 17 = 0 := by
      show (uC (uC (uC q4 15 0) 16 (-1)) 17 0).2 17 = 0
      rw [uC_s]
    have d7 : q4.1 7 k = q2.1 7 ka := by rw [h1.1 7 k (by omega) (by omega)]; exact b7
    have d8 : q4.1 8 k = q2.1 8 ka := by rw [h1.1 8 k (by omega) (by omega)]; exact b8
    have d9 : q4.1 9 k = q.1 9 k := by rw [h1.1 9 k (by omega) (by omega)]; exact b99
    have x7 : (reCB q4 k kB).1 7 k = (q2.1 7 ka &&& (-2)) ||| q4.1 7 kB := by
      rw [← d7]; exact reAn_7
    have x8 : (reCB q4 k kB).1 8 k = if q.1 9 k = 0 then -1 else if q2.1 8 ka = 0 then q4.1 8 kB else q2.1 8 ka := by
      rw [← d8, ← d9]; exact reAn_8
    obtain ⟨y1, y2⟩ := pb_cm zc zm zbc zbm oka zbA.1.2.2.2.1 z0 hb9
    have fall : gFr k (k + tsz T) (lcT T) q1 q4 := gFr_tr (gFr_tr fT hQ2.1) hf4
    have kall : gKn pls q1 q4 := gKn_tr (gKn_tr fk (gQ_kn hQ2)) hk4
    refine gWr hQ1 fall kall hI4 hQ5 ⟨by rw [c15, hmd.1], by rw [c16, hmd.2.1], by rw [c17, hmd.2.2]⟩ (z := zTh z zb) (by rw [x7]; exact y1) (by rw [x8]; exact y2) ?_
    rw [gQ_sem (P := P) hQ2] at zbA
    exact zA_c ez (zTh_A hTa fb dab dR sa sb hg za (fun _ => zbA) (fun y => absurd z0 y))
theorem gv_un6r (hm : m ≤ 1000) (hS : gSt M E P D n ps sg pa pls N) (hT : gTr M kk ff xx m n ps sg pa (.unary x A) V k up w t a c Es) (hk : (lT x).1 = 6) (hA : gVis G E M P D pls N A V (k + 1) (w + 1).toNat) {ρ : Nat → Nat} {s : Prop} (hR : RV G E S q) (hP : gPre M P D (.unary x A) V k w.toNat ρ none s q) (hst : st + cst (.unary x A) none ≤ N) (kon : ∀ S' q' st', RV G E S' q' → gPost M P pls (.unary x A) k w.toNat ρ none s q q' → st' + 1 ≤ st + cst (.unary x A) none → dc_wp (dc_it (gtS G E) (S', Int32.ofNat k, -1, Int32.ofNat st')) F) : dc_wp (dc_it (gtS G E) (S, x2, Int32.ofNat k, Int32.ofNat st)) F := by
  obtain ⟨⟨u1, u2, u3, u4⟩, ⟨hx, tk, r0, r1, r4, r7, rw, r51⟩, hx1, tk1, r13⟩ := un_r hm hS hT
  have n10 : ¬ (lT x).1 = 10 := by rw [hk]; decide
  have cs2 : cst (.unary x A) none = cst A none + 2 * tsz A + 2 := by
    show 2 * (1 + rvs A + if (lT x).1 = 6 then tsz A else 0) = 2 * rvs A + 2 * tsz A + 2
    rw [if_pos hk]; omega
  have ezc : k + tsz (.unary x A) = k + (1 + tsz A) := rfl
  have hlc : lcT (.unary x A) = lcT A := if_neg n10
  have hmd : q.2 15 = 0 ∧ q.2 16 = -1 ∧ q.2 17 = 0 := hP.2.2.2.1
  have gA' := gTr_un hm hT
  rw [if_pos hk, vL_n n10] at gA'
  refine un_beg hm hS hT (md := none) (Or.inr hk) (v := w.toNat) hmd hP.2.1 hR (by omega) (fun S1 g1 => ?_)
  have hQ1 : gQ k (k + tsz (.unary x A)) (lcT (.unary x A)) q (uX q 9 (k + 1) (q.1 9 k)) := gQ_u (by omega) (by omega) (by omega)
  have n9 : (uX q 9 (k + 1) (q.1 9 k)).1 9 k = q.1 9 k := by rw [uX_s, upd_n (by omega)]
  have n4 : (uX q 9 (k + 1) (q.1 9 k)).1 4 = q.1 4 := uX_n (by decide)
  have pA := gPre_1 (A := A) (kA := k + 1) (v' := (w + 1).toNat) (s' := s) hP hQ1 ⟨rfl, rfl, rfl⟩ (fun y hy => by rw [n4]) (by omega) (by omega) (by rw [u9_9]; exact hP.2.1) (by omega) (fun z => (un_hs hm hT _).mpr (hP.2.2.2.2.2.2.2 z))
  refine hA ρ none s S1 _ (Int32.ofNat k) (st + 1) F g1 pA (by omega) ?_
  intro S2 q2 st2 g2 pst hst2
  obtain ⟨f1, ffl, fk, fI, z, ⟨zc, zm⟩, za⟩ := pst
  have fl1 : (uX q 9 (k + 1) (q.1 9 k)).2 = q.2 := rfl
  refine gt_gr g2 (gtN hS) (by omega) hx1 rfl (nk_0 (by omega) (by omega)) ?_ (by rw [ffl.1, fl1]; exact hmd.1) ?_
  · rw [ffl.2.1, fl1, hmd.2.1]
    exact nk_1 (by omega)
  · rw [tk1, r13]
    refine wq_w (gr_6 g2 hx (by rw [tk, r0, hk]) hx1) (fun r hr => ?_)
    rw [tk, tk1] at hr
    have fa := gZ_fm (P := P) hm gA'.1 (ρ := ρ) (md := none) trivial
    refine gBeh (Ta := A) (Tb := A) (ka := k + 1) (kB := k + 1) (va := (w + 1).toNat) hm hS hT.2.1 u4 r7 hP hQ1 fl1 n9 n4 (by omega) (by omega) (by omega) (fun y hy => by rw [hlc]; exact hy) f1 ffl fk fI zc zm za (by omega) (by omega) (fun y hy => by rw [hlc]; exact hy) fa gA' (fun y hy => ⟨(hT.1.2.2.2.2.2.2.2.2.2.2 y hy).1.1, (hT.1.2.2.2.2.2.2.2.2.2.2 y hy).2⟩) (fun y hy => (hT.1.2.2.2.2.2.2.2.2.2.1 y hy).1) (fun i h1 h2 => ?_) ?_ ?_ hA hst (by omega) kon r hr
    · refine INq_d h1 h2 (Or.inr (Or.inr (fun d d1 d2 => ?_)))
      have d1 : (w + 1).toNat ≤ d := d1
      have d2 : d = w.toNat := d2
      omega
    · rw [un_rg hm hT]
      exact fun p => ⟨Or.inl, fun z => z.elim id id⟩
    · intro κ s
      have : gZ M P (.unary x A) k ρ none κ s = zTh (gZ M P A (k + 1) ρ none κ s) (gZ M P A (k + 1) ρ (some w.toNat) κ (zM (gZ M P A (k + 1) ρ none κ s) 0)) := by
        show zv _ _ _ _ _ (.unary x A) k ρ none s = _
        unfold zv
        rw [if_neg (by rw [hk]; decide), if_pos hk, rw]
        rfl
      rw [this]
/-- one within, all kinds -/
theorem gv_un (W : pcW names kk ff ss xx m) (hgO : ∀ i, v3 (gO P i)) (hm : m ≤ 1000) (hS : gSt M E P D n ps sg pa pls N) (hT : gTr M kk ff xx m n ps sg pa (.unary x A) V k up w t a c Es) (hA : gVis G E M P D pls N A (vL V (lT x)) (k + 1) (w + if (lT x).1 = 6 then 1 else 0).toNat) : gVis G E M P D pls N (.unary x A) V k w.toNat := by
  have hO := hT.1.1
  rcases hO.1.1 with ⟨z, -⟩ | ⟨z | z | z, -⟩
  · have n6 : ¬ (lT x).1 = 6 := by rw [z]; decide
    have n10 : ¬ (lT x).1 = 10 := by rw [z]; decide
    rw [vL_n n10] at hA
    intro ρ md s S q x2 st F hR hP hst kon
    cases md with
    | none =>
      rw [if_neg n6, Int.add_zero] at hA
      exact gv_un4r W hgO hm hS hT z hA hR hP hst kon
    | some d => exact gv_un46 hm hS hT (Or.inl z) hA hR hP hst kon
  · have n10 : ¬ (lT x).1 = 10 := by rw [z]; decide
    rw [vL_n n10] at hA
    intro ρ md s S q x2 st F hR hP hst kon
    cases md with
    | none =>
      rw [if_pos z] at hA
      exact gv_un6r hm hS hT z hA hR hP hst kon
    | some d => exact gv_un46 hm hS hT (Or.inr z) hA hR hP hst kon
  · have n6 : ¬ (lT x).1 = 6 := by rw [z]; decide
    have n10 : ¬ (lT x).1 = 10 := by rw [z]; decide
    rw [vL_n n10, if_neg n6, Int.add_zero] at hA
    exact gv_un8 hm hS hT z hA
  · have n6 : ¬ (lT x).1 = 6 := by rw [z]; decide
    rw [if_neg n6, Int.add_zero] at hA
    exact gv_un10 hm hS hT z hA
end GOB
