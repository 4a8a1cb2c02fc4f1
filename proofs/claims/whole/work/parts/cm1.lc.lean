/-! a visit of the class: a local signal -/
section GOC
variable {G : hg_E} {E : rvP} {M : md_S} {P : gvP} {D : Option Nat → Prop} {names : Int32} {kk ff ss xx : Nat → Int32} {m n ps sg pa pls N : Nat} {T A B : tT} {V : Int32 → Prop} {k : Nat} {up : Int32} {w : Int} {t : Int32} {a c : Int} {Es : List (Int32 × Int32)} {S : hg_S} {q : rsT} {x : Lean.Name} {x2 : Int32} {st : Nat} {F : hg_S ⊕ hg_S → Prop}
theorem reSe_1 {pl p : Nat} : (reSe q pl).1 1 p = if p = pl ∧ q.1 1 p = 2 ∧ ¬ q.1 2 p = q.2 12 then 0 else q.1 1 p := by
  unfold reSe
  by_cases c1 : q.1 1 pl = 2
  · rw [if_pos c1]
    by_cases c2 : q.1 2 pl = q.2 12
    · rw [if_pos c2]
      have nz : ¬ (p = pl ∧ q.1 1 p = 2 ∧ ¬ q.1 2 p = q.2 12) := fun z => z.2.2 (by rw [z.1]; exact c2)
      rw [if_neg nz]
    · rw [if_neg c2]
      show (uX q 1 pl 0).1 1 p = _
      rw [uX_s]
      by_cases e : p = pl
      · subst e
        rw [upd_s, if_pos ⟨rfl, c1, c2⟩]
      · rw [upd_n e, if_neg (fun z => e z.1)]
  · rw [if_neg c1]
    have nz : ¬ (p = pl ∧ q.1 1 p = 2 ∧ ¬ q.1 2 p = q.2 12) := fun z => c1 (by rw [← z.1]; exact z.2.1)
    rw [if_neg nz]
theorem reSe_n {pl i : Nat} (h : ¬ i = 1) : (reSe q pl).1 i = q.1 i := by
  unfold reSe
  by_cases c1 : q.1 1 pl = 2
  · rw [if_pos c1]
    by_cases c2 : q.1 2 pl = q.2 12
    · rw [if_pos c2]
    · rw [if_neg c2]
      show (uX q 1 pl 0).1 i = _
      rw [uX_n h]
  · rw [if_neg c1]
theorem reSe_c {pl i : Nat} (h : ¬ i = 13) : (reSe q pl).2 i = q.2 i := by
  unfold reSe
  by_cases c1 : q.1 1 pl = 2
  · rw [if_pos c1]
    by_cases c2 : q.1 2 pl = q.2 12
    · rw [if_pos c2]
    · rw [if_neg c2, uC_n h]; rfl
  · rw [if_neg c1]
theorem reSe_k {pl : Nat} (hp : pl < pls) : gK0 pls q (reSe q pl) := by
  refine ⟨fun p => ?_, ?_⟩
  · rw [reSe_1]
    split
    · rename_i z; exact Or.inl z.2.1
    · exact Or.inr rfl
  · by_cases c1 : q.1 1 pl = 2
    · by_cases c2 : q.1 2 pl = q.2 12
      · have e : reSe q pl = q := by
          unfold reSe
          rw [if_pos c1, if_pos c2]
        rw [e]
        exact Or.inl ⟨rfl, rfl⟩
      · refine Or.inr ⟨?_, pl, hp, c1, ?_⟩
        · unfold reSe
          rw [if_pos c1, if_neg c2, uC_s]
        · rw [reSe_1, if_pos ⟨rfl, c1, c2⟩]
          decide
    · have e : reSe q pl = q := by
        unfold reSe
        rw [if_neg c1]
      rw [e]
      exact Or.inl ⟨rfl, rfl⟩
/-- what stands of a row of a local signal -/
theorem lc_r (hm : m ≤ 1000) (hS : gSt M E P D n ps sg pa pls N) (hT : gTr M kk ff xx m n ps sg pa (.unary x A) V k up w t a c Es) (hk : (lT x).1 = 10) : vR E 4 k = (lT x).2.2.1 ∧ nuQ M.2.1 k = (lT x).2.2.1.toInt.toNat ∧ (0 ≤ (lT x).2.2.1.toInt ∧ (lT x).2.2.1.toInt < (sg : Int)) ∧ lcT (.unary x A) = (lT x).2.2.1 :: lcT A ∧ (∀ y, y ∈ lcT A → ¬ (lT x).2.2.1.toInt.toNat = y.toInt.toNat) ∧ (∀ y, V y → ¬ y.toInt.toNat = (lT x).2.2.1.toInt.toNat) ∧ baQ M.2.1 k = lis (M.2.1 51) (M.2.1 57) k := by
  obtain ⟨⟨u1, u2, u3, u4⟩, ⟨hx, tk, r0, r1, r4, r7, rw, r51⟩, hx1, tk1, r13⟩ := un_r hm hS hT
  have hsf := hT.1
  obtain ⟨hO, hL, hC, hw, hb, h62, hE, hB, hn, hl, hV⟩ := hsf
  have hlc : lcT (.unary x A) = (lT x).2.2.1 :: lcT A := if_pos hk
  have en : M.2.1 54 k = (lT x).2.2.1 := by
    have n4 : ¬ (lT x).1 = 4 := by rw [hk]; decide
    have e1 : (lT x).2.2.2.2.2 = -1 := by
      rcases hO.1.1 with z | z
      · exact absurd z.1 n4
      · exact z.2
    have := (hL.1.2.1 e1).2 (by rw [hk]; decide) (Or.inl (by rw [hk]; decide))
    rw [this]
    exact if_neg (by rw [hk]; decide)
  have mem : (lT x).2.2.1 ∈ lcT (.unary x A) := by rw [hlc]; exact List.mem_cons_self
  rw [hlc] at hn
  obtain ⟨b1, b2⟩ := hB k (Nat.le_refl _) (show k < k + (1 + tsz A) by omega) (by rw [r51]; exact hk)
  refine ⟨r4.trans en, by unfold nuQ; rw [en], ⟨(hl _ mem).1, hT.2.2.2.2.2 _ mem⟩, hlc, fun y hy e => ?_, fun y hy e => ?_, by unfold baQ; rw [b1, Int32.toInt_ofNat_of_lt (by omega)]; rfl⟩
  · have := (hl y (by rw [hlc]; exact List.mem_cons_of_mem _ hy)).1
    have h0 := (hl _ mem).1
    have ey : (lT x).2.2.1 = y := Int32.toInt_inj.mp (by omega)
    exact (List.nodup_cons.mp hn).1 (by rw [ey]; exact hy)
  · have h1 := (hV y hy).1.1
    have h0 := (hl _ mem).1
    have ey : y = (lT x).2.2.1 := Int32.toInt_inj.mp (by omega)
    exact (hV y hy).2 (by rw [ey]; exact mem)
theorem lc_core (hm : m ≤ 1000) (hS : gSt M E P D n ps sg pa pls N) (hT : gTr M kk ff xx m n ps sg pa (.unary x A) V k up w t a c Es) (hk : (lT x).1 = 10) (hA : gVis G E M P D pls N A (vL V (lT x)) (k + 1) w.toNat) {ρ : Nat → Nat} {md : Option Nat} {s : Prop} {S1 : hg_S} {i dd : Nat} (hi : i = lis (M.2.1 51) (M.2.1 57) k + dd) (hdd : dd ≤ wtQ M.2.1 k ∧ mdD md w.toNat dd) (gi : gA P i) (ez : gZ M P (.unary x A) k ρ md = fun κ s => zLc κ i s (gZ M P A (k + 1) (rhU ρ (nuQ M.2.1 k) i) md κ s)) (hP : gPre M P D (.unary x A) V k w.toNat ρ md s q) (hst : st + cst (.unary x A) md ≤ N) (hR : RV G E S1 (uX (uX q 4 (lT x).2.2.1.toInt.toNat (Int32.ofNat (gPl P i))) 9 (k + 1) (q.1 9 k))) (kon : ∀ S' q' st', RV G E S' q' → gPost M P pls (.unary x A) k w.toNat ρ md s q q' → st' + 1 ≤ st + cst (.unary x A) md → dc_wp (dc_it (gtS G E) (S', Int32.ofNat k, -1, Int32.ofNat st')) F) : dc_wp (dc_it (gtS G E) (S1, Int32.ofNat k, Int32.ofNat (k + 1), Int32.ofNat (st + 1))) F := by
  obtain ⟨⟨u1, u2, u3, u4⟩, ⟨hx, tk, r0, r1, r4, r7, rw, r51⟩, hx1, tk1, r13⟩ := un_r hm hS hT
  obtain ⟨ln, lnu, ⟨ls0, ls1⟩, hlc, hnA, hnV, hba⟩ := lc_r hm hS hT hk
  have n8 : ¬ (lT x).1 = 8 := by rw [hk]; decide
  have n6 : ¬ (lT x).1 = 6 := by rw [hk]; decide
  have cs2 : cst (.unary x A) md = cst A md + 2 := by
    cases md with
    | none =>
      show 2 * (1 + rvs A + if (lT x).1 = 6 then tsz A else 0) = 2 * rvs A + 2
      rw [if_neg n6]; omega
    | some d => show 2 * (1 + tsz A) = 2 * tsz A + 2; omega
  have ezc : k + tsz (.unary x A) = k + (1 + tsz A) := rfl
  have pb := hS.2.2.2.2.1.2 i gi
  have pls' := hS.2.1.2.2.2.2
  obtain ⟨⟨l1, l2, l3, l4, l5⟩, -, -, -⟩ := hS.2.2.2.1
  have tp : (Int32.ofNat (gPl P i)).toInt = (gPl P i : Int) := Int32.toInt_ofNat_of_lt (by omega)
  have tp' : (Int32.ofNat (gPl P i)).toInt.toNat = gPl P i := by omega
  have hmd := hP.2.2.2.1
  have mem : (lT x).2.2.1 ∈ lcT (.unary x A) := by rw [hlc]; exact List.mem_cons_self
  have hQ1 : gQ k (k + tsz (.unary x A)) (lcT (.unary x A)) q (uX (uX q 4 (lT x).2.2.1.toInt.toNat (Int32.ofNat (gPl P i))) 9 (k + 1) (q.1 9 k)) := gQ_tr (gQ_u4 mem rfl) (gQ_u (by omega) (by omega) (by omega))
  have q4e : (uX (uX q 4 (lT x).2.2.1.toInt.toNat (Int32.ofNat (gPl P i))) 9 (k + 1) (q.1 9 k)).1 4 = upd (q.1 4) (lT x).2.2.1.toInt.toNat (Int32.ofNat (gPl P i)) := by rw [uX_n (by decide), uX_s]
  have sub : ∀ j, INq M.2.1 (k + 1) (tsz A) md w.toNat j → INq M.2.1 k (tsz (.unary x A)) md w.toNat j := fun j hj => INq_m hj (by omega) (by omega) (fun d => id)
  have ini : INq M.2.1 k (tsz (.unary x A)) md w.toNat i := ⟨k, dd, ⟨Nat.le_refl _, by omega⟩, by rw [r51]; exact hk, hi, hdd.1, hdd.2⟩
  have nini : ¬ INq M.2.1 (k + 1) (tsz A) md w.toNat i := by
    rintro ⟨j, d, ⟨j1, j2⟩, j3, ej, d1, d2⟩
    have := lis_inj (by rw [r51]; exact hk) j3 hdd.1 d1 (hi.symm.trans ej)
    omega
  obtain ⟨hI, hb9, hV, -, h16, hem, hD, hh⟩ := hP
  generalize hq1 : uX (uX q 4 (lT x).2.2.1.toInt.toNat (Int32.ofNat (gPl P i))) 9 (k + 1) (q.1 9 k) = q1 at hR hQ1 q4e
  have fl1 : q1.2 15 = q.2 15 ∧ q1.2 16 = q.2 16 ∧ q1.2 17 = q.2 17 := by rw [← hq1]; exact ⟨rfl, rfl, rfl⟩
  have b91 : q1.1 9 (k + 1) = q.1 9 k := by rw [← hq1]; exact u9_9
  have pA : gPre M P D A (vL V (lT x)) (k + 1) w.toNat (rhU ρ (nuQ M.2.1 k) i) md s q1 := by
    refine ⟨gIv_q hQ1 hI, by rw [b91]; exact hb9, fun y hy => ?_, ?_, fun j j1 j2 => by rw [fl1.2.1]; exact h16 j (by omega) (by omega), fun j hj => by rw [emS_q hQ1]; exact hem j (sub j hj), hD, fun z => (un_hs hm hT _).mpr (hh z)⟩
    · unfold vL at hy
      rw [if_pos hk] at hy
      unfold rhU
      rw [lnu, q4e]
      by_cases e : y.toInt.toNat = (lT x).2.2.1.toInt.toNat
      · rw [if_pos e, e, upd_s]
        exact ⟨gi, rfl, nini⟩
      · rw [if_neg e, upd_n e]
        rcases hy with hy | hy
        · obtain ⟨a1, a2, a3⟩ := hV y hy
          exact ⟨a1, a2, fun z => a3 (sub _ z)⟩
        · exact absurd (by rw [hy]) e
    · cases md with
      | none =>
        show q1.2 15 = 0 ∧ q1.2 16 = -1 ∧ q1.2 17 = 0
        rw [fl1.1, fl1.2.1, fl1.2.2]
        exact hmd
      | some d =>
        show ¬ q1.2 15 = 0 ∧ q1.2 17 = Int32.ofNat d ∧ d < w.toNat
        rw [fl1.1, fl1.2.2]
        exact hmd
  refine hA _ md s S1 q1 (Int32.ofNat k) (st + 1) F hR pA (by omega) ?_
  intro S2 q2 st2 g2 pst hst2
  obtain ⟨f1, ⟨f15, f16, f17⟩, fk, fI, z, ⟨zc, zm⟩, za⟩ := pst
  have e24 : q2.1 4 (lT x).2.2.1.toInt.toNat = Int32.ofNat (gPl P i) := by
    rw [f1.2.1 _ hnA, q4e, upd_s]
  refine un_end hm hS hT (md := md) (Or.inr hk) ?_ ?_ g2 (by omega) (fun _ => by rw [ln, e24, l4, l1, l2]; omega) (fun S3 g3 => ?_)
  · rw [f16, fl1.2.1]
    exact h16 (k + 1) (by omega) (by omega)
  · cases md with
    | none => show q2.2 15 = 0; rw [f15, fl1.1]; exact hmd.1
    | some d => show ¬ q2.2 15 = 0; rw [f15, fl1.1]; exact hmd.1
  · have ecs : reCs E q2 k (k + 1) = reC2 (reC1 q2 k (k + 1)) k (gPl P i) := by
      unfold reCs
      rw [r0, if_pos hk, ln, e24, tp']
    rw [ecs] at g3
    refine kon S3 _ (st2 + 1) g3 ?_ (by omega)
    have hQ3 : gQ k (k + tsz (.unary x A)) (lcT (.unary x A)) q2 (reC1 q2 k (k + 1)) := gQ_c1 (Nat.le_refl _) (by omega)
    have c7 : (reC1 q2 k (k + 1)).1 7 k = q2.1 7 (k + 1) := reC1_7
    have c8 : (reC1 q2 k (k + 1)).1 8 k = q2.1 8 (k + 1) := reC1_8
    have c9 : (reC1 q2 k (k + 1)).1 9 k = q.1 9 k := by
      have e1 : (reC1 q2 k (k + 1)).1 9 k = q2.1 9 k := by
        unfold reC1
        rw [uX_n (by decide), uX_n (by decide)]
      rw [e1, f1.1 9 k (by omega) (by omega), ← hq1, uX_s, upd_n (by omega), uX_n (by decide)]
    have fl3 : (reC1 q2 k (k + 1)).2 = q2.2 := rfl
    generalize hq3 : reC1 q2 k (k + 1) = q3 at hQ3 c7 c8 c9 fl3
    unfold reC2
    have n14 : (reSe q3 (gPl P i)).2 14 = q2.2 14 := by rw [reSe_c (by decide), fl3]
    rw [n14]
    have k1 : ∀ p, (reSe q3 (gPl P i)).1 1 p = if p = gPl P i ∧ q2.1 1 p = 2 ∧ ¬ q2.1 2 p = q2.2 12 then 0 else q2.1 1 p := fun p => by rw [reSe_1, hQ3.2.1.1, hQ3.2.1.2.1, hQ3.1.2.2.2.2]
    have s9 : (reSe q3 (gPl P i)).1 9 k = q.1 9 k := by rw [reSe_n (by decide)]; exact c9
    rw [s9]
    have hs9 : ¬ q.1 9 k = 0 ↔ s := ⟨fun z => hb9.elim (fun y => y.1) (fun y => absurd y.2 z), fun z => hb9.elim (fun y => by rw [y.2]; decide) (fun y => absurd z y.1)⟩
    have hQd : ∀ v : Int32, v = 0 ∨ v = 1 → (v = 1 ↔ (q2.2 14 = 1 ∨ (s ∧ (reSe q3 (gPl P i)).1 1 (gPl P i) = 2))) → gPost M P pls (.unary x A) k w.toNat ρ md s q (uC (reSe q3 (gPl P i)) 14 v) := by
      intro v hv01 hv
      have ne : ∀ j, ¬ j = 1 → (uC (reSe q3 (gPl P i)) 14 v).1 j = q3.1 j := fun j hj => reSe_n hj
      have nc : ∀ j, ¬ j = 13 → ¬ j = 14 → (uC (reSe q3 (gPl P i)) 14 v).2 j = q2.2 j := fun j h1 h2 => by rw [uC_n h2, reSe_c h1, fl3]
      have e1 : ∀ p, (uC (reSe q3 (gPl P i)) 14 v).1 1 p = if p = gPl P i ∧ q2.1 1 p = 2 ∧ ¬ q2.1 2 p = q2.2 12 then 0 else q2.1 1 p := k1
      have e2 : (uC (reSe q3 (gPl P i)) 14 v).1 2 = q2.1 2 := (ne 2 (by omega)).trans hQ3.2.1.2.1
      have e11 : (uC (reSe q3 (gPl P i)) 14 v).1 11 = q2.1 11 := (ne 11 (by omega)).trans hQ3.2.1.2.2
      have e12 : (uC (reSe q3 (gPl P i)) 14 v).2 12 = q2.2 12 := nc 12 (by omega) (by omega)
      have e14 : (uC (reSe q3 (gPl P i)) 14 v).2 14 = v := uC_s
      have hF4 : gFr k (k + tsz (.unary x A)) (lcT (.unary x A)) q3 (uC (reSe q3 (gPl P i)) 14 v) := ⟨fun a b ha hb => by rw [ne a (by omega)], fun j _ => by rw [ne 4 (by omega)], ne 3 (by omega), ne 10 (by omega), by rw [e12, fl3]⟩
      have hf2 := gFr_m (L' := lcT (.unary x A)) f1 (show k ≤ k + 1 by omega) (show k + 1 + tsz A ≤ k + tsz (.unary x A) by omega) (fun y hy => by rw [hlc]; exact List.mem_cons_of_mem _ hy)
      have kn4 : gKn pls q3 (uC (reSe q3 (gPl P i)) 14 v) := by
        obtain ⟨a1, a2⟩ := reSe_k (q := q3) pb
        refine ⟨⟨a1, ?_⟩, ⟨by rw [e12, fl3], fun p => Or.inl (by rw [ne 2 (by omega)])⟩, fun p => Or.inl (by rw [ne 11 (by omega)])⟩
        have e13 : (uC (reSe q3 (gPl P i)) 14 v).2 13 = (reSe q3 (gPl P i)).2 13 := uC_n (by decide)
        rw [e13]
        exact a2
      refine ⟨gFr_tr (gFr_tr (gFr_tr hQ1.1 hf2) hQ3.1) hF4, ⟨by rw [nc 15 (by omega) (by omega), f15, fl1.1], by rw [nc 16 (by omega) (by omega), f16, fl1.2.1], by rw [nc 17 (by omega) (by omega), f17, fl1.2.2]⟩, gKn_tr (gKn_tr (gKn_tr (gQ_kn hQ1) fk) (gQ_kn hQ3)) kn4, ⟨by rw [hF4.2.2.1, hQ3.1.2.2.1]; exact fI.1, by rw [hF4.2.2.2.1, hQ3.1.2.2.2.1]; exact fI.2.1, fun p => ?_, by rw [e14]; exact hv01⟩, ?_⟩
      · rw [e1]
        split
        · exact Or.inl rfl
        · exact fI.2.2.1 p
      · have h2 : ∀ j, (j = i ∧ kap P q2 j = 2 ∧ ¬ emS P q2 j → kap P (uC (reSe q3 (gPl P i)) 14 v) j = 0) ∧ (¬ (j = i ∧ kap P q2 j = 2 ∧ ¬ emS P q2 j) → kap P (uC (reSe q3 (gPl P i)) 14 v) j = kap P q2 j) := by
          intro j
          by_cases aj : gA P j
          · rw [kap_A aj, kap_A aj, e1]
            constructor
            · rintro ⟨rfl, y2, y3⟩
              rw [if_pos ⟨rfl, y2, y3⟩]
            · intro y
              rw [if_neg (fun u => y ⟨hS.2.2.2.2.1.1 j i aj gi u.1, u.2.1, u.2.2⟩)]
          · rw [kap_n aj, kap_n aj]
            exact ⟨fun y => absurd (y.1 ▸ gi) aj, fun _ => rfl⟩
        have ke : emS P (uC (reSe q3 (gPl P i)) 14 v) = emS P q2 := by funext j; unfold emS; rw [e2, e12]
        have kc : chS (uC (reSe q3 (gPl P i)) 14 v) = chS q2 := by funext j; unfold chS; rw [e11]
        have kv : kap P (uC (reSe q3 (gPl P i)) 14 v) i = (reSe q3 (gPl P i)).1 1 (gPl P i) := kap_A gi
        have es : sem P (uC (reSe q3 (gPl P i)) 14 v) = (kap P (uC (reSe q3 (gPl P i)) 14 v), emS P q2, v = 1, chS q2) := by
          unfold sem
          rw [ke, kc, e14]
        refine ⟨zLc (kap P (uC (reSe q3 (gPl P i)) 14 v)) i s z, ⟨by rw [ne 7 (by omega), c7]; exact zc, by rw [ne 8 (by omega), c8]; exact zm⟩, ?_⟩
        rw [ez, es, ← gQ_sem (P := P) hQ1, ← un_rg hm hT]
        have nem : ¬ emS P q1 i := by rw [emS_q hQ1]; exact hem i ini
        have lz := zLc_O (A := gA P) gZ_mo za.1 gi nem h2
        refine ⟨lz, zLc_S gZ_mo za.1 gi h2 za.2.1 sub ini, zLc_N za.1 (fun j => ?_) za.2.2 (by show v = 1 ↔ q2.2 14 = 1 ∨ (s ∧ kap P (uC (reSe q3 (gPl P i)) 14 v) i = 2); rw [kv]; exact hv)⟩
        show vle (kap P q2 j) (kap P (uC (reSe q3 (gPl P i)) 14 v) j)
        by_cases y : j = i ∧ kap P q2 j = 2 ∧ ¬ emS P q2 j
        · exact Or.inl y.2.1
        · rw [(h2 j).2 y]; exact Or.inr rfl
    by_cases d0 : q2.2 14 = 0
    · rw [if_pos d0]
      have d1 : ¬ q2.2 14 = 1 := by rw [d0]; decide
      by_cases s0 : q.1 9 k = 0
      · rw [if_pos s0]
        exact hQd 0 (Or.inl rfl) ⟨fun y => absurd y (by decide), fun y => y.elim (fun y => absurd y d1) (fun y => absurd s0 (hs9.mpr y.1))⟩
      · rw [if_neg s0]
        by_cases v2 : (reSe q3 (gPl P i)).1 1 (gPl P i) = 2
        · rw [if_pos v2]
          exact hQd 1 (Or.inr rfl) ⟨fun _ => Or.inr ⟨hs9.mp s0, v2⟩, fun _ => rfl⟩
        · rw [if_neg v2]
          exact hQd 0 (Or.inl rfl) ⟨fun y => absurd y (by decide), fun y => y.elim (fun y => absurd y d1) (fun y => absurd y.2 v2)⟩
    · rw [if_neg d0]
      exact hQd 1 (Or.inr rfl) ⟨fun _ => Or.inl (fI.2.2.2.elim (fun y => absurd y d0) id), fun _ => rfl⟩
theorem gv_un10 (hm : m ≤ 1000) (hS : gSt M E P D n ps sg pa pls N) (hT : gTr M kk ff xx m n ps sg pa (.unary x A) V k up w t a c Es) (hk : (lT x).1 = 10) (hA : gVis G E M P D pls N A (vL V (lT x)) (k + 1) w.toNat) : gVis G E M P D pls N (.unary x A) V k w.toNat := by
  intro ρ md s S q x2 st F hR hP hst kon
  obtain ⟨⟨u1, u2, u3, u4⟩, ⟨hx, tk, r0, r1, r4, r7, rw, r51⟩, hx1, tk1, r13⟩ := un_r hm hS hT
  obtain ⟨ln, lnu, ⟨ls0, ls1⟩, hlc, hnA, hnV, hba⟩ := lc_r hm hS hT hk
  obtain ⟨⟨l1, l2, l3, l4, l5⟩, -, -, -⟩ := hS.2.2.2.1
  have n8 : ¬ (lT x).1 = 8 := by rw [hk]; decide
  have n6 : ¬ (lT x).1 = 6 := by rw [hk]; decide
  have n4 : ¬ (lT x).1 = 4 := by rw [hk]; decide
  have h9 := b9_s hP.2.1
  have hmd := hP.2.2.2.1
  have hD := hP.2.2.2.2.2.2.1
  have hF3 := hP.1.1
  have hst0 : st < N := by
    have : 1 ≤ cst (.unary x A) md := by
      cases md with
      | none =>
        show 1 ≤ 2 * (1 + rvs A + if (lT x).1 = 6 then tsz A else 0)
        omega
      | some d => show 1 ≤ 2 * (1 + tsz A); omega
    omega
  obtain ⟨g1, g2⟩ := hS.2.2.2.2.2.2.1 k (by omega) (by rw [r51]; exact hk)
  cases md with
  | none =>
    obtain ⟨gi, gp⟩ := g1 hD
    refine gt_br hR (gtN hS) hst0 (nk_1 (by omega)) hmd.1 (wq_w (br_10 hR hx (by rw [tk, r0, hk]) (by rw [tk]; exact h9) (by rw [tk, r1]; exact hx1) (by rw [tk, ln, l3, l4]; omega)) ?_)
    rintro ⟨S1, v1⟩ ⟨e1, gg⟩
    have e1' : v1 = vR E 1 (Int32.ofNat k).toInt.toNat := e1
    rw [tk, r1] at e1'
    have g1' : RV G E S1 (uX (uX q 4 (vR E 4 (Int32.ofNat k).toInt.toNat).toInt.toNat (q.1 3 (vR E 4 (Int32.ofNat k).toInt.toNat).toInt.toNat)) 9 (vR E 1 (Int32.ofNat k).toInt.toNat).toInt.toNat (q.1 9 (Int32.ofNat k).toInt.toNat)) := gg
    rw [lnu] at gp
    rw [tk, r1, tk1, ln, hF3, gp] at g1'
    show dc_wp (dc_it (gtS G E) (S1, Int32.ofNat k, v1, Int32.ofNat (st + 1))) F
    rw [e1']
    refine lc_core hm hS hT hk hA (dd := wtQ M.2.1 k) rfl ⟨Nat.le_refl _, by show w.toNat ≤ wtQ M.2.1 k; omega⟩ gi ?_ hP hst g1' kon
    funext κ s
    show zv _ _ _ _ _ (.unary x A) k ρ none s = _
    unfold zv
    rw [if_neg n4, if_neg n6, if_neg n8, hba]
    rfl
  | some d =>
    have hdw : d < w.toNat := hmd.2.2
    obtain ⟨gi, gp⟩ := g2 d (by omega) hD
    refine gt_bs hR (gtN hS) hst0 (nk_1 (by omega)) hmd.1 (wq_w (bs_10 hR hx (by rw [tk, r0, hk]) (by rw [tk]; exact h9) (by rw [tk, r1]; exact hx1) (by rw [tk, ln, l3, l4]; omega)) ?_)
    rintro ⟨S1, v1⟩ ⟨e1, gg⟩
    have e1' : v1 = vR E 1 (Int32.ofNat k).toInt.toNat := e1
    rw [tk, r1] at e1'
    have g1' : RV G E S1 (uX (uX q 4 (vR E 4 (Int32.ofNat k).toInt.toNat).toInt.toNat (q.1 3 (vR E 4 (Int32.ofNat k).toInt.toNat).toInt.toNat + q.2 17)) 9 (vR E 1 (Int32.ofNat k).toInt.toNat).toInt.toNat (q.1 9 (Int32.ofNat k).toInt.toNat)) := gg
    rw [lnu] at gp
    rw [tk, r1, tk1, ln, hF3, hmd.2.1, gp] at g1'
    show dc_wp (dc_it (gtS G E) (S1, Int32.ofNat k, v1, Int32.ofNat (st + 1))) F
    rw [e1']
    refine lc_core hm hS hT hk hA (dd := d) (md := some d) rfl ⟨by omega, show d = d from rfl⟩ gi ?_ hP hst g1' kon
    funext κ s
    show zv _ _ _ _ _ (.unary x A) k ρ (some d) s = _
    unfold zv
    rw [if_neg n4, if_neg n6, if_neg n8, hba]
    rfl
end GOC
