/-! a visit of the class: a trap -/
section GOT
variable {G : hg_E} {E : rvP} {M : md_S} {P : gvP} {D : Option Nat → Prop} {names : Int32} {kk ff ss xx : Nat → Int32} {m n ps sg pa pls N : Nat} {T A B : tT} {V : Int32 → Prop} {k : Nat} {up : Int32} {w : Int} {t : Int32} {a c : Int} {Es : List (Int32 × Int32)} {S : hg_S} {q : rsT} {x : Lean.Name} {x2 : Int32} {st : Nat} {F : hg_S ⊕ hg_S → Prop}
/-- a loop that resumes, a trap: the one within is begun -/
theorem un_beg (hm : m ≤ 1000) (hS : gSt M E P D n ps sg pa pls N) (hT : gTr M kk ff xx m n ps sg pa (.unary x A) V k up w t a c Es) {md : Option Nat} (hk : (lT x).1 = 8 ∨ (lT x).1 = 6) {v : Nat} (hmd : gMd md v q) {s : Prop} (hb : bB (q.1 9 k) s) (hR : RV G E S q) (hst : st < N) (kon : ∀ S1, RV G E S1 (uX q 9 (k + 1) (q.1 9 k)) → dc_wp (dc_it (gtS G E) (S1, Int32.ofNat k, Int32.ofNat (k + 1), Int32.ofNat (st + 1))) F) : dc_wp (dc_it (gtS G E) (S, x2, Int32.ofNat k, Int32.ofNat st)) F := by
  obtain ⟨⟨u1, u2, u3, u4⟩, ⟨hx, tk, r0, r1, r4, r7, rw, r51⟩, hx1, tk1, r13⟩ := un_r hm hS hT
  have h9 := b9_s hb
  have fin : ∀ r : hg_S × Int32, r.2 = vR E 1 (Int32.ofNat k).toInt.toNat ∧ RV G E r.1 (uX q 9 (vR E 1 (Int32.ofNat k).toInt.toNat).toInt.toNat (q.1 9 (Int32.ofNat k).toInt.toNat)) → dc_wp (dc_it (gtS G E) (r.1, Int32.ofNat k, r.2, Int32.ofNat (st + 1))) F := by
    rintro ⟨S1, v1⟩ ⟨e1, g1⟩
    have e1' : v1 = vR E 1 (Int32.ofNat k).toInt.toNat := e1
    rw [tk, r1] at e1'
    have g1' : RV G E S1 (uX q 9 (vR E 1 (Int32.ofNat k).toInt.toNat).toInt.toNat (q.1 9 (Int32.ofNat k).toInt.toNat)) := g1
    rw [tk, r1, tk1] at g1'
    show dc_wp (dc_it (gtS G E) (S1, Int32.ofNat k, v1, Int32.ofNat (st + 1))) F
    rw [e1']
    exact kon S1 g1'
  cases md with
  | none =>
    refine gt_br hR (gtN hS) hst (nk_1 (by omega)) hmd.1 (wq_w ?_ fin)
    rcases hk with z | z
    · exact br_8 hR hx (by rw [tk, r0, z]) (by rw [tk]; exact h9) (by rw [tk, r1]; exact hx1)
    · exact br_6 hR hx (by rw [tk, r0, z]) (by rw [tk]; exact h9) (by rw [tk, r1]; exact hx1)
  | some d => exact gt_bs hR (gtN hS) hst (nk_1 (by omega)) hmd.1 (wq_w (bs_w hR hx (by rw [tk, r0]; rcases hk with z | z <;> (rw [z]; decide)) (by rw [tk]; exact h9) (by rw [tk, r1]; exact hx1)) fin)
/-- a trap, a local signal: the one within is done -/
theorem un_end (hm : m ≤ 1000) (hS : gSt M E P D n ps sg pa pls N) (hT : gTr M kk ff xx m n ps sg pa (.unary x A) V k up w t a c Es) {md : Option Nat} (hk : (lT x).1 = 8 ∨ (lT x).1 = 10) (h16 : ¬ q.2 16 = Int32.ofNat (k + 1)) (h15 : match md with | none => q.2 15 = 0 | some _ => ¬ q.2 15 = 0) (hR : RV G E S q) (hst : st < N) (h10 : (lT x).1 = 10 → (0 ≤ (vR E 4 k).toInt ∧ (vR E 4 k).toInt < (vL' E 4 : Int)) ∧ 0 ≤ (q.1 4 (vR E 4 k).toInt.toNat).toInt ∧ (q.1 4 (vR E 4 k).toInt.toNat).toInt < (vL' E 1 : Int) ∧ (q.1 4 (vR E 4 k).toInt.toNat).toInt < (vL' E 2 : Int)) (kon : ∀ S1, RV G E S1 (reCs E q k (k + 1)) → dc_wp (dc_it (gtS G E) (S1, Int32.ofNat k, -1, Int32.ofNat (st + 1))) F) : dc_wp (dc_it (gtS G E) (S, Int32.ofNat (k + 1), -1, Int32.ofNat st)) F := by
  obtain ⟨⟨u1, u2, u3, u4⟩, ⟨hx, tk, r0, r1, r4, r7, rw, r51⟩, hx1, tk1, r13⟩ := un_r hm hS hT
  obtain ⟨e8, e9, p1, p2⟩ := gPs hm hS hT
  have l11 := hS.2.2.2.1.2.2.2
  have pa2 := hS.2.1.2.2.2.1
  have cs := cs_w hR hx hx1 (fun z => by
    rw [tk]
    exact ⟨pfQ M.2.1 k, ptQ M.2.1 k, e8, e9, p1, by rw [l11]; exact p2, by omega⟩) (fun z => by rw [tk, r0] at z; rw [tk]; exact h10 z)
  have fin : ∀ r : hg_S × Int32, r.2 = -1 ∧ RV G E r.1 (reCs E q (Int32.ofNat k).toInt.toNat (Int32.ofNat (k + 1)).toInt.toNat) → dc_wp (dc_it (gtS G E) (r.1, Int32.ofNat k, r.2, Int32.ofNat (st + 1))) F := by
    rintro ⟨S1, v1⟩ ⟨e1, g1⟩
    have e1' : v1 = -1 := e1
    have g1' : RV G E S1 (reCs E q (Int32.ofNat k).toInt.toNat (Int32.ofNat (k + 1)).toInt.toNat) := g1
    rw [tk, tk1] at g1'
    show dc_wp (dc_it (gtS G E) (S1, Int32.ofNat k, v1, Int32.ofNat (st + 1))) F
    rw [e1']
    exact kon S1 g1'
  cases md with
  | none =>
    refine gt_gr hR (gtN hS) hst hx1 rfl (nk_0 (by omega) (by omega)) (fun e => h16 e.symm) h15 ?_
    rw [tk1, r13]
    refine wq_w ?_ fin
    rcases hk with z | z
    · exact gr_8 hR hx (by rw [tk, r0, z]) cs
    · exact gr_10 hR hx (by rw [tk, r0, z]) cs
  | some d =>
    refine gt_gs hR (gtN hS) hst hx1 rfl (nk_0 (by omega) (by omega)) (fun e => h16 e.symm) h15 ?_
    rw [tk1, r13]
    refine wq_w ?_ fin
    rcases hk with z | z
    · exact gs_8 hR hx (by rw [tk, r0, z]) cs
    · exact gs_10 hR hx (by rw [tk, r0, z]) cs
theorem mB_tr {y : Int32} {X : Nat → Prop} (h : mB y X) (hu : ∀ c d, X c → X d → c = d) : (y < 2 ↔ ¬ ∃ d, 2 ≤ d ∧ X d) ∧ mB (if y < 2 then y else if y = 2 then 0 else y - 1) (xCa X) := by
  rcases h with ⟨d, hd, h28, e⟩ | ⟨hn, e⟩
  · have ty : y.toInt = (d : Int) := by rw [e]; exact Int32.toInt_ofNat_of_lt (by omega)
    have lt : y < 2 ↔ d < 2 := by
      rw [i_lt, ty, show (2 : Int32).toInt = 2 by decide]
      omega
    refine ⟨lt.trans ⟨fun z ⟨d', h1, h2⟩ => ?_, fun z => ?_⟩, ?_⟩
    · have := hu d d' hd h2
      omega
    · by_cases z2 : d < 2
      · exact z2
      · exact absurd ⟨d, by omega, hd⟩ z
    · by_cases z : y < 2
      · rw [if_pos z]
        have zd := lt.mp z
        refine Or.inl ⟨d, ?_, h28, e⟩
        have : d = 0 ∨ d = 1 := by omega
        rcases this with u | u
        · subst u; exact Or.inl ⟨rfl, Or.inl hd⟩
        · subst u; exact Or.inr (Or.inl ⟨rfl, hd⟩)
      · rw [if_neg z]
        have zd : ¬ d < 2 := fun u => z (lt.mpr u)
        by_cases z2 : y = 2
        · rw [if_pos z2]
          have ed : d = 2 := by
            rw [z2, show (2 : Int32).toInt = 2 by decide] at ty
            omega
          subst ed
          exact Or.inl ⟨0, Or.inl ⟨rfl, Or.inr hd⟩, by omega, rfl⟩
        · rw [if_neg z2]
          have nd : ¬ d = 2 := fun u => z2 (by rw [e, u]; rfl)
          obtain ⟨j, ej⟩ : ∃ j, d = j + 1 := ⟨d - 1, by omega⟩
          subst ej
          refine Or.inl ⟨j, Or.inr (Or.inr ⟨by omega, hd⟩), by omega, ?_⟩
          rw [e, Int32.ofNat_add]
          show Int32.ofNat j + 1 - 1 = _
          rw [Int32.add_sub_cancel]
  · have z : y < 2 := by rw [e]; decide
    refine ⟨⟨fun _ ⟨d, _, h⟩ => hn d h, fun _ => z⟩, ?_⟩
    rw [if_pos z]
    exact Or.inr ⟨fun d u => by
      rcases u with ⟨-, u | u⟩ | ⟨-, u⟩ | ⟨-, u⟩ <;> exact hn _ u, e⟩
theorem gv_un8 (hm : m ≤ 1000) (hS : gSt M E P D n ps sg pa pls N) (hT : gTr M kk ff xx m n ps sg pa (.unary x A) V k up w t a c Es) (hk : (lT x).1 = 8) (hA : gVis G E M P D pls N A V (k + 1) w.toNat) : gVis G E M P D pls N (.unary x A) V k w.toNat := by
  intro ρ md s S q x2 st F hR hP hst kon
  obtain ⟨⟨u1, u2, u3, u4⟩, ⟨hx, tk, r0, r1, r4, r7, rw, r51⟩, hx1, tk1, r13⟩ := un_r hm hS hT
  obtain ⟨e8, e9, p1, p2⟩ := gPs hm hS hT
  have n10 : ¬ (lT x).1 = 10 := by rw [hk]; decide
  have n6 : ¬ (lT x).1 = 6 := by rw [hk]; decide
  have cs2 : cst (.unary x A) md = cst A md + 2 := by
    cases md with
    | none =>
      show 2 * (1 + rvs A + if (lT x).1 = 6 then tsz A else 0) = 2 * rvs A + 2
      rw [if_neg n6]; omega
    | some d => show 2 * (1 + tsz A) = 2 * tsz A + 2; omega
  have hmd := hP.2.2.2.1
  have hlc : lcT (.unary x A) = lcT A := if_neg n10
  refine un_beg hm hS hT (Or.inl hk) hmd hP.2.1 hR (by omega) (fun S1 g1 => ?_)
  have hQ1 : gQ k (k + tsz (.unary x A)) (lcT (.unary x A)) q (uX q 9 (k + 1) (q.1 9 k)) := gQ_u (by omega) (by omega) (show k + 1 < k + (1 + tsz A) by omega)
  have pA := gPre_1 (A := A) (kA := k + 1) (v' := w.toNat) (s' := s) hP hQ1 ⟨rfl, rfl, rfl⟩ (fun y hy => by rw [uX_n (by decide)]) (by omega) (show k + 1 + tsz A ≤ k + (1 + tsz A) by omega) (by rw [u9_9]; exact hP.2.1) (by omega) (fun z => (un_hs hm hT _).mpr (hP.2.2.2.2.2.2.2 z))
  refine hA ρ md s S1 _ (Int32.ofNat k) (st + 1) F g1 pA (by omega) ?_
  intro S2 q2 st2 g2 pst hst2
  obtain ⟨f1, ⟨f15, f16, f17⟩, fk, fI, z, ⟨zc, zm⟩, za⟩ := pst
  refine un_end hm hS hT (md := md) (Or.inl hk) ?_ ?_ g2 (by omega) (fun z => absurd z n10) (fun S3 g3 => ?_)
  · rw [f16]
    exact hP.2.2.2.2.1 (k + 1) (by omega) (show k + 1 < k + (1 + tsz A) by omega)
  · cases md with
    | none => show q2.2 15 = 0; rw [f15]; exact hmd.1
    | some d => show ¬ q2.2 15 = 0; rw [f15]; exact hmd.1
  · have ecs : reCs E q2 k (k + 1) = reC3 E (reC1 q2 k (k + 1)) k := by
      unfold reCs
      rw [r0, if_neg n10, if_pos hk]
    rw [ecs] at g3
    refine kon S3 _ (st2 + 1) g3 ?_ (by omega)
    have zok := za.1.2.2.2.1
    obtain ⟨t1, t2⟩ := mB_tr zm (fun c d hc hd => ((zok.2.2.2.2.1 d hd c).mp ((zok.2.2.2.2.1 c hc c).mpr rfl)))
    have hQ3 : gQ k (k + tsz (.unary x A)) (lcT (.unary x A)) q2 (reC1 q2 k (k + 1)) := gQ_c1 (Nat.le_refl _) (show k < k + (1 + tsz A) by omega)
    have hQ4 : gQ k (k + tsz (.unary x A)) (lcT (.unary x A)) q2 (uX (reC1 q2 k (k + 1)) 7 k (wTr (q2.1 7 (k + 1)))) := gQ_tr hQ3 (gQ_u (by omega) (Nat.le_refl _) (show k < k + (1 + tsz A) by omega))
    have hz : zA (gZ M P A (k + 1) ρ md) (INq M.2.1 k (tsz (.unary x A)) md w.toNat) (gA P) (gRg M k) s (sem P (uX q 9 (k + 1) (q.1 9 k))) (sem P q2) z := by
      rw [← un_rg hm hT]
      exact ⟨za.1, zSd_m za.2.1 (fun i hi => INq_m hi (by omega) (show k + 1 + tsz A ≤ k + (1 + tsz A) by omega) (fun d => mdD_m (by omega))), za.2.2⟩
    have ez : gZ M P (.unary x A) k ρ md = fun κ s => zTr (gZ M P A (k + 1) ρ md κ s) := by
      funext κ s
      show zv _ _ _ _ _ (.unary x A) k ρ md s = _
      unfold zv
      rw [if_neg (by rw [hk]; decide), if_neg n6, if_pos hk]
      rfl
    have e8' : (uX (reC1 q2 k (k + 1)) 7 k (wTr ((reC1 q2 k (k + 1)).1 7 k))).1 8 k = q2.1 8 (k + 1) := by rw [uX_n (by decide), reC1_8]
    unfold reC3
    rw [e8', reC1_7, reC1_8]
    have hf2 := gFr_m (L' := lcT (.unary x A)) f1 (show k ≤ k + 1 by omega) (show k + 1 + tsz A ≤ k + tsz (.unary x A) from by show k + 1 + tsz A ≤ k + (1 + tsz A); omega) (fun y hy => by rw [hlc]; exact hy)
    by_cases c2 : q2.1 8 (k + 1) < 2
    · rw [if_pos c2]
      rw [if_pos c2] at t2
      refine gWr hQ1 hf2 fk fI hQ4 ⟨f15, f16, f17⟩ (z := zTr z) (by rw [uX_s, upd_s]; exact wTr_b zc) (by rw [uX_n (by decide), reC1_8]; exact t2) ?_
      rw [ez]
      exact ⟨zTr_O hz.1, zTr_S hz.2.1, zTr_N hz.1 gZ_ok hz.2.2 (fun y => absurd y (t1.mp c2)) (fun _ _ => Iff.rfl) (fun _ _ => Iff.rfl)⟩
    · rw [if_neg c2]
      rw [if_neg c2] at t2
      have ex : ∃ d, 2 ≤ d ∧ zM z d := Classical.byContradiction (fun y => c2 (t1.mpr y))
      generalize (if q2.1 8 (k + 1) = 2 then (0 : Int32) else q2.1 8 (k + 1) - 1) = mm at t2
      generalize hq4 : uX (reC1 q2 k (k + 1)) 7 k (wTr (q2.1 7 (k + 1))) = q4 at hQ4
      have c7 : q4.1 7 k = wTr (q2.1 7 (k + 1)) := by rw [← hq4, uX_s, upd_s]
      have fl4 : q4.2 15 = q2.2 15 ∧ q4.2 16 = q2.2 16 ∧ q4.2 17 = q2.2 17 := by rw [← hq4]; exact ⟨rfl, rfl, rfl⟩
      have ne : ∀ i, ¬ i = 8 → ¬ i = 11 → (uX (reCl E q4 k) 8 k mm).1 i = q4.1 i := fun i h1 h2 => by
        rw [uX_n h1]
        unfold reCl
        rw [fX_n h2]
      have n11 : ∀ p, (uX (reCl E q4 k) 8 k mm).1 11 p = if pfQ M.2.1 k ≤ p ∧ p < ptQ M.2.1 k then 0 else q4.1 11 p := by
        intro p
        rw [uX_n (by decide)]
        unfold reCl
        rw [fX_s, e8, e9, Int32.toInt_ofNat_of_lt (by have := hS.2.1.2.2.2.1; omega), Int32.toInt_ofNat_of_lt (by have := hS.2.1.2.2.2.1; omega)]
        rfl
      have hF5 : gFr k (k + tsz (.unary x A)) (lcT (.unary x A)) q4 (uX (reCl E q4 k) 8 k mm) := by
        refine ⟨fun i j hi hj => ?_, fun j hj => by rw [ne 4 (by omega) (by omega)], ne 3 (by omega) (by omega), ne 10 (by omega) (by omega), rfl⟩
        by_cases i8 : i = 8
        · subst i8
          rw [uX_s, upd_n (fun e => hj ⟨by omega, by rw [e]; show k < k + (1 + tsz A); omega⟩)]
          unfold reCl
          rw [fX_n (by decide)]
        · rw [ne i i8 (by omega)]
      have e1 : (uX (reCl E q4 k) 8 k mm).1 1 = q2.1 1 := (ne 1 (by omega) (by omega)).trans hQ4.2.1.1
      have e2 : (uX (reCl E q4 k) 8 k mm).1 2 = q2.1 2 := (ne 2 (by omega) (by omega)).trans hQ4.2.1.2.1
      have e12 : (uX (reCl E q4 k) 8 k mm).2 12 = q2.2 12 := hQ4.1.2.2.2.2
      have e13 : (uX (reCl E q4 k) 8 k mm).2 13 = q2.2 13 := hQ4.2.2.1
      have e14 : (uX (reCl E q4 k) 8 k mm).2 14 = q2.2 14 := hQ4.2.2.2
      have hF := gFr_tr (gFr_tr (gFr_tr hQ1.1 hf2) hQ4.1) hF5
      refine ⟨hF, ⟨fl4.1.trans f15, fl4.2.1.trans f16, fl4.2.2.trans f17⟩, gKn_tr (gKn_tr (gQ_kn hQ1) fk) ⟨⟨fun p => by rw [e1]; exact Or.inr rfl, Or.inl ⟨e13, e1⟩⟩, ⟨e12, fun p => Or.inl (by rw [e2])⟩, fun p => by
        rw [n11]
        split
        · exact Or.inr (Or.inl rfl)
        · exact Or.inl (by rw [hQ4.2.1.2.2])⟩, ⟨by rw [hF5.2.2.1, hQ4.1.2.2.1]; exact fI.1, by rw [hF5.2.2.2.1, hQ4.1.2.2.2.1]; exact fI.2.1, by rw [e1]; exact fI.2.2.1, by rw [e14]; exact fI.2.2.2⟩, zTr z, ⟨by rw [ne 7 (by omega) (by omega), c7]; exact wTr_b zc, by rw [uX_s, upd_s]; exact t2⟩, ?_⟩
      have k1 : kap P (uX (reCl E q4 k) 8 k mm) = kap P q2 := by funext i; unfold kap; rw [e1]
      have k2 : emS P (uX (reCl E q4 k) 8 k mm) = emS P q2 := by funext i; unfold emS; rw [e2, e12]
      rw [ez, ← gQ_sem (P := P) hQ1]
      have es : sem P (uX (reCl E q4 k) 8 k mm) = (kap P q2, emS P q2, q2.2 14 = 1, chS (uX (reCl E q4 k) 8 k mm)) := by
        unfold sem
        rw [k1, k2, e14]
      rw [es]
      refine ⟨zTr_O hz.1, zTr_S hz.2.1, zTr_N hz.1 gZ_ok hz.2.2 (fun _ p hp => ?_) (fun y => absurd ex y) (fun p hp => ?_)⟩
      · show ¬ ¬ (uX (reCl E q4 k) 8 k mm).1 11 p = 0
        have hp : pfQ M.2.1 k ≤ p ∧ p < ptQ M.2.1 k := hp
        rw [n11, if_pos hp]
        exact fun y => y rfl
      · show ¬ (uX (reCl E q4 k) 8 k mm).1 11 p = 0 ↔ ¬ q2.1 11 p = 0
        have hp : ¬ (pfQ M.2.1 k ≤ p ∧ p < ptQ M.2.1 k) := hp
        rw [n11, if_neg hp, hQ4.2.1.2.2]
end GOT
