/-! a visit of the class: one within -/
section GOU
variable {G : hg_E} {E : rvP} {M : md_S} {P : gvP} {D : Option Nat → Prop} {names : Int32} {kk ff ss xx : Nat → Int32} {m n ps sg pa pls N : Nat} {T A B : tT} {V : Int32 → Prop} {k : Nat} {up : Int32} {w : Int} {t : Int32} {a c : Int} {Es : List (Int32 × Int32)} {S : hg_S} {q : rsT} {x : Lean.Name}
theorem ms_if {p y : Int32} {s : Prop} {z : zvT} (hb : bB p s) (hm : mB y (zM z)) (ok : zOk s z) : (if p = 0 then -1 else y) = y := by
  by_cases e : p = 0
  · rw [if_pos e]
    have ns : ¬ s := hb.elim (fun z => absurd (z.2.symm.trans e) (by decide)) (fun z => z.1)
    rcases hm with ⟨d, hd, -⟩ | ⟨-, hd⟩
    · exact absurd (ok.1 d hd) ns
    · exact hd.symm
  · rw [if_neg e]
theorem mdD_m {md : Option Nat} {v v' d : Nat} (h : v ≤ v') (z : mdD md v' d) : mdD md v d := by
  cases md with
  | none =>
    have z : v' ≤ d := z
    show v ≤ d
    omega
  | some d0 => exact z
/-- the first one within is ready -/
theorem gPre_1 {ρ : Nat → Nat} {md : Option Nat} {s s' : Prop} {v v' lo hi kA : Nat} {L : List Int32} {q1 : rsT} (hP : gPre M P D T V k v ρ md s q) (hQ : gQ lo hi L q q1) (hfl : q1.2 15 = q.2 15 ∧ q1.2 16 = q.2 16 ∧ q1.2 17 = q.2 17) (h4 : ∀ y, V y → q1.1 4 y.toInt.toNat = q.1 4 y.toInt.toNat) (hk : k < kA) (hk' : kA + tsz A ≤ k + tsz T) (hb : bB (q1.1 9 kA) s') (hv : v ≤ v') (hh : md = none → hsC M.2.1 (gC P) kA) : gPre M P D A V kA v' ρ md s' q1 := by
  obtain ⟨hI, -, hV, hmd, h16, hem, hD, -⟩ := hP
  have sub : ∀ i, INq M.2.1 kA (tsz A) md v' i → INq M.2.1 k (tsz T) md v i := fun i hi => INq_m hi (by omega) hk' (fun d => mdD_m hv)
  refine ⟨gIv_q hQ hI, hb, fun y hy => ?_, ?_, fun j j1 j2 => by rw [hfl.2.1]; exact h16 j (by omega) (by omega), fun i hi => by rw [emS_q hQ]; exact hem i (sub i hi), hD, hh⟩
  · obtain ⟨a1, a2, a3⟩ := hV y hy
    exact ⟨a1, by rw [h4 y hy]; exact a2, fun z => a3 (sub _ z)⟩
  · cases md with
    | none =>
      show q1.2 15 = 0 ∧ q1.2 16 = -1 ∧ q1.2 17 = 0
      rw [hfl.1, hfl.2.1, hfl.2.2]
      exact hmd
    | some d =>
      show ¬ q1.2 15 = 0 ∧ q1.2 17 = Int32.ofNat d ∧ d < v'
      rw [hfl.1, hfl.2.2]
      exact ⟨hmd.1, hmd.2.1, Nat.lt_of_lt_of_le hmd.2.2 hv⟩
/-- what stands of a row with one within -/
theorem un_r (hm : m ≤ 1000) (hS : gSt M E P D n ps sg pa pls N) (hT : gTr M kk ff xx m n ps sg pa (.unary x A) V k up w t a c Es) : (k + (1 + tsz A) ≤ n ∧ 1 ≤ tsz A ∧ n ≤ 1200 ∧ 1 ≤ w) ∧ (rvN E (Int32.ofNat k) ∧ (Int32.ofNat k).toInt.toNat = k ∧ vR E 0 k = (lT x).1 ∧ vR E 1 k = Int32.ofNat (k + 1) ∧ vR E 4 k = M.2.1 54 k ∧ vR E 7 k = Int32.ofNat w.toNat ∧ wtQ M.2.1 k = w.toNat ∧ M.2.1 51 k = (lT x).1) ∧ (rvN E (Int32.ofNat (k + 1)) ∧ (Int32.ofNat (k + 1)).toInt.toNat = k + 1 ∧ vR E 3 (k + 1) = Int32.ofNat k) := by
  have h2 : k + (1 + tsz A) ≤ n := hT.2.1
  have z1 := tsz_pos A
  have hn := hS.2.1.1
  have b := hT.1.2.2.2.2.1
  obtain ⟨hx, tk, ⟨r0, r1, r2, r3, r4, r7⟩, -⟩ := gRow hS (show k < n by omega)
  obtain ⟨hx1, tk1, ⟨-, -, -, r13, -⟩, -⟩ := gRow hS (show k + 1 < n by omega)
  have hL := hT.1.2.1
  have w57 : (M.2.1 57 k).toInt = w := hL.1.1.2.2.2.2.1
  refine ⟨⟨h2, z1, hn, b.2.2.2.1⟩, ⟨hx, tk, r0.trans hL.1.1.1, r1.trans hL.1.1.2.1, r4, ?_, by unfold wtQ; rw [w57], hL.1.1.1⟩, hx1, tk1, ?_⟩
  · rw [r7]
    exact ofN_m (by omega) (by omega)
  · rw [r13]
    exact LPr_up (gTr_un hm hT).1.2.1
theorem un_hs (hm : m ≤ 1000) (hT : gTr M kk ff xx m n ps sg pa (.unary x A) V k up w t a c Es) (C : Nat → Int32) : hsC M.2.1 C (k + 1) ↔ hsC M.2.1 C k := by
  obtain ⟨e1, e2⟩ := rg_un hm hT.1
  unfold hsC
  rw [e1, e2]
theorem un_rg (hm : m ≤ 1000) (hT : gTr M kk ff xx m n ps sg pa (.unary x A) V k up w t a c Es) : gRg M (k + 1) = gRg M k := by
  obtain ⟨e1, e2⟩ := rg_un hm hT.1
  funext p
  unfold gRg
  rw [e1, e2]
theorem gQ_c1 {lo hi n' d' : Nat} {L : List Int32} (h1 : lo ≤ n') (h2 : n' < hi) : gQ lo hi L q (reC1 q n' d') := gQ_tr (gQ_u (by omega) h1 h2) (gQ_u (by omega) h1 h2)
theorem reC1_7 {n' d' : Nat} : (reC1 q n' d').1 7 n' = q.1 7 d' := by
  unfold reC1
  rw [uX_n (by decide), uX_s, upd_s]
theorem reC1_8 {n' d' : Nat} : (reC1 q n' d').1 8 n' = q.1 8 d' := by
  unfold reC1
  rw [uX_s, upd_s]
theorem u9_9 {j : Nat} {v : Int32} : (uX q 9 j v).1 9 j = v := by rw [uX_s, upd_s]
theorem vL_n {V : Int32 → Prop} {y : lbT} (h : ¬ y.1 = 10) : vL V y = V := if_neg h
/-- suspend and loop that start -/
theorem gv_un46 (hm : m ≤ 1000) (hS : gSt M E P D n ps sg pa pls N) (hT : gTr M kk ff xx m n ps sg pa (.unary x A) V k up w t a c Es) (hk : (lT x).1 = 4 ∨ (lT x).1 = 6) (hA : gVis G E M P D pls N A V (k + 1) (w + if (lT x).1 = 6 then 1 else 0).toNat) {ρ : Nat → Nat} {d : Nat} {s : Prop} {x2 : Int32} {st : Nat} {F : hg_S ⊕ hg_S → Prop} (hR : RV G E S q) (hP : gPre M P D (.unary x A) V k w.toNat ρ (some d) s q) (hst : st + cst (.unary x A) (some d) ≤ N) (kon : ∀ S' q' st', RV G E S' q' → gPost M P pls (.unary x A) k w.toNat ρ (some d) s q q' → st' + 1 ≤ st + cst (.unary x A) (some d) → dc_wp (dc_it (gtS G E) (S', Int32.ofNat k, -1, Int32.ofNat st')) F) : dc_wp (dc_it (gtS G E) (S, x2, Int32.ofNat k, Int32.ofNat st)) F := by
  obtain ⟨⟨u1, u2, u3, u4⟩, ⟨hx, tk, r0, r1, r4, r7, rw, r51⟩, hx1, tk1, r13⟩ := un_r hm hS hT
  have hst : st + 2 * (1 + tsz A) ≤ N := hst
  have n8 : ¬ (lT x).1 = 8 := by rcases hk with z | z <;> (rw [z]; decide)
  have n10 : ¬ (lT x).1 = 10 := by rcases hk with z | z <;> (rw [z]; decide)
  have hb0 := @b01 ((lT x).1 = 6) _
  have h9 := b9_s hP.2.1
  refine gt_bs hR (gtN hS) (by omega) (nk_1 (by omega)) hP.2.2.2.1.1 (wq_w (bs_w hR hx (by rw [tk, r0]; rcases hk with z | z <;> (rw [z]; decide)) (by rw [tk]; exact h9) (by rw [tk, r1]; exact hx1)) ?_)
  rintro ⟨S1, v1⟩ ⟨e1', g1'⟩
  have e1 : v1 = vR E 1 (Int32.ofNat k).toInt.toNat := e1'
  clear e1'
  have g1 : RV G E S1 (uX q 9 (vR E 1 (Int32.ofNat k).toInt.toNat).toInt.toNat (q.1 9 (Int32.ofNat k).toInt.toNat)) := g1'
  clear g1'
  rw [tk, r1] at e1
  rw [tk, r1, tk1] at g1
  subst e1
  have hQ1 : gQ k (k + tsz (.unary x A)) (lcT (.unary x A)) q (uX q 9 (k + 1) (q.1 9 k)) := gQ_u (by omega) (by omega) (show k + 1 < k + (1 + tsz A) by omega)
  have pA := gPre_1 (A := A) (kA := k + 1) (v' := (w + if (lT x).1 = 6 then 1 else 0).toNat) (s' := s) hP hQ1 ⟨rfl, rfl, rfl⟩ (fun y hy => by rw [uX_n (by decide)]) (by omega) (show k + 1 + tsz A ≤ k + (1 + tsz A) by omega) (by rw [u9_9]; exact hP.2.1) (by omega) (fun z => by cases z)
  refine hA ρ (some d) s S1 _ (Int32.ofNat k) (st + 1) F g1 pA (by show st + 1 + 2 * tsz A ≤ N; omega) ?_
  intro S2 q2 st2 g2 pst hst2
  obtain ⟨f1, ⟨f15, f16, f17⟩, fk, fI, z, ⟨zc, zm⟩, za⟩ := pst
  have hst2 : st2 + 1 ≤ st + 1 + 2 * tsz A := hst2
  have cs := cs_w g2 hx hx1 (fun z => by rw [tk, r0] at z; exact absurd z n8) (fun z => by rw [tk, r0] at z; exact absurd z n10)
  have ecs : reCs E q2 (Int32.ofNat k).toInt.toNat (Int32.ofNat (k + 1)).toInt.toNat = reC1 q2 k (k + 1) := by
    unfold reCs
    rw [tk, tk1, r0, if_neg n10, if_neg n8]
  have nx : dc_wp (hm_RE_goOnStart G S2 (vO E) (Int32.ofNat k) (Int32.ofNat (k + 1))) (fun r => r.2 = -1 ∧ RV G E r.1 (reC1 q2 k (k + 1))) := by
    rw [← ecs]
    rcases hk with z | z
    · exact gs_4 g2 hx (by rw [tk, r0, z]) cs
    · exact gs_6 g2 hx (by rw [tk, r0, z]) cs
  refine gt_gs g2 (gtN hS) (by omega) hx1 rfl (nk_0 (by omega) (by omega)) ?_ ?_ ?_
  · rw [f16]
    intro e
    exact hP.2.2.2.2.1 (k + 1) (by omega) (show k + 1 < k + (1 + tsz A) by omega) e.symm
  · rw [f15]; exact hP.2.2.2.1.1
  · rw [tk1, r13]
    refine wq_w nx ?_
    rintro ⟨S3, v3⟩ ⟨e3, g3⟩
    have e3 : v3 = -1 := e3
    subst e3
    refine kon S3 _ (st2 + 1) g3 ?_ (by show st2 + 1 + 1 ≤ st + 2 * (1 + tsz A); omega)
    have hQ3 : gQ k (k + tsz (.unary x A)) (lcT (.unary x A)) q2 (reC1 q2 k (k + 1)) := gQ_c1 (Nat.le_refl _) (show k < k + (1 + tsz A) by omega)
    have hlc : lcT (.unary x A) = lcT A := if_neg n10
    refine gWr hQ1 (gFr_m f1 (show k ≤ k + 1 by omega) (show k + 1 + tsz A ≤ k + (1 + tsz A) by omega) (fun y hy => by rw [hlc]; exact hy)) fk fI hQ3 ⟨f15, f16, f17⟩ (by rw [reC1_7]; exact zc) (by rw [reC1_8]; exact zm) ?_
    have ez : gZ M P (.unary x A) k ρ (some d) = gZ M P A (k + 1) ρ (some d) := by
      funext κ s
      show zv _ _ _ _ _ (.unary x A) k ρ (some d) s = _
      unfold zv
      rcases hk with z | z
      · rw [if_pos z]; rfl
      · rw [if_neg (by rw [z]; decide), if_pos z]; rfl
    rw [ez, ← un_rg hm hT]
    exact ⟨za.1, zSd_m za.2.1 (fun i hi => INq_m hi (by omega) (show k + 1 + tsz A ≤ k + (1 + tsz A) by omega) (fun d => mdD_m (by omega))), za.2.2⟩
end GOU
