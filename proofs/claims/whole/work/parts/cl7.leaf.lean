/-! a visit of the class: leaves -/
section GOF
variable {G : hg_E} {E : rvP} {M : md_S} {P : gvP} {D : Option Nat → Prop} {names : Int32} {kk ff ss xx : Nat → Int32} {m n ps sg pa pls N : Nat} {V : Int32 → Prop} {k : Nat} {up : Int32} {w : Int} {t : Int32} {a c : Int} {Es : List (Int32 × Int32)} {S : hg_S} {q : rsT}
/-- a place is emitted -/
theorem reEm_1 {pl p : Nat} {v : Int32} : (reEm q pl v).1 1 p = if p = pl ∧ q.1 1 p = 2 ∧ ¬ v = 0 then 1 else q.1 1 p := by
  unfold reEm
  by_cases c0 : v = 0
  · rw [if_pos c0, uX_n (by decide), if_neg (fun z => z.2.2 c0)]
  · rw [if_neg c0]
    by_cases c1 : q.1 1 pl = 2
    · rw [if_pos c1]
      show (uX (uX q 2 pl (q.2 12)) 1 pl 1).1 1 p = _
      rw [uX_s, uX_n (by decide)]
      by_cases e : p = pl
      · subst e
        rw [upd_s, if_pos ⟨rfl, c1, c0⟩]
      · rw [upd_n e, if_neg (fun z => e z.1)]
    · rw [if_neg c1, uX_n (by decide)]
      by_cases e : p = pl
      · subst e
        rw [if_neg (fun z => c1 z.2.1)]
      · rw [if_neg (fun z => e z.1)]
theorem reEm_2 {pl : Nat} {v : Int32} : (reEm q pl v).1 2 = upd (q.1 2) pl (q.2 12) := by
  unfold reEm
  by_cases c0 : v = 0
  · rw [if_pos c0, uX_s]
  · rw [if_neg c0]
    by_cases c1 : q.1 1 pl = 2
    · rw [if_pos c1]
      show (uX (uX q 2 pl (q.2 12)) 1 pl 1).1 2 = _
      rw [uX_n (by decide), uX_s]
    · rw [if_neg c1, uX_s]
theorem reEm_n {pl i : Nat} {v : Int32} (h1 : ¬ i = 1) (h2 : ¬ i = 2) : (reEm q pl v).1 i = q.1 i := by
  unfold reEm
  by_cases c0 : v = 0
  · rw [if_pos c0, uX_n h2]
  · rw [if_neg c0]
    by_cases c1 : q.1 1 pl = 2
    · rw [if_pos c1]
      show (uX (uX q 2 pl (q.2 12)) 1 pl 1).1 i = _
      rw [uX_n h1, uX_n h2]
    · rw [if_neg c1, uX_n h2]
theorem reEm_c {pl i : Nat} {v : Int32} (h : ¬ i = 13) : (reEm q pl v).2 i = q.2 i := by
  unfold reEm
  by_cases c0 : v = 0
  · rw [if_pos c0]; rfl
  · rw [if_neg c0]
    by_cases c1 : q.1 1 pl = 2
    · rw [if_pos c1, uC_n h]; rfl
    · rw [if_neg c1]; rfl
theorem reEm_k {pl : Nat} {v : Int32} (hp : pl < pls) : gKn pls q (reEm q pl v) := by
  refine ⟨⟨fun p => ?_, ?_⟩, ⟨reEm_c (by decide), fun p => ?_⟩, fun p => Or.inl (by rw [reEm_n (by decide) (by decide)])⟩
  · rw [reEm_1]
    split
    · rename_i z; exact Or.inl z.2.1
    · exact Or.inr rfl
  · by_cases c0 : v = 0
    · refine Or.inl ⟨?_, ?_⟩
      · unfold reEm
        rw [if_pos c0]; rfl
      · funext p
        rw [reEm_1, if_neg (fun z => z.2.2 c0)]
    · by_cases c1 : q.1 1 pl = 2
      · refine Or.inr ⟨?_, pl, hp, c1, ?_⟩
        · unfold reEm
          rw [if_neg c0, if_pos c1, uC_s]
        · rw [reEm_1, if_pos ⟨rfl, c1, c0⟩]
          decide
      · refine Or.inl ⟨?_, ?_⟩
        · unfold reEm
          rw [if_neg c0, if_neg c1]; rfl
        · funext p
          have nz : ¬ (p = pl ∧ q.1 1 p = 2 ∧ ¬ v = 0) := fun z => c1 (z.1 ▸ z.2.1)
          rw [reEm_1, if_neg nz]
  · rw [reEm_2]
    by_cases e : p = pl
    · rw [e, upd_s]; exact Or.inr rfl
    · rw [upd_n e]; exact Or.inl rfl
theorem gv_leaf (hm : m ≤ 1000) (hS : gSt M E P D n ps sg pa pls N) {x : Lean.Name} (hT : gTr M kk ff xx m n ps sg pa (.const x) V k up w t a c Es) : gVis G E M P D pls N (.const x) V k w.toNat := by
  intro ρ md s S q x2 st F hR hP hst kon
  have kn : k < n := hT.2.1
  obtain ⟨hx, tk, ⟨r0, r1, r2, r3, r4, r7⟩, r8, r9⟩ := gRow hS kn
  obtain ⟨e8, e9, p1, p2⟩ := gPs hm hS hT
  have hsf := hT.1
  have rg := sfT_p hsf
  obtain ⟨hO, hL, hC, hw, ⟨b1, b2, b3, b4, b5, b6, b7⟩, h62, hE, hB, hn, hl, hV⟩ := hsf
  obtain ⟨hI, h9, hv, hmd, h16, hem, hD, hh⟩ := hP
  have h51 : M.2.1 51 k = (lT x).1 := hL.1.1
  have h9' : q.1 9 k = 0 ∨ q.1 9 k = 1 := h9.elim (fun z => Or.inr z.2) (fun z => Or.inl z.2)
  have hN := hS.2.1
  have nk : ¬ Int32.ofNat k = -1 := by
    intro z
    have := congrArg Int32.toInt z
    rw [Int32.toInt_ofNat_of_lt (by omega), show (-1 : Int32).toInt = -1 by decide] at this
    omega
  have c2 : st + 2 ≤ N := by
    cases md with
    | none => exact hst
    | some d => exact hst
  have c3 : st + 1 + 1 ≤ st + cst (.const x) md := by
    cases md with
    | none => exact Nat.le_refl _
    | some d => exact Nat.le_refl _
  have pas0 : ¬ (lT x).1 = 1 → md = none → False := by
    intro z e
    have h := hh e
    have : pas (.const x) = 0 := if_neg z
    unfold hsC at h
    rw [rg.1, rg.2, this, show (a + 0).toNat = a.toNat by omega] at h
    omega
  -- an answer at once
  have leaf : ∀ (cs c0 : Int32) (d : Nat), d < 28 → c0 = Int32.ofNat d → cB cs (fun i => i = d) → gZ M P (.const x) k ρ md = (fun _ s => zK d s) → ∀ r : hg_S × Int32, r.2 = -1 ∧ RV G E r.1 (reAn q k cs c0) → dc_wp (dc_it (gtS G E) (r.1, Int32.ofNat k, r.2, Int32.ofNat (st + 1))) F := by
    rintro cs c0 d hd ec hc he ⟨S1, v⟩ ⟨e, g⟩
    have e : v = -1 := e
    subst e
    exact kon S1 _ (st + 1) g (gLf hI h9 rfl hd ec hc he) c3
  rcases hO.1 with (z | z | z) | ⟨z, hVn⟩
  · -- nothing
    cases md with
    | none => exact (pas0 (by rw [z]; decide) rfl).elim
    | some d =>
      refine gt_bs hR (gtN hS) (by omega) nk hmd.1 (wq_w (bs_0 hR hx (by rw [tk, r0, h51, z])) (fun r hr => ?_))
      rw [tk] at hr
      refine leaf 1 0 0 (by omega) rfl cB_1 ?_ r hr
      funext κ s
      show zv _ _ _ _ _ (.const x) k ρ (some d) s = _
      unfold zv
      rw [z, if_neg (by decide), if_neg (by decide), if_neg (by decide)]
  · -- pause
    have pas1 : pas (.const x) = 1 := if_pos z
    rw [pas1] at rg b7
    have en : M.2.1 54 k = Int32.ofNat a.toNat := by
      have := (hL.2.1 hO.2.1).1 z
      exact ofN_m (by omega) (by omega)
    have nu : nuQ M.2.1 k = a.toNat := by
      unfold nuQ
      rw [en, Int32.toInt_ofNat_of_lt (by omega)]
      omega
    have ta : (Int32.ofNat a.toNat).toInt = (a.toNat : Int) := Int32.toInt_ofNat_of_lt (by omega)
    have ta' : (Int32.ofNat a.toNat).toInt.toNat = a.toNat := by omega
    cases md with
    | none =>
      refine gt_br hR (gtN hS) (by omega) nk hmd.1 (wq_w (br_1 hR hx (by rw [tk, r0, h51, z])) (fun r hr => ?_))
      rw [tk] at hr
      refine leaf 1 0 0 (by omega) rfl cB_1 ?_ r hr
      funext κ s
      show zv _ _ _ _ _ (.const x) k ρ none s = _
      unfold zv
      rw [z, if_pos rfl]
    | some d =>
      have l11 := hS.2.2.2.1.2.2.2
      refine gt_bs hR (gtN hS) (by omega) nk hmd.1 (wq_w (bs_1 hR hx (by rw [tk, r0, h51, z]) (by rw [tk]; exact h9') (by rw [tk, r4, en, l11]; omega)) ?_)
      rintro ⟨S1, v⟩ ⟨e, g⟩
      have e : v = -1 := e
      subst e
      have g : RV G E S1 (uX (reAn q (Int32.ofNat k).toInt.toNat 2 1) 11 (vR E 4 (Int32.ofNat k).toInt.toNat).toInt.toNat (q.1 9 (Int32.ofNat k).toInt.toNat)) := g
      rw [tk, r4, en, ta'] at g
      refine kon S1 _ (st + 1) g ?_ c3
      have hQ : gQ k (k + 1) [] q (reAn q k 2 1) := gQ_an (Nat.le_refl _) (by omega)
      have ne : ∀ i, ¬ i = 11 → (uX (reAn q k 2 1) 11 a.toNat (q.1 9 k)).1 i = (reAn q k 2 1).1 i := fun i hi => uX_n hi
      have n11 : ∀ p, (uX (reAn q k 2 1) 11 a.toNat (q.1 9 k)).1 11 p = upd (q.1 11) a.toNat (q.1 9 k) p := fun p => by rw [uX_s, hQ.2.1.2.2]
      have hF : gFr k (k + 1) [] q (uX (reAn q k 2 1) 11 a.toNat (q.1 9 k)) := ⟨fun i j hi hj => by rw [ne i (by omega)]; exact hQ.1.1 i j hi hj, fun j hj => by rw [ne 4 (by omega)]; exact hQ.1.2.1 j hj, by rw [ne 3 (by omega)]; exact hQ.1.2.2.1, by rw [ne 10 (by omega)]; exact hQ.1.2.2.2.1, rfl⟩
      have e1 : (uX (reAn q k 2 1) 11 a.toNat (q.1 9 k)).1 1 = q.1 1 := (ne 1 (by omega)).trans hQ.2.1.1
      have e2 : (uX (reAn q k 2 1) 11 a.toNat (q.1 9 k)).1 2 = q.1 2 := (ne 2 (by omega)).trans hQ.2.1.2.1
      refine ⟨hF, ⟨rfl, rfl, rfl⟩, ⟨⟨fun p => by rw [e1]; exact Or.inr rfl, Or.inl ⟨rfl, e1⟩⟩, ⟨rfl, fun p => Or.inl (by rw [e2])⟩, fun p => by
        rw [n11]
        by_cases u : p = a.toNat
        · rw [u, upd_s]; exact Or.inr h9'
        · rw [upd_n u]; exact Or.inl rfl⟩, ⟨by rw [hF.2.2.1]; exact hI.1, by rw [hF.2.2.2.1]; exact hI.2.1, by rw [e1]; exact hI.2.2.1, hI.2.2.2⟩, zP (fun p => p = nuQ M.2.1 k) s, ⟨by rw [ne 7 (by omega), reAn_7]; exact cB_2, ?_⟩, ?_⟩
      · rw [ne 8 (by omega), reAn_8]
        exact mB_s (by omega) (bB_i h9)
      · have he : gZ M P (.const x) k ρ (some d) = fun _ s => zP (fun p => p = nuQ M.2.1 k) s := by
          funext κ s
          show zv _ _ _ _ _ (.const x) k ρ (some d) s = _
          unfold zv
          rw [z, if_pos rfl]
        have k1 : kap P (uX (reAn q k 2 1) 11 a.toNat (q.1 9 k)) = kap P q := by funext i; unfold kap; rw [e1]
        have k2 : emS P (uX (reAn q k 2 1) 11 a.toNat (q.1 9 k)) = emS P q := by funext i; unfold emS; rw [e2]; rfl
        rw [he]
        unfold sem
        rw [k1, k2]
        refine ⟨zP_O (fun _ _ => Iff.rfl), zP_S, zP_N Iff.rfl (fun hs p hp => ?_) (fun p hp => ?_)⟩
        · have hp : pfQ M.2.1 k ≤ p ∧ p < ptQ M.2.1 k := hp
          rw [rg.1, rg.2] at hp
          have ep : p = a.toNat := by omega
          have h1 : q.1 9 k = 1 := h9.elim (fun z => z.2) (fun z => absurd hs z.1)
          show ¬ (uX (reAn q k 2 1) 11 a.toNat (q.1 9 k)).1 11 p = 0 ↔ p = nuQ M.2.1 k
          rw [n11, ep, upd_s, h1, nu]
          exact ⟨fun _ => rfl, fun _ => by decide⟩
        · have ep : ¬ p = a.toNat := by
            intro e
            refine hp ?_
            show pfQ M.2.1 k ≤ p ∧ p < ptQ M.2.1 k
            rw [rg.1, rg.2]
            omega
          show ¬ (uX (reAn q k 2 1) 11 a.toNat (q.1 9 k)).1 11 p = 0 ↔ ¬ q.1 11 p = 0
          rw [n11, upd_n ep]
  · -- exit
    cases md with
    | none => exact (pas0 (by rw [z]; decide) rfl).elim
    | some d =>
      have ec := hC.2.2 z
      have hE : Es.length + 0 ≤ 26 := hE
      have lt : ixE (lT x).2.2.2.2.1 (Es.map Prod.snd) < 26 := by
        have mem : (lT x).2.2.2.2.1 ∈ Es.map Prod.snd := by
          rcases hw z with ⟨-, -, u⟩ | ⟨-, u⟩
          · cases Es with
            | nil => cases u
            | cons y E =>
              have u : y = (-1, (lT x).2.2.2.2.1) := Option.some.inj u
              rw [u]
              exact List.mem_cons_self
          · exact List.mem_map.mpr ⟨_, u, rfl⟩
        have := ixE_lt _ mem
        rw [List.length_map] at this
        omega
      have nu : nuQ M.2.1 k = 2 + ixE (lT x).2.2.2.2.1 (Es.map Prod.snd) := by
        unfold nuQ
        rw [ec, Int32.toInt_ofNat_of_lt (by omega)]
        omega
      refine gt_bs hR (gtN hS) (by omega) nk hmd.1 (wq_w (bs_9 hR hx (by rw [tk, r0, h51, z])) (fun r hr => ?_))
      rw [tk, r4] at hr
      refine leaf _ _ (nuQ M.2.1 k) (by omega) (by rw [nu]; exact ec) (ex_b (by omega) (by rw [nu]; exact ec)) ?_ r hr
      funext κ s
      show zv _ _ _ _ _ (.const x) k ρ (some d) s = _
      unfold zv
      rw [z, if_neg (by decide), if_neg (by decide), if_pos rfl]
  · -- emit
    cases md with
    | none => exact (pas0 (by rw [z]; decide) rfl).elim
    | some d =>
      obtain ⟨v1, v2, v3'⟩ := hv _ hVn
      have en : M.2.1 54 k = (lT x).2.2.1 := by
        have := (hL.2.1 hO.2.1).2 (by rw [z]; decide) (Or.inl (by rw [z]; decide))
        rw [this]
        exact if_neg (by rw [z]; decide)
      have nu : nuQ M.2.1 k = (lT x).2.2.1.toInt.toNat := by unfold nuQ; rw [en]
      have yb := (hV _ hVn).1
      have ys := hT.2.2.2.2.1 _ hVn
      obtain ⟨⟨l1, l2, l3, l4, l5⟩, -, -, -⟩ := hS.2.2.2.1
      have pb := hS.2.2.2.2.1.2 _ v1
      generalize hi : ρ (lT x).2.2.1.toInt.toNat = i at v1 v2 v3' pb
      have tp : (Int32.ofNat (gPl P i)).toInt = (gPl P i : Int) := Int32.toInt_ofNat_of_lt (by omega)
      have tp' : (Int32.ofNat (gPl P i)).toInt.toNat = gPl P i := by omega
      refine gt_bs hR (gtN hS) (by omega) nk hmd.1 (wq_w (bs_2 hR hx (by rw [tk, r0, h51, z]) (by rw [tk, r4, en, l4]; omega) (by rw [tk, r4, en, v2, l1, l2]; omega)) ?_)
      rintro ⟨S1, v⟩ ⟨e, g⟩
      have e : v = -1 := e
      subst e
      have g : RV G E S1 (reEm (reAn q (Int32.ofNat k).toInt.toNat 1 0) (q.1 4 (vR E 4 (Int32.ofNat k).toInt.toNat).toInt.toNat).toInt.toNat (q.1 9 (Int32.ofNat k).toInt.toNat)) := g
      rw [tk, r4, en, v2, tp'] at g
      refine kon S1 _ (st + 1) g ?_ c3
      have hQ : gQ k (k + 1) [] q (reAn q k 1 0) := gQ_an (Nat.le_refl _) (by omega)
      have ne : ∀ j, ¬ j = 1 → ¬ j = 2 → (reEm (reAn q k 1 0) (gPl P i) (q.1 9 k)).1 j = (reAn q k 1 0).1 j := fun j h1 h2 => reEm_n h1 h2
      have hF : gFr k (k + 1) [] q (reEm (reAn q k 1 0) (gPl P i) (q.1 9 k)) := ⟨fun i j hi hj => by rw [ne i (by omega) (by omega)]; exact hQ.1.1 i j hi hj, fun j hj => by rw [ne 4 (by omega) (by omega)]; exact hQ.1.2.1 j hj, by rw [ne 3 (by omega) (by omega)]; exact hQ.1.2.2.1, by rw [ne 10 (by omega) (by omega)]; exact hQ.1.2.2.2.1, by rw [reEm_c (by omega)]; rfl⟩
      have e11 : (reEm (reAn q k 1 0) (gPl P i) (q.1 9 k)).1 11 = q.1 11 := (ne 11 (by omega) (by omega)).trans hQ.2.1.2.2
      have e14 : (reEm (reAn q k 1 0) (gPl P i) (q.1 9 k)).2 14 = q.2 14 := by rw [reEm_c (by omega)]; rfl
      have e12 : (reEm (reAn q k 1 0) (gPl P i) (q.1 9 k)).2 12 = q.2 12 := by rw [reEm_c (by omega)]; rfl
      have k1 : ∀ p, (reEm (reAn q k 1 0) (gPl P i) (q.1 9 k)).1 1 p = if p = gPl P i ∧ q.1 1 p = 2 ∧ ¬ q.1 9 k = 0 then 1 else q.1 1 p := fun p => by rw [reEm_1, hQ.2.1.1]
      have k2 : (reEm (reAn q k 1 0) (gPl P i) (q.1 9 k)).1 2 = upd (q.1 2) (gPl P i) (q.2 12) := by rw [reEm_2, hQ.2.1.2.1]; rfl
      have hs9 : ¬ q.1 9 k = 0 ↔ s := ⟨fun z => h9.elim (fun y => y.1) (fun y => absurd y.2 z), fun z => h9.elim (fun y => by rw [y.2]; decide) (fun y => absurd z y.1)⟩
      refine ⟨hF, ⟨by rw [reEm_c (by omega)]; rfl, by rw [reEm_c (by omega)]; rfl, by rw [reEm_c (by omega)]; rfl⟩, gKn_tr (gQ_kn hQ) (reEm_k pb), ⟨by rw [hF.2.2.1]; exact hI.1, by rw [hF.2.2.2.1]; exact hI.2.1, fun p => ?_, by rw [e14]; exact hI.2.2.2⟩, zEm i s, ⟨by rw [ne 7 (by omega) (by omega), reAn_7]; exact cB_1, ?_⟩, ?_⟩
      · rw [k1]
        split
        · exact Or.inr (Or.inl rfl)
        · exact hI.2.2.1 p
      · rw [ne 8 (by omega) (by omega), reAn_8]
        exact mB_s (by omega) (bB_i h9)
      · have he : gZ M P (.const x) k ρ (some d) = fun _ s => zEm i s := by
          funext κ s
          show zv _ _ _ _ _ (.const x) k ρ (some d) s = _
          unfold zv
          rw [z, if_neg (by decide), if_pos rfl, nu, hi]
        have h2 : ∀ j, (j = i ∧ kap P q j = 2 ∧ s → kap P (reEm (reAn q k 1 0) (gPl P i) (q.1 9 k)) j = 1) ∧ (¬ (j = i ∧ kap P q j = 2 ∧ s) → kap P (reEm (reAn q k 1 0) (gPl P i) (q.1 9 k)) j = kap P q j) := by
          intro j
          by_cases aj : gA P j
          · rw [kap_A aj, kap_A aj, k1]
            constructor
            · rintro ⟨rfl, y2, y3⟩
              rw [if_pos ⟨rfl, y2, hs9.mpr y3⟩]
            · intro y
              rw [if_neg (fun u => y ⟨hS.2.2.2.2.1.1 j i aj v1 u.1, u.2.1, hs9.mp u.2.2⟩)]
          · rw [kap_n aj, kap_n aj]
            exact ⟨fun y => absurd (y.1 ▸ v1) aj, fun _ => rfl⟩
        have h3 : ∀ j, gA P j → (emS P (reEm (reAn q k 1 0) (gPl P i) (q.1 9 k)) j ↔ emS P q j ∨ j = i) := by
          intro j aj
          unfold emS
          rw [k2, e12]
          by_cases e : gPl P j = gPl P i
          · rw [e, upd_s]
            exact ⟨fun _ => Or.inr (hS.2.2.2.2.1.1 j i aj v1 e), fun _ => rfl⟩
          · rw [upd_n e]
            exact ⟨Or.inl, fun y => y.elim id (fun y => absurd (congrArg (gPl P) y) e)⟩
        rw [he]
        refine ⟨zEm_O h2 h3, zEm_S h2, zEm_N ?_ (fun p => ?_)⟩
        · show (reEm (reAn q k 1 0) (gPl P i) (q.1 9 k)).2 14 = 1 ↔ q.2 14 = 1
          rw [e14]
        · show ¬ (reEm (reAn q k 1 0) (gPl P i) (q.1 9 k)).1 11 p = 0 ↔ ¬ q.1 11 p = 0
          rw [e11]
end GOF
