/-! the class's program, whole: rows as the reference's -/
section PGW
variable {names : Int32} {kk ff ss xx : Nat → Int32} {m : Nat} {θ : (Int32 → Prop) → Int32 → Prop}
/-- pieces are told by the test alone -/
theorem PPr_u (W : pcW names kk ff ss xx m) {R R' : Nat → Nat → Int32} : ∀ (g e k : Nat), e < m → (xx e).toInt ≤ (g : Int) → PPr R kk ff xx g e k → PPr R' kk ff xx g e k → ∀ j : Nat, k ≤ j → (j : Int) < (k : Int) + (xx e).toInt → R' 63 j = R 63 j ∧ R' 64 j = R 64 j ∧ R' 65 j = R 65 j
  | 0, e, k, he, hx, p, q, j, j1, j2 => p.elim
  | g + 1, e, k, he, hx, ⟨p1, p2, p3, p4⟩, ⟨q1, q2, q3, q4⟩, j, j1, j2 => by
    obtain ⟨w1, w2⟩ := W e he
    by_cases ej : j = k
    · subst ej
      refine ⟨q1.trans p1.symm, ?_⟩
      rcases w2 with ⟨c, -⟩ | ⟨c, -⟩ | ⟨c, -⟩
      · exact ⟨(q2 c).1.trans (p2 c).1.symm, (q2 c).2.trans (p2 c).2.symm⟩
      · exact ⟨(q3 c).1.trans (p3 c).1.symm, (q3 c).2.1.trans (p3 c).2.1.symm⟩
      · exact ⟨(q4 c).1.trans (p4 c).1.symm, (q4 c).2.1.trans (p4 c).2.1.symm⟩
    · rcases w2 with ⟨c, c1, c2, -⟩ | ⟨c, c1, c2, c3, c4⟩ | ⟨c, c1, c2, c3, c4, c5⟩
      · omega
      · exact PPr_u W g (e - 1) (k + 1) (by omega) (by omega) (p3 c).2.2 (q3 c).2.2 j (by omega) (by omega)
      · have w3 := (W (e - 1) (by omega)).1
        have w4 := (W (ff e).toInt.toNat (by omega)).1
        by_cases jb : j < k + 1 + (xx (ff e).toInt.toNat).toInt.toNat
        · exact PPr_u W g (ff e).toInt.toNat (k + 1) (by omega) (by omega) (p4 c).2.2.1 (q4 c).2.2.1 j (by omega) (by omega)
        · exact PPr_u W g (e - 1) _ (by omega) (by omega) (p4 c).2.2.2 (q4 c).2.2.2 j (by omega) (by omega)
/-- who holds a piece -/
theorem gE_of {ts : Nat → Int32} : ∀ (n p : Nat), p < gEx ts xx n → ∃ j, j < n ∧ ¬ ts j = -1 ∧ gEx ts xx j ≤ p ∧ p < gEx ts xx j + (xx (ts j).toInt.toNat).toInt.toNat
  | 0, p, h => by
    have h : p < 0 := h
    omega
  | n + 1, p, h => by
    have h : p < gEx ts xx n + (if ts n = -1 then 0 else (xx (ts n).toInt.toNat).toInt.toNat) := h
    by_cases c : p < gEx ts xx n
    · obtain ⟨j, j1, j2⟩ := gE_of n p c
      exact ⟨j, by omega, j2⟩
    · by_cases d : ts n = -1
      · rw [if_pos d] at h
        omega
      · rw [if_neg d] at h
        exact ⟨n, by omega, d, by omega, h⟩
/-- the class's program beside the reference's -/
def rEq (R Q : Nat → Nat → Int32) (n p : Nat) : Prop :=
  (∀ j, j < n → (R 0 j = Q 51 j ∧ R 1 j = Q 52 j ∧ R 2 j = Q 53 j ∧ R 3 j = Q 58 j ∧ R 5 j = Q 55 j ∧ R 6 j = Q 56 j ∧ R 7 j = Q 57 j ∧ R 8 j = Q 62 j) ∧ (R 4 j = if R 0 j = 8 then -1 else Q 54 j) ∧ (∃ l, j < l ∧ l ≤ n ∧ Q 59 j = Int32.ofNat l ∧ R 9 j = Q 62 l) ∧ (R 0 j = 3 ∨ R 0 j = 4 → ∃ k x : Nat, Q 54 j = Int32.ofNat k ∧ R 14 k = Int32.ofNat x ∧ Q 66 k = Int32.ofNat (k + x) ∧ 1 ≤ x ∧ k + x ≤ p)) ∧
  ∀ j, j < p → R 11 j = Q 63 j ∧ R 12 j = Q 64 j ∧ R 13 j = Q 65 j
theorem tt_T (hθ : ∀ V e, θ V e → 0 ≤ e.toInt ∧ e.toInt < (m : Int) ∧ 1 ≤ (xx e.toInt.toNat).toInt ∧ (xx e.toInt.toNat).toInt ≤ 2000) {R : Nat → Nat → Int32} : ∀ (T : tT) (V : Int32 → Prop) (k : Nat) (up : Int32) (w : Int) (Es : List Int32), okT θ V T → RPr R T k up w Es → ∀ j, k ≤ j → j < k + tsz T → R 0 j = 3 ∨ R 0 j = 4 → ¬ R 10 j = -1
  | .const x, V, k, up, w, Es, hO, hr, j, j1, j2, hk => by
    have j2 : j < k + 1 := j2
    have ej : j = k := by omega
    subst ej
    rw [hr.1] at hk
    rcases hO.1 with (u | u | u) | ⟨u, -⟩ <;> (rw [u] at hk; exact absurd hk (by decide))
  | .unary x A, V, k, up, w, Es, hO, ⟨hr, hA⟩, j, j1, j2, hk => by
    have j2 : j < k + (1 + tsz A) := j2
    by_cases ej : j = k
    · subst ej
      rw [hr.1] at hk
      rw [hr.2.2.2.2.2.2.2.2]
      rcases hO.1.1 with ⟨-, u⟩ | ⟨u | u | u, -⟩
      · have := hθ _ _ u
        intro z
        rw [z, show (-1 : Int32).toInt = -1 by decide] at this
        omega
      all_goals (rw [u] at hk; exact absurd hk (by decide))
    · exact tt_T hθ A _ _ _ _ _ hO.2 hA j (by omega) (by omega) hk
  | .binary x A B, V, k, up, w, Es, hO, ⟨hr, hA, hB⟩, j, j1, j2, hk => by
    have j2 : j < k + (1 + tsz A + tsz B) := j2
    by_cases ej : j = k
    · subst ej
      rw [hr.1] at hk
      rw [hr.2.2.2.2.2.2.2.2]
      rcases hO.1.1 with ⟨-, u⟩ | ⟨u | u, -⟩
      · have := hθ _ _ u
        intro z
        rw [z, show (-1 : Int32).toInt = -1 by decide] at this
        omega
      all_goals (rw [u] at hk; exact absurd hk (by decide))
    · by_cases eb : j < k + 1 + tsz A
      · exact tt_T hθ A _ _ _ _ _ hO.2.1 hA j (by omega) eb hk
      · exact tt_T hθ B _ _ _ _ _ hO.2.2 hB j (by omega) (by omega) hk
variable {G : hg_E} {S0 : hg_S} {o pc dp : Nat} {a N : Nat → Nat} {a5 a7 xc : Nat} {P : Nat → Nat} {ND : Nat → ndT} {F : Nat → Nat → Int32} {D : Nat → Int32} {n : Nat} {T : tT} {i : Nat} {I : List Nat} {V : Int32 → Prop} {R Q : Nat → Nat → Int32}
/-- rows of the tree, out of the copied ones -/
theorem rw_0 {θ' : (Int32 → Prop) → Int32 → Prop} (st : sTo ND xx n T i I F D) (hO : okT θ' V T) (hw : wfT T []) (hT : repC ND T i I) (cv : cov I 0 n) (hd : ((tpT T).map Prod.snd).Nodup) (ht : tdp T ≤ 26) (hwd : twd T ≤ 900) (hz : tsz T ≤ 1200) (h6 : ∀ j, F j 6 = (ND j).2.2.2.2.2.2) {R1 : Nat → Nat → Int32} (hr : ∀ j, j < n → rowC (fun i => (ND i).2.2.1) (fun i => (ND i).2.2.2.1) F R1 j) : RPr R1 T 0 (-1) 1 [] := by
  obtain ⟨s1, cf, ⟨i8, i9, i10, i11⟩, -⟩ := st
  exact rw_T s1.2.1 cf h6 hr T V [] i I 0 (-1) 1 hO hw hT (fun j hj => ((cv.1 j).mp hj).2) (fun k nm sv e => by cases e) (by rw [List.map_nil, List.append_nil]; exact hd) (by show 0 + tdp T ≤ 26; omega) i8 i9 i10 i11 (by omega) (by omega) (by omega)
theorem tsz_n (hT : repC ND T i I) (cv : cov I 0 n) : tsz T = n := by
  have e := (cov_rl cv).length_eq
  have rlen : ∀ k, (rl n k).length = k := by
    intro k
    induction k with
    | zero => rfl
    | succ k ih => show (rl n k).length + 1 = k + 1; rw [ih]
  rw [rlen] at e
  rw [← (ps_T (xx := fun _ => 0) T i I hT).2.2, e]
theorem pgl_w (d : DV G S0 a5 dp a7 P n (fun i => (ND i).2.2.1) (fun i => (ND i).2.2.2.1) (a 20) xc xx F D) (v : GV G S0 S0 o pc dp a N R 0) (hr : R 17 = kk ∧ R 18 = ff ∧ R 19 = ss ∧ R 20 = xx) (no : o ≠ pc) (n5 : a5 ≠ pc) (n7 : a7 ≠ pc) (nP : ∀ i, i < n → P i ≠ pc) (hM : ∀ i, i < 11 → N i = n) (W : pcW names kk ff ss xx m) (hm : m ≤ 50000) (hN : ∀ i, 16 ≤ i → i < 21 → m ≤ N i) (hL : ∀ i, 11 ≤ i → i < 15 → (tsm xx T).toNat ≤ N i) (hθ : ∀ V e, θ V e → 0 ≤ e.toInt ∧ e.toInt < (m : Int) ∧ 1 ≤ (xx e.toInt.toNat).toInt ∧ (xx e.toInt.toNat).toInt ≤ 2000) (st : sTo ND xx n T i I F D) (hO : okT θ V T) (hw : wfT T []) (hT : repC ND T i I) (cv : cov I 0 n) (hd : ((tpT T).map Prod.snd).Nodup) (ht : tdp T ≤ 26) (hwd : twd T ≤ 900) (hz : tsz T ≤ 1200) (h6 : ∀ j, F j 6 = (ND j).2.2.2.2.2.2) (hts : tsm xx T ≤ 1000) (hQ : LPr True False kk ff xx Q T 0 (-1) 1 (-1) 0 0) (hC : CPr Q T 0 []) (h62 : (Q 62 (tsz T)).toInt = pas T) : dc_wp (hm_PG_init_L158 G S0 o (some a5) (Int32.ofNat n) (some (a 10)) 0) (fun S' => ∃ R', GV G S0 S' o pc dp a N R' (Int32.ofNat (tsm xx T).toNat) ∧ rEq R' Q n (tsm xx T).toNat) := by
  have en := tsz_n hT cv
  have mI : ∀ j, j < n → j ∈ I := fun j hj => (cv.1 j).mpr ⟨by omega, hj⟩
  have P1 := st.2.2.2.1
  rw [en] at hz h62
  delta hm_PG_init_L158
  refine wq_call (cyl_w d v hr.2.2.2 no n5 n7 nP hM (fun j hj => ?_) (fun j j' hj hj' e => P1.2.1 j j' (mI j hj) (mI j' hj') e)) ?_
  · have := P1.1 j (mI j hj)
    rw [en] at this
    omega
  rintro S1 ⟨R1, v1, k1, r1⟩
  have hR := rw_0 st hO hw hT cv hd ht hwd (by rw [en]; exact hz) h6 r1
  obtain ⟨t1, t2, t3⟩ := st_T hθ T V 0 _ _ _ hO (by omega) hR
  have tz := tsm_0 hθ T V hO
  rw [Nat.zero_add, en] at t1 t2 t3
  have g0 : (gEx (R1 10) xx 0 : Int) = 0 := rfl
  have p0 : (gPa (R1 0) 0 : Int) = 0 := rfl
  rw [g0, Int.zero_add] at t3
  rw [p0, Int.zero_add] at t2
  have eL : gEx (R1 10) xx n = (tsm xx T).toNat := by omega
  have u17 : R1 17 = kk ∧ R1 18 = ff ∧ R1 19 = ss ∧ R1 20 = xx := ⟨(k1 17 (by omega)).trans hr.1, (k1 18 (by omega)).trans hr.2.1, (k1 19 (by omega)).trans hr.2.2.1, (k1 20 (by omega)).trans hr.2.2.2⟩
  show dc_wp (hm_PG_init_L203 G S1 o (some a5) (some (a 10))) _
  delta hm_PG_init_L203
  have d1 := GV_DV d v1 u17.2.2.2 n5 n7 nP
  refine wq_gr (x := some dp) d1.2.1 rfl ?_
  refine wg_ok v1 no ?_
  refine wq_call (gn_w (L := (tsm xx T).toNat) W hN hL (by omega) hm hM (by omega) no v1 u17 (fun j hj => ?_) (by omega)) ?_
  · exact (t1 j (by omega) hj).2.2.imp id (fun z => ⟨z.1, z.2.1⟩)
  rintro S2 ⟨R2, v2, g1, g2, g3⟩
  refine wg_ok v2 no ?_
  refine wq_call (bp_w hM (by omega) no v2 (fun j hj => ?_) (fun j hj => ?_)) ?_
  · rw [g1 1 (by omega)]
    exact (t1 j (by omega) hj).1
  · rw [g1 2 (by omega)]
    exact (t1 j (by omega) hj).2.1
  rintro S3 ⟨R3, v3, b1, b2⟩
  have eqs := eq_T hθ (R := R1) (R2 := R2) (Q := Q) (g := R3 9) (n := n) ⟨g1 0 (by omega), g1 1 (by omega), g1 2 (by omega)⟩ (fun j hj => (g2 j hj).1) b2 (by omega) (by omega) T V 0 (-1) (-1) 1 0 0 [] hO (by omega) rfl rfl hR hQ hC
  rw [Nat.zero_add, en] at eqs
  have gl := gPa_le (kd := R1 0) n
  have Q62 : ∀ l, l ≤ n → Q 62 l = Int32.ofNat (gPa (R1 0) l) := by
    intro l hl
    by_cases c : l = n
    · subst c
      exact ofN_m (by omega) (by omega)
    · exact (eqs l (by omega) (by omega)).2.1
  have r3 : ∀ k, ¬ (k = 4 ∨ k = 8 ∨ (11 ≤ k ∧ k ≤ 14) ∨ k = 16 ∨ k = 9) → R3 k = R1 k := fun k hk => (b1 k (by omega)).trans (g1 k (by omega))
  refine ⟨_, rfl, R3, by rw [← eL]; exact v3, fun j hj => ?_, fun p hp => ?_⟩
  · obtain ⟨⟨e0, e1, e2, e3, e5, e6, e7⟩, e62, et1, et2, l, l1, l2, l3, l4⟩ := eqs j (by omega) hj
    obtain ⟨y8, y4, y14⟩ := g2 j hj
    rw [r3 0 (by omega), r3 1 (by omega), r3 2 (by omega), r3 3 (by omega), r3 5 (by omega), r3 6 (by omega), r3 7 (by omega)]
    refine ⟨⟨e0, e1, e2, e3, e5, e6, e7, ?_⟩, ?_, ⟨l, l1, l2, l3, by rw [Q62 l l2]; exact l4⟩, fun hk => ?_⟩
    · rw [b1 8 (by omega), y8]
      exact e62.symm
    · rw [b1 4 (by omega), y4]
      unfold numF
      by_cases c : R1 10 j = -1
      · obtain ⟨f1, f2, f3⟩ := et1 c
        rw [if_pos c]
        by_cases c1 : R1 0 j = 1
        · rw [if_pos c1, if_neg (by rw [c1]; decide)]
          exact (f1 c1).symm
        · rw [if_neg c1]
          by_cases c8 : R1 0 j = 8
          · rw [if_pos c8]
            exact f3 c8
          · rw [if_neg c8]
            exact f2 c1 c8
      · obtain ⟨f1, f2, -⟩ := et2 c
        rw [if_neg c, if_neg f1]
        exact f2.symm
    · have c := tt_T hθ T V 0 _ _ _ hO hR j (by omega) (by omega) hk
      obtain ⟨f1, f2, f3, f4⟩ := et2 c
      obtain ⟨y15, y16⟩ := y14 c
      have z := (t1 j (by omega) hj).2.2.resolve_left c
      have ge : gEx (R1 10) xx (j + 1) ≤ gEx (R1 10) xx n := gEx_le (by omega)
      have ge1 : gEx (R1 10) xx (j + 1) = gEx (R1 10) xx j + if R1 10 j = -1 then 0 else (xx (R1 10 j).toInt.toNat).toInt.toNat := rfl
      rw [if_neg c] at ge1
      refine ⟨gEx (R1 10) xx j, (xx (R1 10 j).toInt.toNat).toInt.toNat, f2, ?_, ofN_m (by omega) (by omega), by omega, by omega⟩
      rw [b1 14 (by omega), y16]
      exact ofN_m (by omega) (by omega)
  · obtain ⟨j, j1, j2, j3, j4⟩ := gE_of n p (by rw [eL]; exact hp)
    have z := (t1 j (by omega) j1).2.2.resolve_left j2
    have u := PPr_u W _ _ _ (by omega) (by omega) ((g2 j j1).2.2 j2).1 ((eqs j (by omega) j1).2.2.2.1 j2).2.2.1 p j3 (by omega)
    rw [b1 11 (by omega), b1 12 (by omega), b1 13 (by omega)]
    exact ⟨u.1.symm, u.2.1.symm, u.2.2.symm⟩
end PGW
