/-! count, of an engine that has explored -/
section XCG
variable {G : hg_E} {S : hg_S} {M : md_S} {o t oA cnt pa ins u : Nat} {bA : Nat → Nat} {nn f st en rn ex la : Int32} {ta tn rc hd sh : Value} {q : rsT}
theorem rcI_all {g : Nat → Int32} {j : Nat} : ∀ W, rcI g j W = W ↔ ∀ i, i < W → ¬ g (16 * j + i) = -1
  | 0 => ⟨fun _ i hi => absurd hi (by omega), fun _ => rfl⟩
  | W + 1 => by
    have ih := rcI_all (g := g) (j := j) W
    have le := rcI_le (f := g) (j := j) W
    show rcI g j W + (if g (16 * j + W) = -1 then 0 else 1) = W + 1 ↔ _
    by_cases c : g (16 * j + W) = -1
    · rw [if_pos c]
      exact ⟨fun z => absurd z (by omega), fun z => absurd c (z W (by omega))⟩
    · rw [if_neg c]
      refine ⟨fun z i hi => ?_, fun z => ?_⟩
      · by_cases e : i = W
        · rw [e]; exact c
        · exact ih.mp (by omega) i (by omega)
      · have := ih.mpr (fun i hi => z i (by omega))
        omega
theorem ct_13 (he : hg_at S.1 o = some (.inr (0, enL t nn f (.ref u) rc hd sh st en rn (.ref oA) tn 1 la))) (h : EXa G S M oA bA q cnt pa ins) (h85 : M.1 85 = 1) {r : md_S × Int32} (hq : mm_count M 13 = some r) : r.1 = md_i M 0 0 ∧ dc_wp (hm_SE_count G S o 13) (fun v => v = r.2) := by
  have mi : ∀ i, ¬ i = 0 → (md_i M 0 0).1 i = M.1 i := fun i hi => by rw [md_i1, if_neg hi]
  delta mm_count dc_let at hq
  dsimp only at hq
  rw [if_neg (by decide), if_neg (by decide), if_neg (by decide), if_neg (by decide), if_neg (by decide), if_neg (by decide), if_neg (by decide), if_neg (by decide), if_neg (by decide), if_neg (by decide), if_neg (by decide), if_neg (by decide), if_neg (by decide), if_pos rfl, if_neg (by rw [mi 85 (by decide), h85]; decide), mi 87 (by decide)] at hq
  have er : r = (md_i M 0 0, M.1 87) := (Option.some.inj hq).symm
  refine ⟨by rw [er], ?_⟩
  delta hm_SE_count
  rw [if_neg (by decide), if_neg (by decide), if_neg (by decide)]
  refine wq_gr (x := some u) he rfl ?_
  rw [if_neg (fun z => by cases z), if_neg (by decide)]
  refine wq_chk he ?_
  refine wq_call (P := fun v => v = r.2) ?_ (fun v hv => ⟨_, rfl, hv⟩)
  delta hm_SE_figure
  refine wq_let (fun v ev => ?_)
  subst ev
  rw [if_neg (by decide), if_neg (by decide), if_neg (by decide), if_pos rfl]
  refine wq_gi (x := 1) he rfl ?_
  rw [if_neg (by decide)]
  refine wq_gr (x := some oA) he rfl ?_
  refine wq_gi (x := q.2 9) h.1.1.1 rfl ?_
  exact ⟨_, rfl, by rw [er, h.2.1.1.1.1, h.2.1.1.1.2.1]⟩
theorem ct_14 (he : hg_at S.1 o = some (.inr (0, enL t nn f (.ref u) rc hd sh st en rn (.ref oA) tn 1 la))) (h : EXa G S M oA bA q cnt pa ins) (h85 : M.1 85 = 1) {r : md_S × Int32} (hq : mm_count M 14 = some r) : r.1 = md_i M 0 0 ∧ dc_wp (hm_SE_count G S o 14) (fun v => v = r.2) := by
  have mi : ∀ i, ¬ i = 0 → (md_i M 0 0).1 i = M.1 i := fun i hi => by rw [md_i1, if_neg hi]
  have h0 := h
  obtain ⟨hat, ⟨hS, -, hD⟩, ⟨-, h45, i4, -⟩, -⟩ := h
  have c257 := hS.1.2.2
  obtain ⟨sh1, sh2, sh3⟩ := sh_ins ins i4
  have tW : (Int32.ofNat (2 ^ ins)).toInt = ((2 ^ ins : Nat) : Int) := Int32.toInt_ofNat_of_lt (by omega)
  have tc : (Int32.ofNat cnt).toInt = (cnt : Int) := Int32.toInt_ofNat_of_lt (by omega)
  have e45 : (md_i M 0 0).1 45 = Int32.ofNat ins := by rw [mi 45 (by decide)]; exact h45
  have e87 : (md_i M 0 0).1 87 = Int32.ofNat cnt := by rw [mi 87 (by decide)]; exact hS.1.2.1
  have e85 : ¬ (md_i M 0 0).1 85 = 0 := by rw [mi 85 (by decide), h85]; decide
  have all : ∀ k, k < cnt → dc_pw (mm_reactsOnAll (md_i M 0 0) (Int32.ofNat k)) (fun v => (v = 1 ∧ rcI (M.2.1 92) k (2 ^ ins) = 2 ^ ins) ∨ (v = 0 ∧ ¬ rcI (M.2.1 92) k (2 ^ ins) = 2 ^ ins)) := by
    intro k hk
    rw [rcI_all]
    delta mm_reactsOnAll mm_reactsOnAll_L4
    refine pw_loop (fun (y : Int32 × Int32) => ∃ i, y.2 = Int32.ofNat i ∧ i ≤ 2 ^ ins ∧ ((y.1 = 1 ∧ ∀ j, j < i → ¬ M.2.1 92 (16 * k + j) = -1) ∨ (y.1 = 0 ∧ ¬ ∀ j, j < i → ¬ M.2.1 92 (16 * k + j) = -1))) (fun v => (v = 1 ∧ ∀ i, i < 2 ^ ins → ¬ M.2.1 92 (16 * k + i) = -1) ∨ (v = 0 ∧ ¬ ∀ i, i < 2 ^ ins → ¬ M.2.1 92 (16 * k + i) = -1)) ⟨0, rfl, by omega, Or.inl ⟨rfl, fun j hj => absurd hj (by omega)⟩⟩ ?_ (fun z hz => ?_)
    · rintro ⟨y1, y2⟩ ⟨i, e1, i1, hy0⟩
      have e1 : y2 = Int32.ofNat i := e1
      have hy : (y1 = 1 ∧ ∀ j, j < i → ¬ M.2.1 92 (16 * k + j) = -1) ∨ (y1 = 0 ∧ ¬ ∀ j, j < i → ¬ M.2.1 92 (16 * k + j) = -1) := hy0
      clear hy0
      subst e1
      have ti : (Int32.ofNat i).toInt = (i : Int) := Int32.toInt_ofNat_of_lt (by omega)
      show dc_pw (mm_reactsOnAll_b4 (md_i M 0 0) (Int32.ofNat k) y1 (Int32.ofNat i)) _
      delta mm_reactsOnAll_b4 mm_reactsOnAll_L37 mm_reactsOnAll_L38
      rw [e45, sh1, cel_m]
      refine pw_ifc (fun c => ?_) (fun c => ?_)
      · have c := i_lt.mp c
        rw [ti, tW] at c
        have c1n : (Int32.ofNat (16 * k + i)).toInt.toNat = 16 * k + i := by rw [Int32.toInt_ofNat_of_lt (by omega)]; omega
        refine pw_ifc (fun d => ?_) (fun d => ?_)
        · refine pw_some ⟨i + 1, ad_m (by omega), by omega, Or.inr ⟨rfl, fun z => ?_⟩⟩
          rcases hy with ⟨e, -⟩ | ⟨-, no⟩
          · rw [e] at d; exact absurd d (by decide)
          · exact no (fun j hj => z j (by omega))
        · have yes := hy.elim (fun z => z.2) (fun z => absurd z.1 d)
          refine pw_ix (fun _ _ => ?_)
          rw [c1n]
          refine pw_ifc (fun e => ?_) (fun e => ?_)
          · exact pw_some ⟨i + 1, ad_m (by omega), by omega, Or.inr ⟨rfl, fun z => z i (by omega) e⟩⟩
          · refine pw_some ⟨i + 1, ad_m (by omega), by omega, Or.inl ⟨rfl, fun j hj => ?_⟩⟩
            by_cases ej : j = i
            · rw [ej]; exact e
            · exact yes j (by omega)
      · have c : ¬ (Int32.ofNat i).toInt < (Int32.ofNat (2 ^ ins)).toInt := fun z => c (i_lt.mpr z)
        rw [ti, tW] at c
        have ei : i = 2 ^ ins := by omega
        rw [ei] at hy
        exact pw_some hy
    · delta mm_reactsOnAll_L45
      have hz : (z = 1 ∧ ∀ i, i < 2 ^ ins → ¬ M.2.1 92 (16 * k + i) = -1) ∨ (z = 0 ∧ ¬ ∀ i, i < 2 ^ ins → ¬ M.2.1 92 (16 * k + i) = -1) := hz
      exact pw_any (fun _ => pw_some hz)
  have key : dc_pw (mm_count_L224 (md_i M 0 0) 0 0) (fun r => r = (md_i M 0 0, q.2 11)) := by
    delta mm_count_L224
    refine pw_loop (fun (y : Int32 × Int32) => ∃ k, y.2 = Int32.ofNat k ∧ k ≤ cnt ∧ y.1 = Int32.ofNat (stJ (M.2.1 92) (2 ^ ins) k)) (fun v => v = q.2 11) ⟨0, rfl, by omega, rfl⟩ ?_ (fun z hz => by
      have hz : z = q.2 11 := hz
      rw [hz]
      exact pw_some rfl)
    rintro ⟨y1, y2⟩ ⟨k, e1, k1, e2⟩
    have e1 : y2 = Int32.ofNat k := e1
    have e2 : y1 = Int32.ofNat (stJ (M.2.1 92) (2 ^ ins) k) := e2
    have tk : (Int32.ofNat k).toInt = (k : Int) := Int32.toInt_ofNat_of_lt (by omega)
    have sl := stJ_le (f := M.2.1 92) (W := 2 ^ ins) k
    show dc_pw (mm_count_b224 (md_i M 0 0) y1 y2) _
    rw [e1, e2]
    delta mm_count_b224
    rw [e87]
    refine pw_ifc (fun c => ?_) (fun c => ?_)
    · have c := i_lt.mp c
      rw [tk, tc] at c
      rw [if_neg e85]
      refine pw_bind (all k (by omega)) (fun v hv => ?_)
      delta mm_count_L253
      rcases hv with ⟨v1, v2⟩ | ⟨v1, v2⟩
      · rw [if_neg (by rw [v1]; decide)]
        refine pw_some ⟨k + 1, ad_m (by omega), by omega, ?_⟩
        show _ + 1 = Int32.ofNat (stJ (M.2.1 92) (2 ^ ins) k + if rcI (M.2.1 92) k (2 ^ ins) = 2 ^ ins then 1 else 0)
        rw [if_pos v2, ad_m (by omega)]
      · rw [if_pos v1]
        refine pw_some ⟨k + 1, ad_m (by omega), by omega, ?_⟩
        show _ + 0 = Int32.ofNat (stJ (M.2.1 92) (2 ^ ins) k + if rcI (M.2.1 92) k (2 ^ ins) = 2 ^ ins then 1 else 0)
        rw [if_neg v2, Int32.add_zero, Nat.add_zero]
    · have c : ¬ (Int32.ofNat k).toInt < (Int32.ofNat cnt).toInt := fun z => c (i_lt.mpr z)
      rw [tk, tc] at c
      have ek : k = cnt := by omega
      rw [ek]
      exact pw_some hD.1.2.symm
  delta mm_count dc_let at hq
  dsimp only at hq
  rw [if_neg (by decide), if_neg (by decide), if_neg (by decide), if_neg (by decide), if_neg (by decide), if_neg (by decide), if_neg (by decide), if_neg (by decide), if_neg (by decide), if_neg (by decide), if_neg (by decide), if_neg (by decide), if_neg (by decide), if_neg (by decide), if_pos rfl] at hq
  have er : r = (md_i M 0 0, q.2 11) := key r hq
  refine ⟨by rw [er], ?_⟩
  delta hm_SE_count
  rw [if_neg (by decide), if_neg (by decide), if_neg (by decide)]
  refine wq_gr (x := some u) he rfl ?_
  rw [if_neg (fun z => by cases z), if_neg (by decide)]
  refine wq_chk he ?_
  refine wq_call (P := fun v => v = r.2) ?_ (fun v hv => ⟨_, rfl, hv⟩)
  delta hm_SE_figure
  refine wq_let (fun v ev => ?_)
  subst ev
  rw [if_neg (by decide), if_neg (by decide), if_neg (by decide), if_neg (by decide), if_pos rfl]
  refine wq_gi (x := 1) he rfl ?_
  rw [if_neg (by decide)]
  refine wq_gr (x := some oA) he rfl ?_
  refine wq_gi (x := q.2 11) hat.1.1 rfl ?_
  exact ⟨_, rfl, by rw [er]⟩
/-- not laid -/
theorem ct_15 (he : hg_at S.1 o = some (.inr (0, enL t nn f (.ref u) rc hd sh st en rn ta tn ex 0))) (h86 : M.1 86 = 0) {r : md_S × Int32} (hq : mm_count M 15 = some r) : r.1 = md_i M 0 0 ∧ dc_wp (hm_SE_count G S o 15) (fun v => v = r.2) := by
  have mi : ∀ i, ¬ i = 0 → (md_i M 0 0).1 i = M.1 i := fun i hi => by rw [md_i1, if_neg hi]
  delta mm_count dc_let at hq
  dsimp only at hq
  rw [if_neg (by decide), if_neg (by decide), if_neg (by decide), if_neg (by decide), if_neg (by decide), if_neg (by decide), if_neg (by decide), if_neg (by decide), if_neg (by decide), if_neg (by decide), if_neg (by decide), if_neg (by decide), if_neg (by decide), if_neg (by decide), if_neg (by decide), if_pos rfl, if_pos (by rw [mi 86 (by decide)]; exact h86)] at hq
  have er : r = (md_i M 0 0, 0) := (Option.some.inj hq).symm
  refine ⟨by rw [er], ?_⟩
  delta hm_SE_count
  rw [if_neg (by decide), if_neg (by decide), if_neg (by decide)]
  refine wq_gr (x := some u) he rfl ?_
  rw [if_neg (fun z => by cases z), if_neg (by decide)]
  refine wq_chk he ?_
  refine wq_call (P := fun v => v = r.2) ?_ (fun v hv => ⟨_, rfl, hv⟩)
  delta hm_SE_figure
  refine wq_let (fun v ev => ?_)
  subst ev
  rw [if_neg (by decide), if_neg (by decide), if_neg (by decide), if_neg (by decide), if_neg (by decide)]
  refine wq_gi (x := 0) he rfl ?_
  rw [if_pos rfl]
  exact ⟨_, rfl, by rw [er]⟩
end XCG
