/-! calls on an engine that has explored -/
section XCA
variable {G : hg_E} {S : hg_S} {M : md_S} {o t oA cnt pa ins : Nat} {bA : Nat → Nat} {nn f st en rn la p1 p2 : Int32} {tn pg rc hd sh : Value} {q : rsT}
theorem EXa_w (h0 : hw S) (h : EXa G S M oA bA q cnt pa ins) : AW G (S, oA, bA) S q := ⟨⟨h0, rfl, h.1.2⟩, h.1.1, fun _ _ _ => rfl⟩
theorem EXa_m {M' : md_S} (h : EXa G S M oA bA q cnt pa ins) (e87 : M'.1 87 = M.1 87) (e45 : M'.1 45 = M.1 45) (e46 : M'.1 46 = M.1 46) (er : ∀ i, 88 ≤ i → i ≤ 97 → M'.2.1 i = M.2.1 i) : EXa G S M' oA bA q cnt pa ins := by
  obtain ⟨h1, ⟨h2, h3, h4⟩, ⟨h5, h6, h7⟩, h8⟩ := h
  obtain ⟨a1, a2, a3⟩ := ax_rw (q := q) (M := M) (M' := M') (W := 2 ^ ins) (cnt := cnt) (pa := pa) (J := cnt) (I := 0) e87 e46 (fun i h1 h2 => er i h1 (by omega))
  refine ⟨h1, ⟨a1 h2, a2 h3, a3 h4⟩, ⟨h5, e45.trans h6, h7⟩, ?_⟩
  unfold grO ap
  rw [er 88 (by omega) (by omega), er 94 (by omega) (by omega)]
  exact h8
/-- a state is reached where the reference finds it -/
theorem pl_x (h : EXa G S M oA bA q cnt pa ins) (h85 : M.1 85 = 1) {v : Int32} (hv : mm_placeOf (md_i M 0 0) p1 = some v) : (∃ j, j < cnt ∧ v = Int32.ofNat j ∧ M.2.1 88 j = p1 ∧ awR q p1) ∨ (v = -1 ∧ ¬ awR q p1) := by
  have hS := h.2.1.1
  delta mm_placeOf mm_placeOf_L16 at hv
  rw [if_neg (by rw [md_i1, if_neg (by decide), h85]; decide)] at hv
  obtain ⟨w, hw', hv⟩ := iv_bind hv
  have ev : v = w := (Option.some.inj hv).symm
  rw [ev]
  have k := fnd_r (S := md_i M 0 0) (cnt := cnt) hS.1.2.2 (by rw [md_i1, if_neg (by decide)]; exact hS.1.2.1) hw'
  rcases k with ⟨j, j1, j2, j3, -⟩ | ⟨e, no⟩
  · have j3 : M.2.1 88 j = p1 := j3
    refine Or.inl ⟨j, j1, j2, j3, ?_⟩
    have rg := (hS.2.1 j j1).1
    rw [j3] at rg
    exact (axS_r hS rg).mpr ⟨j, j1, j3⟩
  · have no : ∀ i, i < cnt → ¬ M.2.1 88 i = p1 := no
    refine Or.inr ⟨e, fun z => ?_⟩
    obtain ⟨j, j1, j2⟩ := (axS_r hS ⟨z.1, z.2.1⟩).mp z
    exact no j j1 j2
theorem nj_1 {j : Nat} (hj : j < cnt) (hc : cnt ≤ 257) : ¬ Int32.ofNat j = -1 := nk_1 (by omega)
theorem tj_n {j : Nat} (hj : j < cnt) (hc : cnt ≤ 257) : (Int32.ofNat j).toInt.toNat = j := by rw [Int32.toInt_ofNat_of_lt (by omega)]; omega
theorem xd_explore (he : hg_at S.1 o = some (.inr (0, enL t nn f pg rc hd sh st en rn (.ref oA) tn 1 la))) (h : EXa G S M oA bA q cnt pa ins) (h0 : hw S) {u t0 n ps sg io : Nat} {T : tT} {R : Nat → Nat → Int32} {c : Nat → Int32} {X : Nat → Nat → Int32} {cn hf sf : Nat → Int32} (hpg : pg = .ref u) (hl : LDp G S M u t0 T n ps sg io pa R c X cn hf sf) (hx : xpO M) (h41 : M.1 41 = 1) (h85 : M.1 85 = 1) {r : md_S × Int32} (hq : mm_explore M = some r) : r.1 = md_i M 0 0 ∧ dc_wp (hm_SE_explore G S o) (fun z => z = .inl (S, r.2)) := by
  have t8 : (8 : Int32).toInt = 8 := by decide
  have t4 : (4 : Int32).toInt = 4 := by decide
  have t3 : (300 : Int32).toInt = 300 := by decide
  have mi : ∀ i, ¬ i = 0 → (md_i M 0 0).1 i = M.1 i := fun i hi => by rw [md_i1, if_neg hi]
  have er : r = (md_i M 0 0, M.1 87) := by
    have f0 : mm_fails M 0 0 = some (md_i M 0 0, 0) := by
      delta mm_fails mm_fails_L18 mm_fails_L33
      rw [if_pos rfl, if_pos rfl]
      rfl
    delta mm_explore mm_explore_L13 at hq
    rw [if_neg (by rw [h41]; decide), f0] at hq
    have hq : (if (8 : Int32) < ((md_i M 0 0).1 47) then (mm_explore_L59 (md_i M 0 0)) else (if (4 : Int32) < ((md_i M 0 0).1 45) then (mm_explore_L59 (md_i M 0 0)) else (if (300 : Int32) < ((md_i M 0 0).1 48) then (mm_explore_L59 (md_i M 0 0)) else (if (300 : Int32) < ((md_i M 0 0).1 43) then (mm_explore_L59 (md_i M 0 0)) else (if ((md_i M 0 0).1 85) = 0 then (if ((md_i M 0 0).1 77) = 0 then (mm_explore_L87 (md_i M 0 0) 0) else (mm_explore_L87 (md_i M 0 0) 256)) else (some ((md_i M 0 0), ((md_i M 0 0).1 87)))))))) = some r := hq
    rw [mi 47 (by decide), mi 45 (by decide), mi 48 (by decide), mi 43 (by decide), mi 85 (by decide), if_neg (fun z => hx.1 (by have := i_lt.mp z; rw [t8] at this; exact this)), if_neg (fun z => hx.2.1 (by have := i_lt.mp z; rw [t4] at this; exact this)), if_neg (fun z => hx.2.2.1 (by have := i_lt.mp z; rw [t3] at this; exact this)), if_neg (fun z => hx.2.2.2 (by have := i_lt.mp z; rw [t3] at this; exact this)), if_neg (by rw [h85]; decide), mi 87 (by decide)] at hq
    exact (Option.some.inj hq).symm
  refine ⟨by rw [er], ?_⟩
  subst hpg
  obtain ⟨nm, hnm, hpv⟩ := hl.1.1.1
  delta hm_SE_explore
  refine wq_gr (x := some u) he rfl ?_
  rw [if_neg (fun z => by cases z)]
  refine wq_gr (x := some u) he rfl ?_
  refine wq_chk hpv.1 ?_
  refine wq_call (cbe_w hl) (fun v hv => ?_)
  rcases hv with ⟨hv, -⟩ | ⟨-, hv⟩
  case inr => exact absurd hx hv
  rw [if_neg (by rw [hv]; decide)]
  refine wq_gi (x := 1) he rfl ?_
  rw [if_neg (by decide)]
  delta hm_SE_explore_L72
  refine wq_gr (x := some oA) he rfl ?_
  refine wq_gi (x := q.2 9) h.1.1.1 rfl ?_
  exact ⟨_, rfl, by rw [er, h.2.1.1.1.1, h.2.1.1.1.2.1]⟩
theorem xd_distance (he : hg_at S.1 o = some (.inr (0, enL t nn f pg rc hd sh st en rn (.ref oA) tn 1 la))) (h : EXa G S M oA bA q cnt pa ins) (h0 : hw S) (h85 : M.1 85 = 1) {r : md_S × Int32} (hq : mm_distance M p1 = some r) : r.1 = md_i M 0 0 ∧ dc_wp (hm_SE_distance G S o p1) (fun v => v = r.2) := by
  have aw := EXa_w h0 h
  have hS := h.2.1.1
  have c257 := hS.1.2.2
  delta mm_distance dc_let at hq
  dsimp only at hq
  obtain ⟨v, hv, hq⟩ := iv_bind hq
  have k := pl_x h h85 hv
  have er : r.1 = md_i M 0 0 ∧ ((awR q p1 ∧ r.2 = q.1 2 p1.toInt.toNat) ∨ (¬ awR q p1 ∧ r.2 = -1)) := by
    rcases k with ⟨j, j1, j2, j3, j4⟩ | ⟨e, no⟩
    · rw [if_neg (by rw [j2]; exact nj_1 j1 c257), j2] at hq
      obtain ⟨-, -, hq⟩ := iv_ix hq
      rw [tj_n j1 c257] at hq
      have er : r = (md_i M 0 0, M.2.1 89 j) := (Option.some.inj hq).symm
      rw [er]
      refine ⟨rfl, Or.inl ⟨j4, ?_⟩⟩
      rw [← j3, (hS.2.1 j j1).2.2.2.1]
    · rw [if_pos e] at hq
      have er : r = (md_i M 0 0, -1) := (Option.some.inj hq).symm
      rw [er]
      exact ⟨rfl, Or.inr ⟨no, rfl⟩⟩
  refine ⟨er.1, ?_⟩
  delta hm_SE_distance
  refine wq_gi (x := 1) he rfl ?_
  rw [if_neg (by decide)]
  refine wq_gr (x := some oA) he rfl ?_
  refine wq_chk h.1.1.1 ?_
  refine wq_call (rch_w aw) (fun v hv => ?_)
  rcases hv with ⟨v1, v2⟩ | ⟨v1, v2⟩
  · rw [if_neg (by rw [v1]; decide)]
    refine wq_gr (x := some oA) he rfl ?_
    refine aw_g aw (i := 2) (by decide) ?_
    refine aw_l aw (i := 2) (by decide) v2.1 (by show p1.toInt < ((257 : Nat) : Int); exact v2.2.1) ?_
    rcases er.2 with ⟨-, e⟩ | ⟨no, -⟩
    · exact ⟨_, rfl, e.symm⟩
    · exact absurd v2 no
  · rw [if_pos v1]
    rcases er.2 with ⟨yes, -⟩ | ⟨-, e⟩
    · exact absurd yes v2
    · exact ⟨_, rfl, e.symm⟩
/-- the reference's leastAlike is the class's group -/
theorem la_r (h : EXa G S M oA bA q cnt pa ins) {j : Nat} (hj : j < cnt) {v : Int32} (hq : mm_leastAlike M (Int32.ofNat j) = some v) : v = q.1 6 (M.2.1 88 j).toInt.toNat := by
  have hS := h.2.1.1
  have c257 := hS.1.2.2
  obtain ⟨njj, l, l1, l2, l3, l4⟩ := h.2.2.2.1 j hj
  have tc : (Int32.ofNat cnt).toInt = (cnt : Int) := Int32.toInt_ofNat_of_lt (by omega)
  delta mm_leastAlike dc_let at hq
  dsimp only at hq
  obtain ⟨-, -, hq⟩ := iv_ix hq
  rw [tj_n hj c257] at hq
  have key : dc_pw (mm_leastAlike_L9 M (Int32.ofNat j) (M.2.1 88 j) 0) (fun v => ∃ m, m < cnt ∧ v = M.2.1 88 m ∧ ¬ ap M j m ∧ ∀ b, b < cnt → ¬ ap M j b → (M.2.1 88 m).toInt ≤ (M.2.1 88 b).toInt) := by
    delta mm_leastAlike_L9
    refine pw_loop (fun (y : Int32 × Int32) => ∃ k m, y.2 = Int32.ofNat k ∧ k ≤ cnt ∧ m < cnt ∧ y.1 = M.2.1 88 m ∧ ¬ ap M j m ∧ ∀ b, b < k → ¬ ap M j b → (M.2.1 88 m).toInt ≤ (M.2.1 88 b).toInt) (fun v => ∃ m, m < cnt ∧ v = M.2.1 88 m ∧ ¬ ap M j m ∧ ∀ b, b < cnt → ¬ ap M j b → (M.2.1 88 m).toInt ≤ (M.2.1 88 b).toInt) ⟨0, j, rfl, by omega, hj, rfl, njj, fun b hb => absurd hb (by omega)⟩ ?_ (fun z hz => pw_some hz)
    rintro ⟨y1, y2⟩ ⟨k, m, e1, k1, m1, e2, m2, m3⟩
    have e1 : y2 = Int32.ofNat k := e1
    have e2 : y1 = M.2.1 88 m := e2
    have tk : (Int32.ofNat k).toInt = (k : Int) := Int32.toInt_ofNat_of_lt (by omega)
    show dc_pw (mm_leastAlike_b9 M (Int32.ofNat j) y1 y2) _
    rw [e1, e2]
    delta mm_leastAlike_b9
    rw [hS.1.2.1, cel_p]
    refine pw_ifc (fun c => ?_) (fun c => ?_)
    · have c := i_lt.mp c
      rw [tk, tc] at c
      have c1n : (Int32.ofNat (257 * j + k)).toInt.toNat = 257 * j + k := by rw [Int32.toInt_ofNat_of_lt (by omega)]; omega
      have tkn : (Int32.ofNat k).toInt.toNat = k := by omega
      have keep : (ap M j k ∨ (M.2.1 88 m).toInt ≤ (M.2.1 88 k).toInt) → dc_pw (mm_leastAlike_L51 M (Int32.ofNat j) (M.2.1 88 m) (Int32.ofNat k)) (Sum.elim (fun (y : Int32 × Int32) => ∃ k m, y.2 = Int32.ofNat k ∧ k ≤ cnt ∧ m < cnt ∧ y.1 = M.2.1 88 m ∧ ¬ ap M j m ∧ ∀ b, b < k → ¬ ap M j b → (M.2.1 88 m).toInt ≤ (M.2.1 88 b).toInt) (fun v => ∃ m, m < cnt ∧ v = M.2.1 88 m ∧ ¬ ap M j m ∧ ∀ b, b < cnt → ¬ ap M j b → (M.2.1 88 m).toInt ≤ (M.2.1 88 b).toInt)) := by
        intro hk
        delta mm_leastAlike_L51 mm_leastAlike_L52
        refine pw_some ⟨k + 1, m, ad_m (by omega), by omega, m1, rfl, m2, fun b hb nb => ?_⟩
        by_cases eb : b = k
        · rw [eb] at nb ⊢
          exact hk.elim (fun z => absurd z nb) id
        · exact m3 b (by omega) nb
      refine pw_ix (fun _ _ => ?_)
      rw [c1n]
      refine pw_ifc (fun d => ?_) (fun d => keep (Or.inl d))
      refine pw_ix (fun _ _ => ?_)
      rw [tkn]
      refine pw_ifc (fun e => ?_) (fun e => keep (Or.inr (by
        have : ¬ (M.2.1 88 k).toInt < (M.2.1 88 m).toInt := fun z => e (i_lt.mpr z)
        omega)))
      refine pw_ix (fun _ _ => ?_)
      rw [tkn]
      delta mm_leastAlike_L52
      have e := i_lt.mp e
      refine pw_some ⟨k + 1, k, ad_m (by omega), by omega, by omega, rfl, fun z => z d, fun b hb nb => ?_⟩
      by_cases eb : b = k
      · rw [eb]; exact Int.le_refl _
      · have := m3 b (by omega) nb
        omega
    · have c : ¬ (Int32.ofNat k).toInt < (Int32.ofNat cnt).toInt := fun z => c (i_lt.mpr z)
      rw [tk, tc] at c
      exact pw_some ⟨m, m1, rfl, m2, fun b hb nb => m3 b (by omega) nb⟩
  obtain ⟨m, m1, ev, m2, m3⟩ := key v hq
  rw [ev, l2, i_eq]
  have a1 := m3 l l1 l3
  have a2 := l4 m m1 m2
  omega
theorem xd_alike (he : hg_at S.1 o = some (.inr (0, enL t nn f pg rc hd sh st en rn (.ref oA) tn 1 la))) (h : EXa G S M oA bA q cnt pa ins) (h0 : hw S) (h85 : M.1 85 = 1) {r : md_S × Int32} (hq : mm_alike M p1 = some r) : r.1 = md_i M 0 0 ∧ dc_wp (hm_SE_alike G S o p1) (fun v => v = r.2) := by
  have aw := EXa_w h0 h
  have hS := h.2.1.1
  have c257 := hS.1.2.2
  have h' : EXa G S (md_i M 0 0) oA bA q cnt pa ins := EXa_m h (by rw [md_i1, if_neg (by decide)]) (by rw [md_i1, if_neg (by decide)]) (by rw [md_i1, if_neg (by decide)]) (fun _ _ _ => rfl)
  delta mm_alike dc_let at hq
  dsimp only at hq
  obtain ⟨v, hv, hq⟩ := iv_bind hq
  have k := pl_x h h85 hv
  have er : r.1 = md_i M 0 0 ∧ ((awR q p1 ∧ r.2 = q.1 6 p1.toInt.toNat) ∨ (¬ awR q p1 ∧ r.2 = -1)) := by
    rcases k with ⟨j, j1, j2, j3, j4⟩ | ⟨e, no⟩
    · rw [if_neg (by rw [j2]; exact nj_1 j1 c257), j2] at hq
      obtain ⟨w, hw', hq⟩ := iv_bind hq
      have er : r = (md_i M 0 0, w) := (Option.some.inj hq).symm
      rw [er]
      refine ⟨rfl, Or.inl ⟨j4, ?_⟩⟩
      have := la_r h' j1 hw'
      rw [← j3]
      exact this
    · rw [if_pos e] at hq
      have er : r = (md_i M 0 0, -1) := (Option.some.inj hq).symm
      rw [er]
      exact ⟨rfl, Or.inr ⟨no, rfl⟩⟩
  refine ⟨er.1, ?_⟩
  delta hm_SE_alike
  refine wq_gi (x := 1) he rfl ?_
  rw [if_neg (by decide)]
  refine wq_gr (x := some oA) he rfl ?_
  refine wq_chk h.1.1.1 ?_
  refine wq_call (rch_w aw) (fun v hv => ?_)
  rcases hv with ⟨v1, v2⟩ | ⟨v1, v2⟩
  · rw [if_neg (by rw [v1]; decide)]
    refine wq_gr (x := some oA) he rfl ?_
    refine aw_g aw (i := 6) (by decide) ?_
    refine aw_l aw (i := 6) (by decide) v2.1 (by show p1.toInt < ((257 : Nat) : Int); exact v2.2.1) ?_
    rcases er.2 with ⟨-, e⟩ | ⟨no, -⟩
    · exact ⟨_, rfl, e.symm⟩
    · exact absurd v2 no
  · rw [if_pos v1]
    rcases er.2 with ⟨yes, -⟩ | ⟨-, e⟩
    · exact absurd yes v2
    · exact ⟨_, rfl, e.symm⟩
theorem f0_0 (M : md_S) : mm_fails M 0 0 = some (md_i M 0 0, 0) := by
  delta mm_fails mm_fails_L18 mm_fails_L33
  rw [if_pos rfl, if_pos rfl]
  rfl
theorem xd_classes (he : hg_at S.1 o = some (.inr (0, enL t nn f pg rc hd sh st en rn (.ref oA) tn 1 la))) (h : EXa G S M oA bA q cnt pa ins) (h85 : M.1 85 = 1) {r : md_S × Int32} (hq : mm_classes M = some r) : r.1 = md_i M 0 0 ∧ dc_wp (hm_SE_classes G S o) (fun z => z = .inl (S, r.2)) := by
  have hS := h.2.1.1
  have c257 := hS.1.2.2
  have h' : EXa G S (md_i M 0 0) oA bA q cnt pa ins := EXa_m h (by rw [md_i1, if_neg (by decide)]) (by rw [md_i1, if_neg (by decide)]) (by rw [md_i1, if_neg (by decide)]) (fun _ _ _ => rfl)
  have tc : (Int32.ofNat cnt).toInt = (cnt : Int) := Int32.toInt_ofNat_of_lt (by omega)
  have e87 : (md_i M 0 0).1 87 = Int32.ofNat cnt := by rw [md_i1, if_neg (by decide)]; exact hS.1.2.1
  delta mm_classes mm_classes_L13 at hq
  rw [if_neg (by rw [h85]; decide), f0_0] at hq
  have hq : (if (0 : Int32) = 0 then mm_classes_L26 (md_i M 0 0) 0 0 else some (md_i M 0 0, 0)) = some r := hq
  rw [if_pos rfl] at hq
  have key : dc_pw (mm_classes_L26 (md_i M 0 0) 0 0) (fun r => r = (md_i M 0 0, q.2 12)) := by
    delta mm_classes_L26
    refine pw_loop (fun (y : Int32 × Int32) => ∃ k, y.2 = Int32.ofNat k ∧ k ≤ cnt ∧ y.1 = Int32.ofNat (ctP (fun j => q.1 6 (M.2.1 88 j).toInt.toNat = M.2.1 88 j) k)) (fun v => v = q.2 12) ⟨0, rfl, by omega, rfl⟩ ?_ (fun z hz => by
      have hz : z = q.2 12 := hz
      rw [hz]
      exact pw_some rfl)
    rintro ⟨y1, y2⟩ ⟨k, e1, k1, e2⟩
    have e1 : y2 = Int32.ofNat k := e1
    have e2 : y1 = Int32.ofNat (ctP (fun j => q.1 6 (M.2.1 88 j).toInt.toNat = M.2.1 88 j) k) := e2
    have tk : (Int32.ofNat k).toInt = (k : Int) := Int32.toInt_ofNat_of_lt (by omega)
    have cl := ctP_le (P := fun j => q.1 6 (M.2.1 88 j).toInt.toNat = M.2.1 88 j) k
    show dc_pw (mm_classes_b26 (md_i M 0 0) y1 y2) _
    rw [e1, e2]
    delta mm_classes_b26
    rw [e87]
    refine pw_ifc (fun c => ?_) (fun c => ?_)
    · have c := i_lt.mp c
      rw [tk, tc] at c
      refine pw_bind (P := fun v => v = q.1 6 (M.2.1 88 k).toInt.toNat) (fun v hv => la_r h' (by omega) hv) (fun v ev => ?_)
      refine pw_ix (fun _ _ => ?_)
      rw [show (Int32.ofNat k).toInt.toNat = k by omega, ev]
      refine pw_ifc (fun d => ?_) (fun d => ?_)
      · have d : q.1 6 (M.2.1 88 k).toInt.toNat = M.2.1 88 k := d
        delta mm_classes_L54
        refine pw_some ⟨k + 1, ad_m (by omega), by omega, ?_⟩
        show _ + 1 = _
        rw [ctP_y (P := fun j => q.1 6 (M.2.1 88 j).toInt.toNat = M.2.1 88 j) d, ad_m (by omega)]
      · have d : ¬ q.1 6 (M.2.1 88 k).toInt.toNat = M.2.1 88 k := d
        delta mm_classes_L54
        refine pw_some ⟨k + 1, ad_m (by omega), by omega, ?_⟩
        show _ + 0 = _
        rw [ctP_n (P := fun j => q.1 6 (M.2.1 88 j).toInt.toNat = M.2.1 88 j) d, Int32.add_zero]
    · have c : ¬ (Int32.ofNat k).toInt < (Int32.ofNat cnt).toInt := fun z => c (i_lt.mpr z)
      rw [tk, tc] at c
      have ek : k = cnt := by omega
      rw [ek]
      exact pw_some h.2.2.2.2.symm
  have er := key r hq
  refine ⟨by rw [er], ?_⟩
  delta hm_SE_classes
  refine wq_gi (x := 1) he rfl ?_
  rw [if_neg (by decide)]
  refine wq_gr (x := some oA) he rfl ?_
  refine wq_gi (x := q.2 12) h.1.1.1 rfl ?_
  exact ⟨_, rfl, by rw [er]⟩
end XCA
