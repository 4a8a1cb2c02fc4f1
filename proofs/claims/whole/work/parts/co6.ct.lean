/-! calls that look: count -/
section LKE
variable {G : hg_E} {S : hg_S} {M : md_S} {T : tT} {t0 u n ps sg io pa o t : Nat} {R : Nat → Nat → Int32} {c : Nat → Int32} {X : Nat → Nat → Int32} {cn : Nat → Int32} {hf sf : Nat → Int32} {nn f st en rn ex la x1 p1 p2 : Int32} {ta tn : Value}
/-- one pause, looked at -/
theorem sel_v (he : hg_at S.1 o = some (.inr (0, enL t nn f (.ref u) (.ref (u + 18)) (.ref (u + 30)) (.ref (u + 31)) st en rn ta tn ex la))) (hl : LDp G S M u t0 T n ps sg io pa R c X cn hf sf) (hle : LDe M pa st en rn) {k : Nat} (hk : k < pa) : dc_wp (hm_SE_selected G S o (Int32.ofNat k)) (fun v => v = 0 ↔ M.2.1 74 k = 0) := by
  have hpg := hl.1.1
  obtain ⟨-, -, ⟨-, -, -, -, -, -, -, -, -, e47⟩, ⟨-, b2, b3, b4, b5, b6⟩, -⟩ := hpg
  have tk : (Int32.ofNat k).toInt = (k : Int) := Int32.toInt_ofNat_of_lt (by omega)
  have tkn : (Int32.ofNat k).toInt.toNat = k := by omega
  have m47 : (md_i M 0 0).1 47 = Int32.ofNat pa := by rw [md_i1, if_neg (by decide)]; exact e47
  have z0 : dc_zb 0 = some () := if_pos (Or.inl rfl)
  have z1 : dc_zb 1 = some () := if_pos (Or.inr rfl)
  have c0 : ¬ Int32.ofNat k < 0 := by
    intro z
    have z := i_lt.mp z
    rw [tk, show (0 : Int32).toInt = 0 by decide] at z
    omega
  have c1 : Int32.ofNat k < Int32.ofNat pa := by
    refine i_lt.mpr ?_
    rw [tk, Int32.toInt_ofNat_of_lt (by omega)]
    omega
  have e : mm_selected M (Int32.ofNat k) = some (md_i M 0 0, if M.2.1 74 k = 0 then 0 else 1) := by
    delta mm_selected mm_selected_L30 mm_selected_L31 dc_let
    dsimp only
    rw [if_neg c0, m47, if_pos c1, vq_ix (by omega) (by omega), tkn]
    show (if M.2.1 74 k = 0 then (dc_zb 0).bind (fun _ => some (md_i M 0 0, (0 : Int32))) else (dc_zb 1).bind (fun _ => some (md_i M 0 0, (1 : Int32)))) = _
    by_cases z : M.2.1 74 k = 0
    · rw [if_pos z, if_pos z, z0]; rfl
    · rw [if_neg z, if_neg z, z1]; rfl
  refine wq_w (sel_l he hl hle e).2 (fun v hv => ?_)
  rw [hv]
  show (if M.2.1 74 k = 0 then (0 : Int32) else 1) = 0 ↔ _
  by_cases z : M.2.1 74 k = 0
  · rw [if_pos z]; exact ⟨fun _ => z, fun _ => rfl⟩
  · rw [if_neg z]; exact ⟨fun y => absurd y (by decide), fun y => absurd y z⟩
theorem hld_w (he : hg_at S.1 o = some (.inr (0, enL t nn f (.ref u) (.ref (u + 18)) (.ref (u + 30)) (.ref (u + 31)) st en rn ta tn ex la))) (hl : LDp G S M u t0 T n ps sg io pa R c X cn hf sf) (hle : LDe M pa st en rn) : dc_wp (hm_SE_heldPauses G S o) (fun v => v = Int32.ofNat (cntH (M.2.1 74) pa)) := by
  have hh1 := hl.2.2.1.1
  have hpg := hl.1.1
  obtain ⟨-, -, -, ⟨-, b2, b3, b4, b5, b6⟩, -⟩ := hpg
  have tp : (Int32.ofNat pa).toInt = (pa : Int) := Int32.toInt_ofNat_of_lt (by omega)
  delta hm_SE_heldPauses hm_SE_heldPauses_L4
  have key := dc_itK (step := hm_SE_heldPauses_s4 G S o) (fun d (y : Int32 × Int32) => ∃ j, y.2 = Int32.ofNat j ∧ j ≤ pa ∧ d = pa - j ∧ y.1 = Int32.ofNat (cntH (M.2.1 74) j)) (F := fun v => v = Int32.ofNat (cntH (M.2.1 74) pa)) (by
    rintro d ⟨y1, y2⟩ ⟨j, ev, j1, ed, ey⟩
    have ev : y2 = Int32.ofNat j := ev
    have ey : y1 = Int32.ofNat (cntH (M.2.1 74) j) := ey
    have tj : (Int32.ofNat j).toInt = (j : Int) := Int32.toInt_ofNat_of_lt (by omega)
    have cl := cntH_le (f := M.2.1 74) j
    show dc_wp (hm_SE_heldPauses_b4 G S o y1 y2) _
    rw [ev, ey]
    delta hm_SE_heldPauses_b4
    refine wq_gr (x := some (u + 30)) he rfl ?_
    refine wq_ln hh1 ?_
    refine wq_if (fun c => ?_) (fun c => ?_)
    · have c := i_lt.mp c
      rw [tj, tp] at c
      refine wq_chk he ?_
      refine wq_call (sel_v he hl hle (k := j) (by omega)) (fun v hv => ?_)
      delta hm_SE_heldPauses_L24
      by_cases z : v = 0
      · rw [if_pos z]
        refine ⟨_, rfl, pa - (j + 1), by omega, j + 1, ad_m (by omega), by omega, rfl, ?_⟩
        show Int32.ofNat (cntH (M.2.1 74) j) = Int32.ofNat (cntH (M.2.1 74) j + (if M.2.1 74 j = 0 then 0 else 1))
        rw [if_pos (hv.mp z)]
        rfl
      · rw [if_neg z]
        refine ⟨_, rfl, pa - (j + 1), by omega, j + 1, ad_m (by omega), by omega, rfl, ?_⟩
        show Int32.ofNat (cntH (M.2.1 74) j) + 1 = Int32.ofNat (cntH (M.2.1 74) j + (if M.2.1 74 j = 0 then 0 else 1))
        rw [if_neg (fun y => z (hv.mpr y))]
        exact ad_m (by omega)
    · have c : ¬ (Int32.ofNat j).toInt < (Int32.ofNat pa).toInt := fun z => c (i_lt.mpr z)
      rw [tj, tp] at c
      have ej : j = pa := by omega
      rw [ej]
      exact ⟨_, rfl, rfl⟩)
  refine wq_call (key pa (0, 0) ⟨0, rfl, Nat.zero_le _, rfl, rfl⟩) ?_
  intro v hv
  delta hm_SE_heldPauses_L30
  exact ⟨_, rfl, hv⟩
theorem cn_173 {N : md_S} {r : md_S × Int32} (hpa : pa ≤ 200) (e47 : N.1 47 = Int32.ofNat pa) (hq : mm_count_L173 N 0 0 = some r) : r = (N, Int32.ofNat (cntH (N.2.1 74) pa)) := by
  have key : dc_pw (mm_count_L173 N 0 0) (fun r => r = (N, Int32.ofNat (cntH (N.2.1 74) pa))) := by
    delta mm_count_L173
    refine pw_loop (fun (y : Int32 × Int32) => ∃ j, y.2 = Int32.ofNat j ∧ j ≤ pa ∧ y.1 = Int32.ofNat (cntH (N.2.1 74) j)) (fun v => v = Int32.ofNat (cntH (N.2.1 74) pa)) ⟨0, rfl, by omega, rfl⟩ ?_ (fun v hv r hr => ?_)
    · rintro ⟨y1, y2⟩ ⟨j, ev, j1, ey⟩
      have ev : y2 = Int32.ofNat j := ev
      have ey : y1 = Int32.ofNat (cntH (N.2.1 74) j) := ey
      have tj : (Int32.ofNat j).toInt = (j : Int) := Int32.toInt_ofNat_of_lt (by omega)
      have tjn : (Int32.ofNat j).toInt.toNat = j := by omega
      have tp : (Int32.ofNat pa).toInt = (pa : Int) := Int32.toInt_ofNat_of_lt (by omega)
      have cl := cntH_le (f := N.2.1 74) j
      show dc_pw (mm_count_b173 N y1 y2) _
      rw [ev, ey]
      delta mm_count_b173
      rw [e47]
      refine pw_ifc (fun c => ?_) (fun c => ?_)
      · have c := i_lt.mp c
        rw [tj, tp] at c
        refine pw_ix (fun _ _ => ?_)
        rw [tjn]
        delta mm_count_L196
        refine pw_ifc (fun z => ?_) (fun z => ?_)
        · refine pw_some ⟨j + 1, ad_m (by omega), by omega, ?_⟩
          show Int32.ofNat (cntH (N.2.1 74) j) + 0 = Int32.ofNat (cntH (N.2.1 74) j + (if N.2.1 74 j = 0 then 0 else 1))
          rw [if_pos z, Int32.add_zero]
          rfl
        · refine pw_some ⟨j + 1, ad_m (by omega), by omega, ?_⟩
          show Int32.ofNat (cntH (N.2.1 74) j) + 1 = Int32.ofNat (cntH (N.2.1 74) j + (if N.2.1 74 j = 0 then 0 else 1))
          rw [if_neg z]
          exact ad_m (by omega)
      · have c : ¬ (Int32.ofNat j).toInt < (Int32.ofNat pa).toInt := fun z => c (i_lt.mpr z)
        rw [tj, tp] at c
        have ej : j = pa := by omega
        rw [ej]
        exact pw_some rfl
    · have hr : some (N, v) = some r := hr
      rw [← Option.some.inj hr, hv]
  exact key r hq

theorem cnt_l (he : hg_at S.1 o = some (.inr (0, enL t nn f (.ref u) (.ref (u + 18)) (.ref (u + 30)) (.ref (u + 31)) st en rn ta tn ex la))) (hl : LDp G S M u t0 T n ps sg io pa R c X cn hf sf) (hle : LDe M pa st en rn) (h41 : M.1 41 = 1) (h2 : nn = M.1 2) (hx : p1.toInt ≤ 12 ∨ 15 < p1.toInt ∨ (ex = 0 ∧ M.1 85 = 0 ∧ la = 0 ∧ M.1 86 = 0)) {r : md_S × Int32} (hq : mm_count M p1 = some r) : r.1 = md_i M 0 0 ∧ dc_wp (hm_SE_count G S o p1) (fun v => v = r.2) := by
  have hl0 := hl
  obtain ⟨⟨hpg, hpt, hpb⟩, -⟩ := hl
  obtain ⟨⟨nm, hnm, hp⟩, hre, ⟨e42, e43, e44, k1, k2, k3, k4, k5, e456, e47⟩, ⟨⟨n1, n2⟩, b2, b3, b4, b5, b6⟩, -⟩ := hpg
  obtain ⟨tx, fA, eA, sA, cap, tl, f1, ee, s1, tf, sc, -, ⟨v1, v2, v3', v4⟩, -⟩ := hnm
  obtain ⟨l1, l2, l3, l4, l5⟩ := id hle
  have mi : ∀ i, ¬ i = 0 → (md_i M 0 0).1 i = M.1 i := fun i hi => by rw [md_i1, if_neg hi]
  have hgr : ∀ F : Option Nat → Option Int32, dc_wp (F (some u)) (fun v => v = r.2) → dc_wp ((hg_gr S (some o) 0 3).bind F) (fun v => v = r.2) := fun F h => wq_gr (x := some u) he rfl h
  delta mm_count dc_let at hq
  dsimp only at hq
  delta hm_SE_count
  by_cases d0 : p1 = 0
  · rw [if_pos d0] at hq
    have er : r = (md_i M 0 0, M.1 42) := by rw [← Option.some.inj hq, mi 42 (by decide)]
    refine ⟨by rw [er], ?_⟩
    rw [if_neg (by rw [d0]; decide), if_neg (by rw [d0]; decide), if_neg (by rw [d0]; decide)]
    refine hgr _ ?_
    rw [if_neg (fun z => by cases z), if_pos (by rw [d0]; decide)]
    refine hgr _ ?_
    refine wq_chk hp.1 ?_
    refine wq_call (P := fun v => v = r.2) ?_ (fun v hv => ⟨_, rfl, hv⟩)
    delta hm_PG_figure
    refine wq_let (fun v ev => ?_)
    subst ev
    rw [if_pos d0]
    refine wq_gr (x := some (pgA (u + 1) (fun _ => 0) 0)) hp.1 rfl ?_
    refine wq_ln (hp.2.2 0 (by omega) (by omega)) ?_
    exact ⟨_, rfl, by rw [er]; exact e42.symm⟩
  by_cases d1 : p1 = 1
  · rw [if_neg d0, if_pos d1] at hq
    have er : r = (md_i M 0 0, M.1 43) := by rw [← Option.some.inj hq, mi 43 (by decide)]
    refine ⟨by rw [er], ?_⟩
    rw [if_neg (by rw [d1]; decide), if_neg (by rw [d1]; decide), if_neg (by rw [d1]; decide)]
    refine hgr _ ?_
    rw [if_neg (fun z => by cases z), if_pos (by rw [d1]; decide)]
    refine hgr _ ?_
    refine wq_chk hp.1 ?_
    refine wq_call (P := fun v => v = r.2) ?_ (fun v hv => ⟨_, rfl, hv⟩)
    delta hm_PG_figure
    refine wq_let (fun v ev => ?_)
    subst ev
    rw [if_neg d0, if_pos d1]
    refine wq_gr (x := some (u + 1)) hp.1 rfl ?_
    refine wq_gi (x := Int32.ofNat ps) hp.2.1 rfl ?_
    exact ⟨_, rfl, by rw [er]; exact e43.symm⟩
  by_cases d2 : p1 = 2
  · rw [if_neg d0, if_neg d1, if_pos d2] at hq
    have er : r = (md_i M 0 0, M.1 45) := by rw [← Option.some.inj hq, mi 45 (by decide)]
    refine ⟨by rw [er], ?_⟩
    rw [if_neg (by rw [d2]; decide), if_neg (by rw [d2]; decide), if_neg (by rw [d2]; decide)]
    refine hgr _ ?_
    rw [if_neg (fun z => by cases z), if_pos (by rw [d2]; decide)]
    refine hgr _ ?_
    refine wq_chk hp.1 ?_
    refine wq_call (P := fun v => v = r.2) ?_ (fun v hv => ⟨_, rfl, hv⟩)
    delta hm_PG_figure
    refine wq_let (fun v ev => ?_)
    subst ev
    rw [if_neg d0, if_neg d1, if_pos d2]
    refine wq_gi (x := c 1) hp.1 rfl ?_
    exact ⟨_, rfl, by rw [er]; exact k1⟩
  by_cases d3 : p1 = 3
  · rw [if_neg d0, if_neg d1, if_neg d2, if_pos d3] at hq
    have er : r = (md_i M 0 0, M.1 46) := by rw [← Option.some.inj hq, mi 46 (by decide)]
    refine ⟨by rw [er], ?_⟩
    rw [if_neg (by rw [d3]; decide), if_neg (by rw [d3]; decide), if_neg (by rw [d3]; decide)]
    refine hgr _ ?_
    rw [if_neg (fun z => by cases z), if_pos (by rw [d3]; decide)]
    refine hgr _ ?_
    refine wq_chk hp.1 ?_
    refine wq_call (P := fun v => v = r.2) ?_ (fun v hv => ⟨_, rfl, hv⟩)
    delta hm_PG_figure
    refine wq_let (fun v ev => ?_)
    subst ev
    rw [if_neg d0, if_neg d1, if_neg d2, if_pos d3]
    refine wq_gi (x := c 2) hp.1 rfl ?_
    exact ⟨_, rfl, by rw [er]; exact k2⟩
  by_cases d4 : p1 = 4
  · rw [if_neg d0, if_neg d1, if_neg d2, if_neg d3, if_pos d4] at hq
    have er : r = (md_i M 0 0, M.1 44 - M.1 45 - M.1 46) := by rw [← Option.some.inj hq, mi 44 (by decide), mi 45 (by decide), mi 46 (by decide)]
    refine ⟨by rw [er], ?_⟩
    rw [if_neg (by rw [d4]; decide), if_neg (by rw [d4]; decide), if_neg (by rw [d4]; decide)]
    refine hgr _ ?_
    rw [if_neg (fun z => by cases z), if_pos (by rw [d4]; decide)]
    refine hgr _ ?_
    refine wq_chk hp.1 ?_
    refine wq_call (P := fun v => v = r.2) ?_ (fun v hv => ⟨_, rfl, hv⟩)
    delta hm_PG_figure
    refine wq_let (fun v ev => ?_)
    subst ev
    rw [if_neg d0, if_neg d1, if_neg d2, if_neg d3, if_pos d4]
    refine wq_gr (x := some nm) hp.1 rfl ?_
    refine wq_gi (x := Int32.ofNat sg) v1 rfl ?_
    refine wq_gi (x := c 1) hp.1 rfl ?_
    refine wq_gi (x := c 2) hp.1 rfl ?_
    exact ⟨_, rfl, by rw [er, k1, k2, e44]⟩
  by_cases d5 : p1 = 5
  · rw [if_neg d0, if_neg d1, if_neg d2, if_neg d3, if_neg d4, if_pos d5] at hq
    have er : r = (md_i M 0 0, M.1 47) := by rw [← Option.some.inj hq, mi 47 (by decide)]
    refine ⟨by rw [er], ?_⟩
    rw [if_neg (by rw [d5]; decide), if_neg (by rw [d5]; decide), if_neg (by rw [d5]; decide)]
    refine hgr _ ?_
    rw [if_neg (fun z => by cases z), if_pos (by rw [d5]; decide)]
    refine hgr _ ?_
    refine wq_chk hp.1 ?_
    refine wq_call (P := fun v => v = r.2) ?_ (fun v hv => ⟨_, rfl, hv⟩)
    delta hm_PG_figure
    refine wq_let (fun v ev => ?_)
    subst ev
    rw [if_neg d0, if_neg d1, if_neg d2, if_neg d3, if_neg d4, if_pos d5]
    refine wq_gi (x := c 3) hp.1 rfl ?_
    exact ⟨_, rfl, by rw [er]; exact k3⟩
  by_cases d6 : p1 = 6
  · rw [if_neg d0, if_neg d1, if_neg d2, if_neg d3, if_neg d4, if_neg d5, if_pos d6] at hq
    have er : r = (md_i M 0 0, M.1 48) := by rw [← Option.some.inj hq, mi 48 (by decide)]
    refine ⟨by rw [er], ?_⟩
    rw [if_neg (by rw [d6]; decide), if_neg (by rw [d6]; decide), if_neg (by rw [d6]; decide)]
    refine hgr _ ?_
    rw [if_neg (fun z => by cases z), if_pos (by rw [d6]; decide)]
    refine hgr _ ?_
    refine wq_chk hp.1 ?_
    refine wq_call (P := fun v => v = r.2) ?_ (fun v hv => ⟨_, rfl, hv⟩)
    delta hm_PG_figure
    refine wq_let (fun v ev => ?_)
    subst ev
    rw [if_neg d0, if_neg d1, if_neg d2, if_neg d3, if_neg d4, if_neg d5, if_pos d6]
    refine wq_gi (x := c 4) hp.1 rfl ?_
    exact ⟨_, rfl, by rw [er]; exact k4⟩
  by_cases d7 : p1 = 7
  · rw [if_neg d0, if_neg d1, if_neg d2, if_neg d3, if_neg d4, if_neg d5, if_neg d6, if_pos d7] at hq
    have er : r = (md_i M 0 0, M.1 49) := by rw [← Option.some.inj hq, mi 49 (by decide)]
    refine ⟨by rw [er], ?_⟩
    rw [if_neg (by rw [d7]; decide), if_neg (by rw [d7]; decide), if_neg (by rw [d7]; decide)]
    refine hgr _ ?_
    rw [if_neg (fun z => by cases z), if_pos (by rw [d7]; decide)]
    refine hgr _ ?_
    refine wq_chk hp.1 ?_
    refine wq_call (P := fun v => v = r.2) ?_ (fun v hv => ⟨_, rfl, hv⟩)
    delta hm_PG_figure
    refine wq_let (fun v ev => ?_)
    subst ev
    rw [if_neg d0, if_neg d1, if_neg d2, if_neg d3, if_neg d4, if_neg d5, if_neg d6, if_pos d7]
    refine wq_gi (x := c 5) hp.1 rfl ?_
    exact ⟨_, rfl, by rw [er]; exact k5⟩
  by_cases d8 : p1 = 8
  · rw [if_neg d0, if_neg d1, if_neg d2, if_neg d3, if_neg d4, if_neg d5, if_neg d6, if_neg d7, if_pos d8] at hq
    have t0n : (0 : Int32).toInt.toNat = 0 := by decide
    have t0i : (0 : Int32).toInt = 0 := by decide
    rw [if_neg (by rw [mi 41 (by decide), h41]; decide)] at hq
    obtain ⟨-, -, hq⟩ := iv_ix hq
    rw [t0n] at hq
    have er : r = (md_i M 0 0, M.2.1 55 0) := (Option.some.inj hq).symm
    obtain ⟨⟨w0, w1, w2, w3, w4, w5, -⟩, -⟩ := hre.1 0 (by omega)
    refine ⟨by rw [er], ?_⟩
    rw [if_neg (by rw [d8]; decide), if_neg (by rw [d8]; decide), if_neg (by rw [d8]; decide)]
    refine hgr _ ?_
    rw [if_neg (fun z => by cases z), if_pos (by rw [d8]; decide)]
    refine hgr _ ?_
    refine wq_chk hp.1 ?_
    refine wq_call (P := fun v => v = r.2) ?_ (fun v hv => ⟨_, rfl, hv⟩)
    delta hm_PG_figure
    refine wq_let (fun v ev => ?_)
    subst ev
    rw [if_neg d0, if_neg d1, if_neg d2, if_neg d3, if_neg d4, if_neg d5, if_neg d6, if_neg d7]
    refine wq_gr (x := some (pgA (u + 1) (fun _ => 0) 5)) hp.1 rfl ?_
    refine wq_ld (hp.2.2 5 (by omega) (by omega)) (by omega) (by show (0 : Int32).toInt < ((n : Nat) : Int); omega) ?_
    rw [t0n]
    exact ⟨_, rfl, by rw [er]; exact w5⟩
  by_cases d9 : p1 = 9
  · rw [if_neg d0, if_neg d1, if_neg d2, if_neg d3, if_neg d4, if_neg d5, if_neg d6, if_neg d7, if_neg d8, if_pos d9] at hq
    have er : r = (md_i M 0 0, M.1 2) := by rw [← Option.some.inj hq, mi 2 (by decide)]
    refine ⟨by rw [er], ?_⟩
    rw [if_neg (by rw [d9]; decide), if_neg (by rw [d9]; decide), if_pos d9]
    refine wq_gi (x := nn) he rfl ?_
    exact ⟨_, rfl, by rw [er]; exact h2⟩
  by_cases d10 : p1 = 10
  · rw [if_neg d0, if_neg d1, if_neg d2, if_neg d3, if_neg d4, if_neg d5, if_neg d6, if_neg d7, if_neg d8, if_neg d9, if_pos d10] at hq
    have er : r = (md_i M 0 0, M.1 83) := by rw [← Option.some.inj hq, mi 83 (by decide)]
    refine ⟨by rw [er], ?_⟩
    rw [if_neg (by rw [d10]; decide), if_neg (by rw [d10]; decide), if_neg (by rw [d10]; decide)]
    refine hgr _ ?_
    rw [if_neg (fun z => by cases z), if_neg (by rw [d10]; decide)]
    refine wq_chk he ?_
    refine wq_call (P := fun v => v = r.2) ?_ (fun v hv => ⟨_, rfl, hv⟩)
    delta hm_SE_figure
    refine wq_let (fun v ev => ?_)
    subst ev
    rw [if_pos d10]
    refine wq_gi (x := rn) he rfl ?_
    exact ⟨_, rfl, by rw [er]; exact l3⟩
  by_cases d11 : p1 = 11
  · rw [if_neg d0, if_neg d1, if_neg d2, if_neg d3, if_neg d4, if_neg d5, if_neg d6, if_neg d7, if_neg d8, if_neg d9, if_neg d10, if_pos d11] at hq
    have er : r = (md_i M 0 0, M.1 82) := by rw [← Option.some.inj hq, mi 82 (by decide)]
    refine ⟨by rw [er], ?_⟩
    rw [if_neg (by rw [d11]; decide), if_neg (by rw [d11]; decide), if_neg (by rw [d11]; decide)]
    refine hgr _ ?_
    rw [if_neg (fun z => by cases z), if_neg (by rw [d11]; decide)]
    refine wq_chk he ?_
    refine wq_call (P := fun v => v = r.2) ?_ (fun v hv => ⟨_, rfl, hv⟩)
    delta hm_SE_figure
    refine wq_let (fun v ev => ?_)
    subst ev
    rw [if_neg d10, if_pos d11]
    refine wq_gi (x := en) he rfl ?_
    rcases l2 with ⟨y1, y2⟩ | ⟨y1, y2⟩
    · rw [if_pos y1]
      exact ⟨_, rfl, by rw [er]; exact y2.symm⟩
    · rw [if_neg (by rw [y1]; decide)]
      exact ⟨_, rfl, by rw [er]; exact y2.symm⟩
  by_cases d12 : p1 = 12
  · rw [if_neg d0, if_neg d1, if_neg d2, if_neg d3, if_neg d4, if_neg d5, if_neg d6, if_neg d7, if_neg d8, if_neg d9, if_neg d10, if_neg d11, if_pos d12] at hq
    have er := cn_173 b6 (by rw [mi 47 (by decide)]; exact e47) hq
    refine ⟨by rw [er], ?_⟩
    rw [if_neg (by rw [d12]; decide), if_neg (by rw [d12]; decide), if_neg (by rw [d12]; decide)]
    refine hgr _ ?_
    rw [if_neg (fun z => by cases z), if_neg (by rw [d12]; decide)]
    refine wq_chk he ?_
    refine wq_call (P := fun v => v = r.2) ?_ (fun v hv => ⟨_, rfl, hv⟩)
    delta hm_SE_figure
    refine wq_let (fun v ev => ?_)
    subst ev
    rw [if_neg d10, if_neg d11, if_pos d12]
    refine wq_chk he ?_
    refine wq_call (hld_w he hl0 hle) (fun v hv => ?_)
    exact ⟨_, rfl, by rw [er]; exact hv⟩
  by_cases d13 : p1 = 13
  · rw [if_neg d0, if_neg d1, if_neg d2, if_neg d3, if_neg d4, if_neg d5, if_neg d6, if_neg d7, if_neg d8, if_neg d9, if_neg d10, if_neg d11, if_neg d12, if_pos d13] at hq
    have hx' : ex = 0 ∧ M.1 85 = 0 ∧ la = 0 ∧ M.1 86 = 0 := by
      rcases hx with y | y | y
      · rw [d13, show (13 : Int32).toInt = 13 by decide] at y; omega
      · rw [d13, show (13 : Int32).toInt = 13 by decide] at y; omega
      · exact y
    rw [if_pos (by rw [mi 85 (by decide)]; exact hx'.2.1)] at hq
    have er : r = (md_i M 0 0, 0) := (Option.some.inj hq).symm
    refine ⟨by rw [er], ?_⟩
    rw [if_neg (by rw [d13]; decide), if_neg (by rw [d13]; decide), if_neg (by rw [d13]; decide)]
    refine hgr _ ?_
    rw [if_neg (fun z => by cases z), if_neg (by rw [d13]; decide)]
    refine wq_chk he ?_
    refine wq_call (P := fun v => v = r.2) ?_ (fun v hv => ⟨_, rfl, hv⟩)
    delta hm_SE_figure
    refine wq_let (fun v ev => ?_)
    subst ev
    rw [if_neg d10, if_neg d11, if_neg d12, if_pos d13]
    refine wq_gi (x := ex) he rfl ?_
    rw [if_pos hx'.1]
    exact ⟨_, rfl, by rw [er]⟩
  by_cases d14 : p1 = 14
  · rw [if_neg d0, if_neg d1, if_neg d2, if_neg d3, if_neg d4, if_neg d5, if_neg d6, if_neg d7, if_neg d8, if_neg d9, if_neg d10, if_neg d11, if_neg d12, if_neg d13, if_pos d14] at hq
    have hx' : ex = 0 ∧ M.1 85 = 0 ∧ la = 0 ∧ M.1 86 = 0 := by
      rcases hx with y | y | y
      · rw [d14, show (14 : Int32).toInt = 14 by decide] at y; omega
      · rw [d14, show (14 : Int32).toInt = 14 by decide] at y; omega
      · exact y
    have er : r = (md_i M 0 0, 0) := by
      delta mm_count_L224 at hq
      obtain ⟨z, hz, hq⟩ := iv_bind hq
      have hz0 : z = 0 := by
        rw [dc_it_eq] at hz
        obtain ⟨s, hs, hz⟩ := iv_bind hz
        have hs : mm_count_b224 (md_i M 0 0) 0 0 = some s := hs
        delta mm_count_b224 at hs
        rcases iv_if hs with ⟨-, hs⟩ | ⟨-, hs⟩
        · rw [if_pos (by rw [mi 85 (by decide)]; exact hx'.2.1)] at hs
          rw [← Option.some.inj hs] at hz
          exact (Option.some.inj hz).symm
        · rw [← Option.some.inj hs] at hz
          exact (Option.some.inj hz).symm
      rw [← Option.some.inj hq, hz0]
    refine ⟨by rw [er], ?_⟩
    rw [if_neg (by rw [d14]; decide), if_neg (by rw [d14]; decide), if_neg (by rw [d14]; decide)]
    refine hgr _ ?_
    rw [if_neg (fun z => by cases z), if_neg (by rw [d14]; decide)]
    refine wq_chk he ?_
    refine wq_call (P := fun v => v = r.2) ?_ (fun v hv => ⟨_, rfl, hv⟩)
    delta hm_SE_figure
    refine wq_let (fun v ev => ?_)
    subst ev
    rw [if_neg d10, if_neg d11, if_neg d12, if_neg d13, if_pos d14]
    refine wq_gi (x := ex) he rfl ?_
    rw [if_pos hx'.1]
    exact ⟨_, rfl, by rw [er]⟩
  by_cases d15 : p1 = 15
  · rw [if_neg d0, if_neg d1, if_neg d2, if_neg d3, if_neg d4, if_neg d5, if_neg d6, if_neg d7, if_neg d8, if_neg d9, if_neg d10, if_neg d11, if_neg d12, if_neg d13, if_neg d14, if_pos d15] at hq
    have hx' : ex = 0 ∧ M.1 85 = 0 ∧ la = 0 ∧ M.1 86 = 0 := by
      rcases hx with y | y | y
      · rw [d15, show (15 : Int32).toInt = 15 by decide] at y; omega
      · rw [d15, show (15 : Int32).toInt = 15 by decide] at y; omega
      · exact y
    rw [if_pos (by rw [mi 86 (by decide)]; exact hx'.2.2.2)] at hq
    have er : r = (md_i M 0 0, 0) := (Option.some.inj hq).symm
    refine ⟨by rw [er], ?_⟩
    rw [if_neg (by rw [d15]; decide), if_neg (by rw [d15]; decide), if_neg (by rw [d15]; decide)]
    refine hgr _ ?_
    rw [if_neg (fun z => by cases z), if_neg (by rw [d15]; decide)]
    refine wq_chk he ?_
    refine wq_call (P := fun v => v = r.2) ?_ (fun v hv => ⟨_, rfl, hv⟩)
    delta hm_SE_figure
    refine wq_let (fun v ev => ?_)
    subst ev
    rw [if_neg d10, if_neg d11, if_neg d12, if_neg d13, if_neg d14]
    refine wq_gi (x := la) he rfl ?_
    rw [if_pos hx'.2.2.1]
    exact ⟨_, rfl, by rw [er]⟩
  rw [if_neg d0, if_neg d1, if_neg d2, if_neg d3, if_neg d4, if_neg d5, if_neg d6, if_neg d7, if_neg d8, if_neg d9, if_neg d10, if_neg d11, if_neg d12, if_neg d13, if_neg d14, if_neg d15] at hq
  have er : r = (md_i M 0 0, -1) := (Option.some.inj hq).symm
  refine ⟨by rw [er], ?_⟩
  by_cases c0 : p1 < 0
  · rw [if_pos c0]
    exact ⟨_, rfl, by rw [er]⟩
  · rw [if_neg c0]
    by_cases c1 : (15 : Int32) < p1
    · rw [if_pos c1]
      exact ⟨_, rfl, by rw [er]⟩
    · exfalso
      have a0 : ¬ p1.toInt < (0 : Int32).toInt := fun z => c0 (i_lt.mpr z)
      have a1 : ¬ (15 : Int32).toInt < p1.toInt := fun z => c1 (i_lt.mpr z)
      rw [show (0 : Int32).toInt = 0 by decide] at a0
      rw [show (15 : Int32).toInt = 15 by decide] at a1
      obtain ⟨j, ej⟩ : ∃ j : Nat, p1.toInt = (j : Int) := ⟨p1.toInt.toNat, by omega⟩
      have ep : p1 = Int32.ofNat j := ofN_m ej (by omega)
      have hj : j = 0 ∨ j = 1 ∨ j = 2 ∨ j = 3 ∨ j = 4 ∨ j = 5 ∨ j = 6 ∨ j = 7 ∨ j = 8 ∨ j = 9 ∨ j = 10 ∨ j = 11 ∨ j = 12 ∨ j = 13 ∨ j = 14 ∨ j = 15 := by omega
      rcases hj with e | e | e | e | e | e | e | e | e | e | e | e | e | e | e | e <;> subst e
      · exact d0 ep
      · exact d1 ep
      · exact d2 ep
      · exact d3 ep
      · exact d4 ep
      · exact d5 ep
      · exact d6 ep
      · exact d7 ep
      · exact d8 ep
      · exact d9 ep
      · exact d10 ep
      · exact d11 ep
      · exact d12 ep
      · exact d13 ep
      · exact d14 ep
      · exact d15 ep
end LKE
