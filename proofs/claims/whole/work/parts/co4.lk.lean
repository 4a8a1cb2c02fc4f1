/-! calls that look: node, piece, status, selected -/
section LKC
variable {G : hg_E} {S : hg_S} {M : md_S} {T : tT} {t0 u n ps sg io pa o t : Nat} {R : Nat → Nat → Int32} {c : Nat → Int32} {X : Nat → Nat → Int32} {cn : Nat → Int32} {hf sf : Nat → Int32} {nn f st en rn ex la x1 p1 p2 : Int32} {ta tn : Value}
theorem ofn_lt {k : Nat} (hk : k ≤ 100000) {p : Int32} (h0 : ¬ p < 0) (h1 : p < Int32.ofNat k) : 0 ≤ p.toInt ∧ p.toInt < (k : Int) ∧ p.toInt.toNat < k := by
  have h1 := i_lt.mp h1
  rw [Int32.toInt_ofNat_of_lt (by omega)] at h1
  have h0 : ¬ p.toInt < (0 : Int32).toInt := fun z => h0 (i_lt.mpr z)
  rw [show (0 : Int32).toInt = 0 by decide] at h0
  omega
theorem nod_l (he : hg_at S.1 o = some (.inr (0, enL t nn f (.ref u) (.ref (u + 18)) (.ref (u + 30)) (.ref (u + 31)) st en rn ta tn ex la))) (hl : LDp G S M u t0 T n ps sg io pa R c X cn hf sf) {r : md_S × Int32} (hq : mm_node_II M p1 p2 = some r) : r.1 = md_i M 0 0 ∧ dc_wp (hm_SE_node G S o p1 p2) (fun v => v = r.2) := by
  obtain ⟨⟨hpg, hpt, hpb⟩, -⟩ := hl
  obtain ⟨⟨nm, hnm, hp⟩, hre, ⟨e42, e43, e44, -⟩, ⟨⟨n1, n2⟩, b2, b3, -⟩, -⟩ := hpg
  have m42 : (md_i M 0 0).1 42 = Int32.ofNat n := by rw [md_i1, if_neg (by decide)]; exact e42
  delta mm_node_II dc_let at hq
  dsimp only at hq
  delta hm_SE_node
  have start : ∀ F : Option Nat → Option Int32, dc_wp (F (some u)) (fun v => v = r.2) → dc_wp ((hg_gr S (some o) 0 3).bind F) (fun v => v = r.2) := fun F h => wq_gr (x := some u) he rfl h
  by_cases c0 : p1 < 0
  · rw [if_pos c0] at hq
    have er : r = (md_i M 0 0, -1) := (Option.some.inj hq).symm
    rw [er] at start ⊢
    refine ⟨rfl, start _ ?_⟩
    rw [if_neg (fun z => by cases z), if_pos c0]
    exact ⟨_, rfl, rfl⟩
  · rw [if_neg c0, m42] at hq
    by_cases c1 : p1 < Int32.ofNat n
    · rw [if_pos c1] at hq
      obtain ⟨a1, a2, a3⟩ := ofn_lt (by omega) c0 c1
      obtain ⟨⟨k0, k1, k2, k3, k4, k5, k6, k7, k8⟩, -⟩ := hre.1 p1.toInt.toNat a3
      have fin : ∀ (i : Nat) (v : Int32), i < 8 → ¬ i = 3 → v = R i p1.toInt.toNat → r = (md_i M 0 0, v) → dc_wp ((hg_gr S (some o) 0 3).bind fun e6 => (hg_gr S e6 9 (7 + i)).bind fun e7 => (hg_ld S e7 (G.1 0) p1).bind fun e8 => some e8) (fun v => v = r.2) := by
        intro i v i8 i3 ev er
        refine start _ ?_
        have hi : i = 0 ∨ i = 1 ∨ i = 2 ∨ i = 4 ∨ i = 5 ∨ i = 6 ∨ i = 7 := by omega
        have hld : ∀ j, j < 10 → dc_wp ((hg_ld S (some (pgA (u + 1) (fun _ => 0) j)) (G.1 0) p1).bind fun e8 => some e8) (fun v => v = R j p1.toInt.toNat) := by
          intro j hj
          refine wq_ld (hp.2.2 j (by omega) (by omega)) a1 (by show p1.toInt < ((pgN n ps 0 j : Nat) : Int); unfold pgN; rw [if_pos (by omega)]; exact a2) ?_
          exact ⟨_, rfl, rfl⟩
        have tail : ∀ j, j < 10 → R j p1.toInt.toNat = r.2 → dc_wp ((hg_ld S (some (pgA (u + 1) (fun _ => 0) j)) (G.1 0) p1).bind fun e8 => some e8) (fun v => v = r.2) := fun j hj e => wq_w (hld j hj) (fun v hv => hv.trans e)
        rcases hi with e | e | e | e | e | e | e <;> subst e

        · exact wq_gr (x := some (pgA (u + 1) (fun _ => 0) 0)) hp.1 rfl (tail 0 (by omega) (by rw [er, ev]))
        · exact wq_gr (x := some (pgA (u + 1) (fun _ => 0) 1)) hp.1 rfl (tail 1 (by omega) (by rw [er, ev]))
        · exact wq_gr (x := some (pgA (u + 1) (fun _ => 0) 2)) hp.1 rfl (tail 2 (by omega) (by rw [er, ev]))
        · exact wq_gr (x := some (pgA (u + 1) (fun _ => 0) 4)) hp.1 rfl (tail 4 (by omega) (by rw [er, ev]))
        · exact wq_gr (x := some (pgA (u + 1) (fun _ => 0) 5)) hp.1 rfl (tail 5 (by omega) (by rw [er, ev]))
        · exact wq_gr (x := some (pgA (u + 1) (fun _ => 0) 6)) hp.1 rfl (tail 6 (by omega) (by rw [er, ev]))
        · exact wq_gr (x := some (pgA (u + 1) (fun _ => 0) 7)) hp.1 rfl (tail 7 (by omega) (by rw [er, ev]))
      have hd : ∀ F : Option Nat → Option Int32, dc_wp (F (some (pgA (u + 1) (fun _ => 0) 0))) (fun v => v = r.2) → dc_wp ((hg_gr S (some u) 9 7).bind F) (fun v => v = r.2) := fun F h => wq_gr (x := some (pgA (u + 1) (fun _ => 0) 0)) hp.1 rfl h
      have hln : ∀ F : Int32 → Option Int32, dc_wp (F (Int32.ofNat n)) (fun v => v = r.2) → dc_wp ((hg_ln S (some (pgA (u + 1) (fun _ => 0) 0)) (G.1 0)).bind F) (fun v => v = r.2) := fun F h => wq_ln (hp.2.2 0 (by omega) (by omega)) h
      by_cases d0 : p2 = 0
      · rw [if_pos d0] at hq
        obtain ⟨-, -, hq⟩ := iv_ix hq
        have er : r = (md_i M 0 0, M.2.1 51 p1.toInt.toNat) := (Option.some.inj hq).symm
        refine ⟨by rw [er], ?_⟩
        refine start _ ?_
        rw [if_neg (fun z => by cases z), if_neg c0]
        refine start _ ?_
        refine hd _ ?_
        refine hln _ ?_
        rw [if_pos c1]
        refine wq_let (fun v ev => ?_)
        subst ev
        rw [if_pos d0]
        exact fin 0 _ (by omega) (by omega) k0.symm er
      by_cases d1 : p2 = 1
      · rw [if_neg d0, if_pos d1] at hq
        obtain ⟨-, -, hq⟩ := iv_ix hq
        have er : r = (md_i M 0 0, M.2.1 52 p1.toInt.toNat) := (Option.some.inj hq).symm
        refine ⟨by rw [er], ?_⟩
        refine start _ ?_
        rw [if_neg (fun z => by cases z), if_neg c0]
        refine start _ ?_
        refine hd _ ?_
        refine hln _ ?_
        rw [if_pos c1]
        refine wq_let (fun v ev => ?_)
        subst ev
        rw [if_neg d0, if_pos d1]
        exact fin 1 _ (by omega) (by omega) k1.symm er
      by_cases d2 : p2 = 2
      · rw [if_neg d0, if_neg d1, if_pos d2] at hq
        obtain ⟨-, -, hq⟩ := iv_ix hq
        have er : r = (md_i M 0 0, M.2.1 53 p1.toInt.toNat) := (Option.some.inj hq).symm
        refine ⟨by rw [er], ?_⟩
        refine start _ ?_
        rw [if_neg (fun z => by cases z), if_neg c0]
        refine start _ ?_
        refine hd _ ?_
        refine hln _ ?_
        rw [if_pos c1]
        refine wq_let (fun v ev => ?_)
        subst ev
        rw [if_neg d0, if_neg d1, if_pos d2]
        exact fin 2 _ (by omega) (by omega) k2.symm er
      by_cases d3 : p2 = 3
      · rw [if_neg d0, if_neg d1, if_neg d2, if_pos d3] at hq
        obtain ⟨-, -, hq⟩ := iv_ix hq
        have er : r = (md_i M 0 0, M.2.1 54 p1.toInt.toNat) := (Option.some.inj hq).symm
        refine ⟨by rw [er], ?_⟩
        refine start _ ?_
        rw [if_neg (fun z => by cases z), if_neg c0]
        refine start _ ?_
        refine hd _ ?_
        refine hln _ ?_
        rw [if_pos c1]
        refine wq_let (fun v ev => ?_)
        subst ev
        rw [if_neg d0, if_neg d1, if_neg d2, if_pos d3]
        exact fin 4 _ (by omega) (by omega) k4.symm er
      by_cases d4 : p2 = 4
      · rw [if_neg d0, if_neg d1, if_neg d2, if_neg d3, if_pos d4] at hq
        obtain ⟨-, -, hq⟩ := iv_ix hq
        have er : r = (md_i M 0 0, M.2.1 55 p1.toInt.toNat) := (Option.some.inj hq).symm
        refine ⟨by rw [er], ?_⟩
        refine start _ ?_
        rw [if_neg (fun z => by cases z), if_neg c0]
        refine start _ ?_
        refine hd _ ?_
        refine hln _ ?_
        rw [if_pos c1]
        refine wq_let (fun v ev => ?_)
        subst ev
        rw [if_neg d0, if_neg d1, if_neg d2, if_neg d3, if_pos d4]
        exact fin 5 _ (by omega) (by omega) k5.symm er
      by_cases d5 : p2 = 5
      · rw [if_neg d0, if_neg d1, if_neg d2, if_neg d3, if_neg d4, if_pos d5] at hq
        obtain ⟨-, -, hq⟩ := iv_ix hq
        have er : r = (md_i M 0 0, M.2.1 56 p1.toInt.toNat) := (Option.some.inj hq).symm
        refine ⟨by rw [er], ?_⟩
        refine start _ ?_
        rw [if_neg (fun z => by cases z), if_neg c0]
        refine start _ ?_
        refine hd _ ?_
        refine hln _ ?_
        rw [if_pos c1]
        refine wq_let (fun v ev => ?_)
        subst ev
        rw [if_neg d0, if_neg d1, if_neg d2, if_neg d3, if_neg d4, if_pos d5]
        exact fin 6 _ (by omega) (by omega) k6.symm er
      by_cases d6 : p2 = 6
      · rw [if_neg d0, if_neg d1, if_neg d2, if_neg d3, if_neg d4, if_neg d5, if_pos d6] at hq
        obtain ⟨-, -, hq⟩ := iv_ix hq
        have er : r = (md_i M 0 0, M.2.1 57 p1.toInt.toNat) := (Option.some.inj hq).symm
        refine ⟨by rw [er], ?_⟩
        refine start _ ?_
        rw [if_neg (fun z => by cases z), if_neg c0]
        refine start _ ?_
        refine hd _ ?_
        refine hln _ ?_
        rw [if_pos c1]
        refine wq_let (fun v ev => ?_)
        subst ev
        rw [if_neg d0, if_neg d1, if_neg d2, if_neg d3, if_neg d4, if_neg d5, if_pos d6]
        exact fin 7 _ (by omega) (by omega) k7.symm er
      rw [if_neg d0, if_neg d1, if_neg d2, if_neg d3, if_neg d4, if_neg d5, if_neg d6] at hq
      have er : r = (md_i M 0 0, -1) := (Option.some.inj hq).symm
      refine ⟨by rw [er], ?_⟩
      refine start _ ?_
      rw [if_neg (fun z => by cases z), if_neg c0]
      refine start _ ?_
      refine hd _ ?_
      refine hln _ ?_
      rw [if_pos c1]
      refine wq_let (fun v ev => ?_)
      subst ev
      rw [if_neg d0, if_neg d1, if_neg d2, if_neg d3, if_neg d4, if_neg d5, if_neg d6]
      exact ⟨_, rfl, by rw [er]⟩
    · rw [if_neg c1] at hq
      have er : r = (md_i M 0 0, -1) := (Option.some.inj hq).symm
      refine ⟨by rw [er], start _ ?_⟩
      rw [if_neg (fun z => by cases z), if_neg c0]
      refine start _ ?_
      refine wq_gr (x := some (pgA (u + 1) (fun _ => 0) 0)) hp.1 rfl ?_
      refine wq_ln (hp.2.2 0 (by omega) (by omega)) ?_
      have c1' : ¬ p1 < Int32.ofNat (pgN n ps 0 0) := c1
      rw [if_neg c1']
      exact ⟨_, rfl, by rw [er]⟩
theorem sts_l (he : hg_at S.1 o = some (.inr (0, enL t nn f (.ref u) (.ref (u + 18)) (.ref (u + 30)) (.ref (u + 31)) st en rn ta tn ex la))) (hl : LDp G S M u t0 T n ps sg io pa R c X cn hf sf) (h41 : M.1 41 = 1) {r : md_S × Int32} (hq : mm_status M p1 = some r) : r.1 = md_i M 0 0 ∧ dc_wp (hm_SE_status G S o p1) (fun v => v = r.2) := by
  obtain ⟨⟨hpg, hpt, hpb⟩, -, -, ⟨hs1, hs2⟩, -⟩ := hl
  obtain ⟨-, -, ⟨-, -, -, -, -, -, -, -, eio, -⟩, ⟨-, b2, b3, b4, -⟩, -⟩ := hpg
  have m4 : (md_i M 0 0).1 45 + (md_i M 0 0).1 46 = Int32.ofNat io := by rw [md_i1, if_neg (by decide), md_i1, if_neg (by decide)]; exact eio
  have m41 : ¬ (md_i M 0 0).1 41 = 0 := by rw [md_i1, if_neg (by decide), h41]; decide
  delta mm_status dc_let at hq
  dsimp only at hq
  delta hm_SE_status
  have start : ∀ F : Option Nat → Option Int32, dc_wp (F (some (u + 31))) (fun v => v = r.2) → dc_wp ((hg_gr S (some o) 0 8).bind F) (fun v => v = r.2) := fun F h => wq_gr (x := some (u + 31)) he rfl h
  by_cases c0 : p1 < 0
  · rw [if_pos c0] at hq
    have er : r = (md_i M 0 0, 0) := (Option.some.inj hq).symm
    refine ⟨by rw [er], start _ ?_⟩
    rw [if_neg (fun z => by cases z), if_pos c0]
    exact ⟨_, rfl, by rw [er]⟩
  · rw [if_neg c0, m4] at hq
    refine ⟨?_, start _ ?_⟩
    · by_cases c1 : p1 < Int32.ofNat io
      · rw [if_pos c1, if_neg m41] at hq
        obtain ⟨-, -, hq⟩ := iv_ix hq
        have er : r = (md_i M 0 0, M.2.1 84 p1.toInt.toNat) := (Option.some.inj hq).symm
        rw [er]
      · rw [if_neg c1] at hq
        have er : r = (md_i M 0 0, 0) := (Option.some.inj hq).symm
        rw [er]
    · rw [if_neg (fun z => by cases z), if_neg c0]
      refine start _ ?_
      refine wq_ln hs1 ?_
      by_cases c1 : p1 < Int32.ofNat io
      · rw [if_pos c1, if_neg m41] at hq
        obtain ⟨a1, a2, a3⟩ := ofn_lt (by omega) c0 c1
        obtain ⟨-, -, hq⟩ := iv_ix hq
        have er : r = (md_i M 0 0, M.2.1 84 p1.toInt.toNat) := (Option.some.inj hq).symm
        rw [if_pos c1]
        refine start _ ?_
        refine wq_ld hs1 a1 a2 ?_
        exact ⟨_, rfl, by rw [er]; exact hs2 _ a3⟩
      · rw [if_neg c1] at hq
        have er : r = (md_i M 0 0, 0) := (Option.some.inj hq).symm
        rw [if_neg c1]
        exact ⟨_, rfl, by rw [er]⟩
theorem sel_l (he : hg_at S.1 o = some (.inr (0, enL t nn f (.ref u) (.ref (u + 18)) (.ref (u + 30)) (.ref (u + 31)) st en rn ta tn ex la))) (hl : LDp G S M u t0 T n ps sg io pa R c X cn hf sf) (hle : LDe M pa st en rn) {r : md_S × Int32} (hq : mm_selected M p1 = some r) : r.1 = md_i M 0 0 ∧ dc_wp (hm_SE_selected G S o p1) (fun v => v = r.2) := by
  obtain ⟨⟨hpg, hpt, hpb⟩, -, ⟨hh1, hh2⟩, -⟩ := hl
  obtain ⟨-, -, ⟨-, -, -, -, -, -, -, -, -, e47⟩, ⟨-, b2, b3, b4, b5, b6⟩, -⟩ := hpg
  obtain ⟨l1, l2, l3, l4, l5, -⟩ := hle
  have m47 : (md_i M 0 0).1 47 = Int32.ofNat pa := by rw [md_i1, if_neg (by decide)]; exact e47
  delta mm_selected dc_let at hq
  dsimp only at hq
  have z0 : dc_zb 0 = some () := if_pos (Or.inl rfl)
  have z1 : dc_zb 1 = some () := if_pos (Or.inr rfl)
  have r0 : ∀ S : md_S, mm_selected_L30 S = some (S, 0) := fun S => by
    delta mm_selected_L30 mm_selected_L31
    rw [z0]; rfl
  have r1 : ∀ S : md_S, mm_selected_L31 S 1 = some (S, 1) := fun S => by
    delta mm_selected_L31
    rw [z1]; rfl
  have k0 : hm_SE_selected_L40 G S o = some 0 := by
    delta hm_SE_selected_L40 hm_SE_selected_L41
    rw [z0]; rfl
  have k1 : hm_SE_selected_L41 G S o 1 = some 1 := by
    delta hm_SE_selected_L41
    rw [z1]; rfl
  rw [r0] at hq
  delta hm_SE_selected
  rw [k0]
  have start : ∀ F : Option Nat → Option Int32, dc_wp (F (some (u + 30))) (fun v => v = r.2) → dc_wp ((hg_gr S (some o) 0 7).bind F) (fun v => v = r.2) := fun F h => wq_gr (x := some (u + 30)) he rfl h
  -- what the reference answers
  have ref : r.1 = md_i M 0 0 ∧ ((p1 < 0 ∨ ¬ p1 < Int32.ofNat pa) → r.2 = 0) ∧ (¬ p1 < 0 → p1 < Int32.ofNat pa → (M.2.1 74 p1.toInt.toNat = 0 → r.2 = 0) ∧ (¬ M.2.1 74 p1.toInt.toNat = 0 → r.2 = 1)) := by
    by_cases c0 : p1 < 0
    · rw [if_pos c0] at hq
      have er : r = (md_i M 0 0, 0) := (Option.some.inj hq).symm
      rw [er]
      exact ⟨rfl, fun _ => rfl, fun z => absurd c0 z⟩
    · rw [if_neg c0, m47] at hq
      by_cases c1 : p1 < Int32.ofNat pa
      · rw [if_pos c1] at hq
        obtain ⟨-, -, hq⟩ := iv_ix hq
        have hq : (if M.2.1 74 p1.toInt.toNat = 0 then some (md_i M 0 0, 0) else mm_selected_L31 (md_i M 0 0) 1) = some r := hq
        by_cases c2 : M.2.1 74 p1.toInt.toNat = 0
        · rw [if_pos c2] at hq
          rw [← Option.some.inj hq]
          exact ⟨rfl, fun _ => rfl, fun _ _ => ⟨fun _ => rfl, fun z => absurd c2 z⟩⟩
        · rw [if_neg c2, r1] at hq
          rw [← Option.some.inj hq]
          exact ⟨rfl, fun z => z.elim (fun z => absurd z c0) (fun z => absurd c1 z), fun _ _ => ⟨fun z => absurd z c2, fun _ => rfl⟩⟩
      · rw [if_neg c1] at hq
        rw [← Option.some.inj hq]
        exact ⟨rfl, fun _ => rfl, fun _ z => absurd z c1⟩
  refine ⟨ref.1, start _ ?_⟩
  rw [if_neg (fun z => by cases z)]
  refine wq_gi (x := en) he rfl ?_
  rcases l2 with ⟨e0, e82⟩ | ⟨e1, e82⟩
  · rw [if_pos e0]
    by_cases c0 : p1 < 0
    · rw [if_pos c0]
      exact ⟨_, rfl, (ref.2.1 (Or.inl c0)).symm⟩
    · rw [if_neg c0]
      refine start _ ?_
      refine wq_ln hh1 ?_
      by_cases c1 : p1 < Int32.ofNat pa
      · rw [if_pos c1]
        obtain ⟨a1, a2, a3⟩ := ofn_lt (by omega) c0 c1
        refine start _ ?_
        refine wq_ld hh1 a1 a2 ?_
        by_cases c2 : hf p1.toInt.toNat = 0
        · rw [if_pos c2]
          exact ⟨_, rfl, ((ref.2.2 c0 c1).1 ((hh2 _ a3).mp c2)).symm⟩
        · rw [if_neg c2, k1]
          exact ⟨_, rfl, ((ref.2.2 c0 c1).2 (fun z => c2 ((hh2 _ a3).mpr z))).symm⟩
      · rw [if_neg c1]
        exact ⟨_, rfl, (ref.2.1 (Or.inr c1)).symm⟩
  · rw [if_neg (by rw [e1]; decide)]
    refine ⟨_, rfl, ?_⟩
    by_cases c0 : p1 < 0
    · exact (ref.2.1 (Or.inl c0)).symm
    · by_cases c1 : p1 < Int32.ofNat pa
      · obtain ⟨a1, a2, a3⟩ := ofn_lt (by omega) c0 c1
        exact ((ref.2.2 c0 c1).1 (l5 e82 _ a3)).symm
      · exact (ref.2.1 (Or.inr c1)).symm
end LKC
