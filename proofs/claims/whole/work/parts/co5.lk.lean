/-! calls that look: piece, letter -/
section LKD
variable {G : hg_E} {S : hg_S} {M : md_S} {T : tT} {t0 u n ps sg io pa o t : Nat} {R : Nat → Nat → Int32} {c : Nat → Int32} {X : Nat → Nat → Int32} {cn : Nat → Int32} {hf sf : Nat → Int32} {nn f st en rn ex la x1 p1 p2 : Int32} {ta tn : Value}
theorem pce_l (he : hg_at S.1 o = some (.inr (0, enL t nn f (.ref u) (.ref (u + 18)) (.ref (u + 30)) (.ref (u + 31)) st en rn ta tn ex la))) (hl : LDp G S M u t0 T n ps sg io pa R c X cn hf sf) {r : md_S × Int32} (hq : mm_piece_II M p1 p2 = some r) : r.1 = md_i M 0 0 ∧ dc_wp (hm_SE_piece G S o p1 p2) (fun v => v = r.2) := by
  obtain ⟨⟨hpg, hpt, hpb⟩, -⟩ := hl
  obtain ⟨⟨nm, hnm, hp⟩, hre, ⟨e42, e43, e44, -⟩, ⟨⟨n1, n2⟩, b2, b3, -⟩, -⟩ := hpg
  have m43 : (md_i M 0 0).1 43 = Int32.ofNat ps := by rw [md_i1, if_neg (by decide)]; exact e43
  delta mm_piece_II mm_piece_II_L61 mm_piece_II_L17 dc_let at hq
  dsimp only at hq
  delta hm_SE_piece
  have start : ∀ F : Option Nat → Option Int32, dc_wp (F (some u)) (fun v => v = r.2) → dc_wp ((hg_gr S (some o) 0 3).bind F) (fun v => v = r.2) := fun F h => wq_gr (x := some u) he rfl h
  have pcs : ∀ F : Option Nat → Option Int32, dc_wp (F (some (u + 1))) (fun v => v = r.2) → dc_wp ((hg_gr S (some u) 9 6).bind F) (fun v => v = r.2) := fun F h => wq_gr (x := some (u + 1)) hp.1 rfl h
  by_cases c0 : p1 < 0
  · rw [if_pos c0] at hq
    have er : r = (md_i M 0 0, -1) := (Option.some.inj hq).symm
    refine ⟨by rw [er], start _ ?_⟩
    rw [if_neg (fun z => by cases z), if_pos c0]
    exact ⟨_, rfl, by rw [er]⟩
  · rw [if_neg c0, m43] at hq
    by_cases c1 : p1 < Int32.ofNat ps
    · rw [if_pos c1] at hq
      obtain ⟨a1, a2, a3⟩ := ofn_lt (by omega) c0 c1
      obtain ⟨k0, k1, k2⟩ := hre.2 p1.toInt.toNat a3
      have tail : ∀ j, j = 11 ∨ j = 12 ∨ j = 13 → R j p1.toInt.toNat = r.2 → dc_wp ((hg_ld S (some (pgA (u + 1) (fun _ => 0) j)) (G.1 0) p1).bind fun e8 => some e8) (fun v => v = r.2) := by
        intro j hj e
        refine wq_ld (hp.2.2 j (by omega) (by omega)) a1 (by show p1.toInt < ((pgN n ps 0 j : Nat) : Int); unfold pgN; rw [if_neg (by omega), if_pos (by omega)]; exact a2) ?_
        exact ⟨_, rfl, e⟩
      by_cases d0 : p2 = 0
      · rw [if_pos d0] at hq
        obtain ⟨-, -, hq⟩ := iv_ix hq
        have er : r = (md_i M 0 0, M.2.1 63 p1.toInt.toNat) := (Option.some.inj hq).symm
        refine ⟨by rw [er], ?_⟩
        refine start _ ?_
        rw [if_neg (fun z => by cases z), if_neg c0]
        refine start _ ?_
        refine pcs _ ?_
        refine wq_gi (x := Int32.ofNat ps) hp.2.1 rfl ?_
        rw [if_pos c1]
        refine wq_let (fun v ev => ?_)
        subst ev
        rw [if_pos d0]
        refine start _ ?_
        refine pcs _ ?_
        exact wq_gr (x := some (pgA (u + 1) (fun _ => 0) 11)) hp.2.1 rfl (tail 11 (by omega) (by rw [er]; exact k0))
      by_cases d1 : p2 = 1
      · rw [if_neg d0, if_pos d1] at hq
        obtain ⟨-, -, hq⟩ := iv_ix hq
        have er : r = (md_i M 0 0, M.2.1 64 p1.toInt.toNat) := (Option.some.inj hq).symm
        refine ⟨by rw [er], ?_⟩
        refine start _ ?_
        rw [if_neg (fun z => by cases z), if_neg c0]
        refine start _ ?_
        refine pcs _ ?_
        refine wq_gi (x := Int32.ofNat ps) hp.2.1 rfl ?_
        rw [if_pos c1]
        refine wq_let (fun v ev => ?_)
        subst ev
        rw [if_neg d0, if_pos d1]
        refine start _ ?_
        refine pcs _ ?_
        exact wq_gr (x := some (pgA (u + 1) (fun _ => 0) 12)) hp.2.1 rfl (tail 12 (by omega) (by rw [er]; exact k1))
      by_cases d2 : p2 = 2
      · rw [if_neg d0, if_neg d1, if_pos d2] at hq
        obtain ⟨-, -, hq⟩ := iv_ix hq
        have er : r = (md_i M 0 0, M.2.1 65 p1.toInt.toNat) := (Option.some.inj hq).symm
        refine ⟨by rw [er], ?_⟩
        refine start _ ?_
        rw [if_neg (fun z => by cases z), if_neg c0]
        refine start _ ?_
        refine pcs _ ?_
        refine wq_gi (x := Int32.ofNat ps) hp.2.1 rfl ?_
        rw [if_pos c1]
        refine wq_let (fun v ev => ?_)
        subst ev
        rw [if_neg d0, if_neg d1, if_pos d2]
        refine start _ ?_
        refine pcs _ ?_
        exact wq_gr (x := some (pgA (u + 1) (fun _ => 0) 13)) hp.2.1 rfl (tail 13 (by omega) (by rw [er]; exact k2))
      rw [if_neg d0, if_neg d1, if_neg d2] at hq
      have er : r = (md_i M 0 0, -1) := (Option.some.inj hq).symm
      refine ⟨by rw [er], start _ ?_⟩
      rw [if_neg (fun z => by cases z), if_neg c0]
      refine start _ ?_
      refine pcs _ ?_
      refine wq_gi (x := Int32.ofNat ps) hp.2.1 rfl ?_
      rw [if_pos c1]
      refine wq_let (fun v ev => ?_)
      subst ev
      rw [if_neg d0, if_neg d1, if_neg d2]
      exact ⟨_, rfl, by rw [er]⟩
    · rw [if_neg c1] at hq
      have er : r = (md_i M 0 0, -1) := (Option.some.inj hq).symm
      refine ⟨by rw [er], start _ ?_⟩
      rw [if_neg (fun z => by cases z), if_neg c0]
      refine start _ ?_
      refine pcs _ ?_
      refine wq_gi (x := Int32.ofNat ps) hp.2.1 rfl ?_
      rw [if_neg c1]
      exact ⟨_, rfl, by rw [er]⟩
theorem let_l (he : hg_at S.1 o = some (.inr (0, enL t nn f (.ref u) (.ref (u + 18)) (.ref (u + 30)) (.ref (u + 31)) st en rn ta tn ex la))) (hl : LDp G S M u t0 T n ps sg io pa R c X cn hf sf) {r : md_S × Int32} (hq : mm_letter_II M p1 p2 = some r) : r.1 = md_i M 0 0 ∧ dc_wp (hm_SE_letter G S o p1 p2) (fun v => v = r.2) := by
  obtain ⟨⟨hpg, hpt, hpb⟩, -⟩ := hl
  obtain ⟨⟨nm, hnm, hp⟩, hre, ⟨e42, e43, e44, -⟩, ⟨⟨n1, n2⟩, b2, b3, -⟩, -⟩ := hpg
  obtain ⟨tx, fA, eA, sA, cap, tl, f1, ee, s1, tf, sc, -, ⟨v1, v2, v3', v4⟩, hx, ⟨hc1, hc2⟩, hnn⟩ := hnm
  have m44 : (md_i M 0 0).1 44 = Int32.ofNat sg := by rw [md_i1, if_neg (by decide)]; exact e44
  delta mm_letter_II mm_letter_II_L31 mm_letter_II_L46 dc_let at hq
  dsimp only at hq
  delta hm_SE_letter
  have start : ∀ F : Option Nat → Option Int32, dc_wp (F (some u)) (fun v => v = r.2) → dc_wp ((hg_gr S (some o) 0 3).bind F) (fun v => v = r.2) := fun F h => wq_gr (x := some u) he rfl h
  have ch : ∀ (h : dc_wp (hm_NM_character G S nm p1 p2) (fun v => v = r.2)), dc_wp ((hg_gr S (some o) 0 3).bind fun e1 => if e1 = none then (some (-1)) else ((hg_gr S (some o) 0 3).bind fun e2 => (hg_gr S e2 9 0).bind fun e3 => (hg_chk S e3 3).bind fun b4 => (hm_NM_character G S b4 p1 p2).bind fun q7 => some q7)) (fun v => v = r.2) := by
    intro h
    refine start _ ?_
    rw [if_neg (fun z => by cases z)]
    refine start _ ?_
    refine wq_gr (x := some nm) hp.1 rfl ?_
    refine wq_chk v1 ?_
    exact wq_call h (fun q hq => ⟨_, rfl, hq⟩)
  have z0 : (0 : Int32).toInt = 0 := by decide
  by_cases c0 : p1 < 0
  · rw [if_pos c0] at hq
    have er : r = (md_i M 0 0, -1) := (Option.some.inj hq).symm
    refine ⟨by rw [er], ch ?_⟩
    delta hm_NM_character
    rw [if_pos c0]
    exact ⟨_, rfl, by rw [er]⟩
  · rw [if_neg c0, m44] at hq
    by_cases c1 : p1 < Int32.ofNat sg
    · rw [if_pos c1] at hq
      obtain ⟨a1, a2, a3⟩ := ofn_lt (by omega) c0 c1
      obtain ⟨w1, w2, w3, w4, w5, w6⟩ := hnn p1.toInt.toNat a3
      by_cases c2 : p2 < 0
      · rw [if_pos c2] at hq
        have er : r = (md_i M 0 0, -1) := (Option.some.inj hq).symm
        refine ⟨by rw [er], ch ?_⟩
        delta hm_NM_character
        rw [if_neg c0]
        refine wq_gi (x := Int32.ofNat sg) v1 rfl ?_
        rw [if_pos c1, if_pos c2]
        exact ⟨_, rfl, by rw [er]⟩
      · rw [if_neg c2] at hq
        obtain ⟨-, -, hq⟩ := iv_ix hq
        have hq : (if p2 < M.2.1 69 p1.toInt.toNat then (dc_ix (31 * p1 + p2) 12400).bind (fun j3 => some (md_i M 0 0, M.2.1 68 j3)) else some (md_i M 0 0, -1)) = some r := hq
        have body : dc_wp (if p2 < ee p1.toInt.toNat then ((hg_gr S (some nm) 3 0).bind fun e4 => (hg_gr S (some nm) 3 1).bind fun e5 => (hg_ld S e5 (G.1 0) p1).bind fun e6 => (hg_ld S e4 (G.1 1) (e6 + p2)).bind fun e7 => some e7) else (hm_NM_character_L26 G S nm)) (fun v => v = r.2) → dc_wp (hm_NM_character G S nm p1 p2) (fun v => v = r.2) := by
          intro h
          delta hm_NM_character
          rw [if_neg c0]
          refine wq_gi (x := Int32.ofNat sg) v1 rfl ?_
          rw [if_pos c1, if_neg c2]
          refine wq_gr (x := some eA) v1 rfl ?_
          refine wq_ld v3' a1 (by omega) ?_
          exact h
        by_cases c3 : p2 < M.2.1 69 p1.toInt.toNat
        · rw [if_pos c3] at hq
          obtain ⟨-, -, hq⟩ := iv_ix hq
          have c3' : p2 < ee p1.toInt.toNat := by rw [w1]; exact c3
          have c3i := i_lt.mp c3'
          have c2i : ¬ p2.toInt < (0 : Int32).toInt := fun z => c2 (i_lt.mpr z)
          rw [z0] at c2i
          have ei : (31 * p1 + p2).toInt.toNat = 31 * p1.toInt.toNat + p2.toInt.toNat := by
            obtain ⟨k, ek⟩ : ∃ k : Nat, p1.toInt = (k : Int) := ⟨p1.toInt.toNat, by omega⟩
            obtain ⟨l, el⟩ : ∃ l : Nat, p2.toInt = (l : Int) := ⟨p2.toInt.toNat, by omega⟩
            have e1 : p1 = Int32.ofNat k := ofN_m ek (by omega)
            have e2 : p2 = Int32.ofNat l := ofN_m el (by omega)
            have e3 : (31 : Int32) * Int32.ofNat k + Int32.ofNat l = Int32.ofNat (31 * k + l) := by
              rw [Int32.ofNat_add, Int32.ofNat_mul]
              rfl
            rw [ek, el, e1, e2, e3, Int32.toInt_ofNat_of_lt (by omega)]
            omega
          have er : r = (md_i M 0 0, M.2.1 68 (31 * p1.toInt.toNat + p2.toInt.toNat)) := by
            rw [← Option.some.inj hq, ei]
          refine ⟨by rw [er], ch (body ?_)⟩
          rw [if_pos c3']
          refine wq_gr (x := some tx) v1 rfl ?_
          refine wq_gr (x := some fA) v1 rfl ?_
          refine wq_ld v2 a1 (by omega) ?_
          have e6 : (f1 p1.toInt.toNat + p2).toInt = (f1 p1.toInt.toNat).toInt + p2.toInt := i_addS (by omega)
          refine wq_ld hx (by omega) (by omega) ?_
          refine ⟨_, rfl, ?_⟩
          rw [er]
          show tf (f1 p1.toInt.toNat + p2).toInt.toNat = M.2.1 68 (31 * p1.toInt.toNat + p2.toInt.toNat)
          rw [← w6 p2.toInt.toNat (by omega)]
          congr 1
          omega
        · rw [if_neg c3] at hq
          have er : r = (md_i M 0 0, -1) := (Option.some.inj hq).symm
          refine ⟨by rw [er], ch (body ?_)⟩
          rw [if_neg (by rw [w1]; exact c3)]
          exact ⟨_, rfl, by rw [er]⟩
    · rw [if_neg c1] at hq
      have er : r = (md_i M 0 0, -1) := (Option.some.inj hq).symm
      refine ⟨by rw [er], ch ?_⟩
      delta hm_NM_character
      rw [if_neg c0]
      refine wq_gi (x := Int32.ofNat sg) v1 rfl ?_
      rw [if_neg c1]
      exact ⟨_, rfl, by rw [er]⟩
end LKD
