/-! explore: no program, a program too large -/
section XPL
variable {G : hg_E} {S : hg_S} {M : md_S} {T : tT} {t0 u n ps sg io pa o t : Nat} {R : Nat → Nat → Int32} {c : Nat → Int32} {X : Nat → Nat → Int32} {cn : Nat → Int32} {hf sf : Nat → Int32} {nn f st en rn ex la x1 p1 p2 : Int32} {ta tn : Value}
theorem np_explore (he : hg_at S.1 o = some (.inr (0, enL t nn f .null .null .null .null st en rn ta tn ex la))) (hz : zI M) (rm : 1 ≤ S.2.2.1 ∧ 6 ≤ S.2.2.2) {r : md_S × Int32} (hq : mm_explore M = some r) : r = (md_i M 0 1, 0) ∧ dc_wp (hm_SE_explore G S o) (fun z => z = .inr ((S.1, S.2.1 + 1, S.2.2.1 - 1, S.2.2.2 - 6), S.2.1, false)) := by
  refine ⟨?_, ?_⟩
  · delta mm_explore mm_explore_L13 at hq
    rw [if_pos hz.1.1, fl_1] at hq
    exact (Option.some.inj hq).symm
  · delta hm_SE_explore
    refine wq_gr (x := none) he rfl ?_
    rw [if_pos rfl, if_pos rm]
    exact ⟨_, rfl, rfl⟩
/-- a program that may be explored -/
def xpO (M : md_S) : Prop := ¬ 8 < (M.1 47).toInt ∧ ¬ 4 < (M.1 45).toInt ∧ ¬ 300 < (M.1 48).toInt ∧ ¬ 300 < (M.1 43).toInt
theorem cbe_w (hl : LDp G S M u t0 T n ps sg io pa R c X cn hf sf) : dc_wp (hm_PG_canBeExplored G S u) (fun v => (v = 1 ∧ xpO M) ∨ (v = 0 ∧ ¬ xpO M)) := by
  obtain ⟨⟨hpg, -, -⟩, -⟩ := hl
  obtain ⟨⟨nm, hnm, hp⟩, hre, ⟨e42, e43, e44, k1, k2, k3, k4, k5, e456, e47⟩, -⟩ := hpg
  have t8 : (8 : Int32).toInt = 8 := by decide
  have t4 : (4 : Int32).toInt = 4 := by decide
  have t3 : (300 : Int32).toInt = 300 := by decide
  have no : ∀ h : ¬ xpO M, dc_wp (hm_PG_canBeExplored_L44 G S u) (fun v => (v = 1 ∧ xpO M) ∨ (v = 0 ∧ ¬ xpO M)) := by
    intro h
    delta hm_PG_canBeExplored_L44 hm_PG_canBeExplored_L45
    exact zb_s (Or.inl rfl) ⟨_, rfl, Or.inr ⟨rfl, h⟩⟩
  delta hm_PG_canBeExplored
  refine wq_gi (x := c 3) hp.1 rfl ?_
  rw [k3]
  refine wq_if (fun a => no (fun h => ?_)) (fun a => ?_)
  · have a := i_lt.mp a
    rw [t8] at a
    exact h.1 a
  refine wq_gi (x := c 1) hp.1 rfl ?_
  rw [k1]
  refine wq_if (fun b => no (fun h => ?_)) (fun b => ?_)
  · have b := i_lt.mp b
    rw [t4] at b
    exact h.2.1 b
  refine wq_gr (x := some (u + 1)) hp.1 rfl ?_
  refine wq_gi (x := Int32.ofNat ps) hp.2.1 rfl ?_
  rw [← e43]
  refine wq_if (fun d => no (fun h => ?_)) (fun d => ?_)
  · have d := i_lt.mp d
    rw [t3] at d
    exact h.2.2.2 d
  refine wq_gi (x := c 4) hp.1 rfl ?_
  rw [k4]
  refine wq_if (fun e => no (fun h => ?_)) (fun e => ?_)
  · have e := i_lt.mp e
    rw [t3] at e
    exact h.2.2.1 e
  delta hm_PG_canBeExplored_L45
  refine zb_s (Or.inr rfl) ⟨_, rfl, Or.inl ⟨rfl, fun z => a (i_lt.mpr (by rw [t8]; exact z)), fun z => b (i_lt.mpr (by rw [t4]; exact z)), fun z => e (i_lt.mpr (by rw [t3]; exact z)), fun z => d (i_lt.mpr (by rw [t3]; exact z))⟩⟩
theorem xp_large (he : hg_at S.1 o = some (.inr (0, enL t nn f (.ref u) (.ref (u + 18)) (.ref (u + 30)) (.ref (u + 31)) st en rn ta tn ex la))) (hl : LDp G S M u t0 T n ps sg io pa R c X cn hf sf) (h41 : M.1 41 = 1) (hx : ¬ xpO M) {r : md_S × Int32} (hq : mm_explore M = some r) : r = (md_i M 0 0, -1) ∧ dc_wp (hm_SE_explore G S o) (fun z => z = .inl (S, -1)) := by
  have t8 : (8 : Int32).toInt = 8 := by decide
  have t4 : (4 : Int32).toInt = 4 := by decide
  have t3 : (300 : Int32).toInt = 300 := by decide
  have hp := hl.1.1.1
  obtain ⟨nm, hnm, hp⟩ := hp
  have mi : ∀ i, ¬ i = 0 → (md_i M 0 0).1 i = M.1 i := fun i hi => by rw [md_i1, if_neg hi]
  refine ⟨?_, ?_⟩
  · have f0 : mm_fails M 0 0 = some (md_i M 0 0, 0) := by
      delta mm_fails mm_fails_L18 mm_fails_L33
      rw [if_pos rfl, if_pos rfl]
      rfl
    delta mm_explore mm_explore_L13 at hq
    rw [if_neg (by rw [h41]; decide), f0] at hq
    have hq : (if (8 : Int32) < ((md_i M 0 0).1 47) then (mm_explore_L59 (md_i M 0 0)) else (if (4 : Int32) < ((md_i M 0 0).1 45) then (mm_explore_L59 (md_i M 0 0)) else (if (300 : Int32) < ((md_i M 0 0).1 48) then (mm_explore_L59 (md_i M 0 0)) else (if (300 : Int32) < ((md_i M 0 0).1 43) then (mm_explore_L59 (md_i M 0 0)) else (if ((md_i M 0 0).1 85) = 0 then (if ((md_i M 0 0).1 77) = 0 then (mm_explore_L87 (md_i M 0 0) 0) else (mm_explore_L87 (md_i M 0 0) 256)) else (some ((md_i M 0 0), ((md_i M 0 0).1 87)))))))) = some r := hq
    rw [mi 47 (by decide), mi 45 (by decide), mi 48 (by decide), mi 43 (by decide)] at hq
    rcases iv_if hq with ⟨-, hq⟩ | ⟨a, hq⟩
    · exact (Option.some.inj hq).symm
    rcases iv_if hq with ⟨-, hq⟩ | ⟨b, hq⟩
    · exact (Option.some.inj hq).symm
    rcases iv_if hq with ⟨-, hq⟩ | ⟨d, hq⟩
    · exact (Option.some.inj hq).symm
    rcases iv_if hq with ⟨-, hq⟩ | ⟨e, hq⟩
    · exact (Option.some.inj hq).symm
    exact absurd ⟨fun z => a (i_lt.mpr (by rw [t8]; exact z)), fun z => b (i_lt.mpr (by rw [t4]; exact z)), fun z => d (i_lt.mpr (by rw [t3]; exact z)), fun z => e (i_lt.mpr (by rw [t3]; exact z))⟩ hx
  · delta hm_SE_explore
    refine wq_gr (x := some u) he rfl ?_
    rw [if_neg (fun z => by cases z)]
    refine wq_gr (x := some u) he rfl ?_
    refine wq_chk hp.1 ?_
    refine wq_call (cbe_w hl) (fun v hv => ?_)
    rcases hv with ⟨-, hv⟩ | ⟨hv, -⟩
    · exact absurd hv hx
    · rw [if_pos hv]
      exact ⟨_, rfl, rfl⟩
end XPL
