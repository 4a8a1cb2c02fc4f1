/-! an engine without a program -/
section NPR
variable {G : hg_E} {S : hg_S} {M : md_S} {o t : Nat} {nn f st en rn ex la x1 p1 p2 : Int32} {ta tn : Value}
theorem np_node (he : hg_at S.1 o = some (.inr (0, enL t nn f .null .null .null .null st en rn ta tn ex la))) (hz : zI M) {r : md_S × Int32} (hq : mm_node_II M p1 p2 = some r) : r.1 = md_i M 0 0 ∧ dc_wp (hm_SE_node G S o p1 p2) (fun v => v = r.2) := by
  have m : (md_i M 0 0).1 42 = 0 := by rw [md_i1, if_neg (by decide)]; exact hz.1.2.1
  have er : r = (md_i M 0 0, -1) := by
    delta mm_node_II mm_node_II_L17 dc_let at hq
    dsimp only at hq
    by_cases c0 : p1 < 0
    · rw [if_pos c0] at hq; exact (Option.some.inj hq).symm
    · rw [if_neg c0, m, if_neg c0] at hq; exact (Option.some.inj hq).symm
  refine ⟨by rw [er], ?_⟩
  delta hm_SE_node
  refine wq_gr (x := none) he rfl ?_
  rw [if_pos rfl]
  exact ⟨_, rfl, by rw [er]⟩
theorem np_piece (he : hg_at S.1 o = some (.inr (0, enL t nn f .null .null .null .null st en rn ta tn ex la))) (hz : zI M) {r : md_S × Int32} (hq : mm_piece_II M p1 p2 = some r) : r.1 = md_i M 0 0 ∧ dc_wp (hm_SE_piece G S o p1 p2) (fun v => v = r.2) := by
  have m : (md_i M 0 0).1 43 = 0 := by rw [md_i1, if_neg (by decide)]; exact hz.1.2.2.1
  have er : r = (md_i M 0 0, -1) := by
    delta mm_piece_II mm_piece_II_L17 dc_let at hq
    dsimp only at hq
    by_cases c0 : p1 < 0
    · rw [if_pos c0] at hq; exact (Option.some.inj hq).symm
    · rw [if_neg c0, m, if_neg c0] at hq; exact (Option.some.inj hq).symm
  refine ⟨by rw [er], ?_⟩
  delta hm_SE_piece
  refine wq_gr (x := none) he rfl ?_
  rw [if_pos rfl]
  exact ⟨_, rfl, by rw [er]⟩
theorem np_letter (he : hg_at S.1 o = some (.inr (0, enL t nn f .null .null .null .null st en rn ta tn ex la))) (hz : zI M) {r : md_S × Int32} (hq : mm_letter_II M p1 p2 = some r) : r.1 = md_i M 0 0 ∧ dc_wp (hm_SE_letter G S o p1 p2) (fun v => v = r.2) := by
  have m : (md_i M 0 0).1 44 = 0 := by rw [md_i1, if_neg (by decide)]; exact hz.1.2.2.2.1
  have er : r = (md_i M 0 0, -1) := by
    delta mm_letter_II mm_letter_II_L31 mm_letter_II_L46 dc_let at hq
    dsimp only at hq
    by_cases c0 : p1 < 0
    · rw [if_pos c0] at hq; exact (Option.some.inj hq).symm
    · rw [if_neg c0, m, if_neg c0] at hq; exact (Option.some.inj hq).symm
  refine ⟨by rw [er], ?_⟩
  delta hm_SE_letter
  refine wq_gr (x := none) he rfl ?_
  rw [if_pos rfl]
  exact ⟨_, rfl, by rw [er]⟩
theorem np_status (he : hg_at S.1 o = some (.inr (0, enL t nn f .null .null .null .null st en rn ta tn ex la))) (hz : zI M) {r : md_S × Int32} (hq : mm_status M p1 = some r) : r.1 = md_i M 0 0 ∧ dc_wp (hm_SE_status G S o p1) (fun v => v = r.2) := by
  have m : (md_i M 0 0).1 45 + (md_i M 0 0).1 46 = 0 := by
    rw [md_i1, if_neg (by decide), md_i1, if_neg (by decide), hz.1.2.2.2.2.1, hz.1.2.2.2.2.2.1]
    decide
  have er : r = (md_i M 0 0, 0) := by
    delta mm_status mm_status_L29 mm_status_L39 dc_let at hq
    dsimp only at hq
    by_cases c0 : p1 < 0
    · rw [if_pos c0] at hq; exact (Option.some.inj hq).symm
    · rw [if_neg c0, m, if_neg c0] at hq; exact (Option.some.inj hq).symm
  refine ⟨by rw [er], ?_⟩
  delta hm_SE_status
  refine wq_gr (x := none) he rfl ?_
  rw [if_pos rfl]
  exact ⟨_, rfl, by rw [er]⟩
theorem np_selected (he : hg_at S.1 o = some (.inr (0, enL t nn f .null .null .null .null st en rn ta tn ex la))) (hz : zI M) {r : md_S × Int32} (hq : mm_selected M p1 = some r) : r.1 = md_i M 0 0 ∧ dc_wp (hm_SE_selected G S o p1) (fun v => v = r.2) := by
  have m : (md_i M 0 0).1 47 = 0 := by rw [md_i1, if_neg (by decide)]; exact hz.1.2.2.2.2.2.2.1
  have z0 : dc_zb 0 = some () := if_pos (Or.inl rfl)
  have er : r = (md_i M 0 0, 0) := by
    delta mm_selected mm_selected_L30 mm_selected_L31 dc_let at hq
    dsimp only at hq
    by_cases c0 : p1 < 0
    · rw [if_pos c0, z0] at hq; exact (Option.some.inj hq).symm
    · rw [if_neg c0, m, if_neg c0, z0] at hq; exact (Option.some.inj hq).symm
  refine ⟨by rw [er], ?_⟩
  delta hm_SE_selected hm_SE_selected_L40 hm_SE_selected_L41
  refine wq_gr (x := none) he rfl ?_
  rw [if_pos rfl, z0]
  exact ⟨_, rfl, by rw [er]⟩
theorem np_restart (he : hg_at S.1 o = some (.inr (0, enL t nn f .null .null .null .null st en rn ta tn ex la))) (hz : zI M) (rm : 1 ≤ S.2.2.1 ∧ 6 ≤ S.2.2.2) {r : md_S × Int32} (hq : mm_restart M = some r) : r = (md_i M 0 1, 0) ∧ dc_wp (hm_SE_restart G S o) (fun z => z = .inr ((S.1, S.2.1 + 1, S.2.2.1 - 1, S.2.2.2 - 6), S.2.1, false)) := by
  have f1 : mm_fails M 1 0 = some (md_i M 0 1, 1) := by
    delta mm_fails mm_fails_L18 mm_fails_L33
    rw [if_neg (by decide)]
    rfl
  refine ⟨?_, ?_⟩
  · delta mm_restart mm_restart_L13 at hq
    rw [if_pos hz.1.1, f1] at hq
    have hq : (if (1 : Int32) = 0 then ((mm_rest (md_i M 0 1)).bind fun q3 => (mm_place q3 256).bind fun q4 => some (md_i q4 82 1, (md_i M 0 1).1 83)) else some (md_i M 0 1, 0)) = some r := hq
    rw [if_neg (by decide)] at hq
    exact (Option.some.inj hq).symm
  · delta hm_SE_restart
    refine wq_gr (x := none) he rfl ?_
    rw [if_pos rfl, if_pos rm]
    exact ⟨_, rfl, rfl⟩
theorem np_instant (he : hg_at S.1 o = some (.inr (0, enL t nn f .null .null .null .null st en rn ta tn ex la))) (hz : zI M) (rm : 1 ≤ S.2.2.1 ∧ 6 ≤ S.2.2.2) {r : md_S × Int32} (hq : mm_instant M x1 = some r) : r = (md_i M 0 1, 0) ∧ dc_wp (hm_SE_instant G S o x1) (fun z => z = .inr ((S.1, S.2.1 + 1, S.2.2.1 - 1, S.2.2.2 - 6), S.2.1, false)) := by
  have f1 : mm_fails M 1 0 = some (md_i M 0 1, 1) := by
    delta mm_fails mm_fails_L18 mm_fails_L33
    rw [if_neg (by decide)]
    rfl
  refine ⟨?_, ?_⟩
  · delta mm_instant mm_instant_L13 mm_instant_L24 mm_instant_L40 mm_instant_L41 at hq
    rw [if_neg (by rw [hz.1.2.2.2.2.2.2.2.2.2.2.1]; decide), if_pos rfl, if_pos rfl, f1] at hq
    have hq : (if (1 : Int32) = 0 then (mm_react (md_i M 0 1) x1).bind (fun q12 => mm_instant_L58 q12.1 q12.2 0) else some (md_i M 0 1, 0)) = some r := hq
    rw [if_neg (by decide)] at hq
    exact (Option.some.inj hq).symm
  · delta hm_SE_instant hm_SE_instant_L14
    refine wq_gr (x := none) he rfl ?_
    rw [if_pos rfl, if_pos rm]
    exact ⟨_, rfl, rfl⟩
theorem np_count (he : hg_at S.1 o = some (.inr (0, enL t nn f .null .null .null .null st en rn ta tn ex la))) (hz : zI M) (h2 : nn = M.1 2) {r : md_S × Int32} (hq : mm_count M p1 = some r) : r.1 = md_i M 0 0 ∧ dc_wp (hm_SE_count G S o p1) (fun v => v = r.2) := by
  obtain ⟨⟨z41, z42, z43, z44, z45, z46, z47, z48, z49, z77, z82, z83, z85, z86, z87, z106⟩, -⟩ := hz
  have mi : ∀ i, ¬ i = 0 → (md_i M 0 0).1 i = M.1 i := fun i hi => by rw [md_i1, if_neg hi]
  delta mm_count dc_let at hq
  dsimp only at hq
  delta hm_SE_count
  have zero : r = (md_i M 0 0, 0) → ¬ p1 < 0 → ¬ (15 : Int32) < p1 → ¬ p1 = 9 → r.1 = md_i M 0 0 ∧ dc_wp (if p1 < 0 then (hm_SE_count_L10 G S o) else (if (15 : Int32) < p1 then (hm_SE_count_L10 G S o) else (if p1 = 9 then ((hg_gi S (some o) 0 1).bind fun e1 => some e1) else ((hg_gr S (some o) 0 3).bind fun e2 => if e2 = none then (some 0) else (if p1 < 9 then ((hg_gr S (some o) 0 3).bind fun e3 => (hg_chk S e3 9).bind fun b4 => (hm_PG_figure G S b4 p1).bind fun q7 => hm_SE_count_L54 G S o q7) else ((hg_chk S (some o) 0).bind fun b8 => (hm_SE_figure G S b8 p1).bind fun q11 => hm_SE_count_L54 G S o q11)))))) (fun v => v = r.2) := by
    intro er c0 c1 c9
    refine ⟨by rw [er], ?_⟩
    rw [if_neg c0, if_neg c1, if_neg c9]
    refine wq_gr (x := none) he rfl ?_
    rw [if_pos rfl]
    exact ⟨_, rfl, by rw [er]⟩
  by_cases d0 : p1 = 0
  · rw [if_pos d0] at hq
    exact zero (by rw [← Option.some.inj hq, mi 42 (by decide), z42]) (by rw [d0]; decide) (by rw [d0]; decide) (by rw [d0]; decide)
  by_cases d1 : p1 = 1
  · rw [if_neg d0, if_pos d1] at hq
    exact zero (by rw [← Option.some.inj hq, mi 43 (by decide), z43]) (by rw [d1]; decide) (by rw [d1]; decide) (by rw [d1]; decide)
  by_cases d2 : p1 = 2
  · rw [if_neg d0, if_neg d1, if_pos d2] at hq
    exact zero (by rw [← Option.some.inj hq, mi 45 (by decide), z45]) (by rw [d2]; decide) (by rw [d2]; decide) (by rw [d2]; decide)
  by_cases d3 : p1 = 3
  · rw [if_neg d0, if_neg d1, if_neg d2, if_pos d3] at hq
    exact zero (by rw [← Option.some.inj hq, mi 46 (by decide), z46]) (by rw [d3]; decide) (by rw [d3]; decide) (by rw [d3]; decide)
  by_cases d4 : p1 = 4
  · rw [if_neg d0, if_neg d1, if_neg d2, if_neg d3, if_pos d4] at hq
    exact zero (by rw [← Option.some.inj hq, mi 44 (by decide), mi 45 (by decide), mi 46 (by decide), z44, z45, z46]; rfl) (by rw [d4]; decide) (by rw [d4]; decide) (by rw [d4]; decide)
  by_cases d5 : p1 = 5
  · rw [if_neg d0, if_neg d1, if_neg d2, if_neg d3, if_neg d4, if_pos d5] at hq
    exact zero (by rw [← Option.some.inj hq, mi 47 (by decide), z47]) (by rw [d5]; decide) (by rw [d5]; decide) (by rw [d5]; decide)
  by_cases d6 : p1 = 6
  · rw [if_neg d0, if_neg d1, if_neg d2, if_neg d3, if_neg d4, if_neg d5, if_pos d6] at hq
    exact zero (by rw [← Option.some.inj hq, mi 48 (by decide), z48]) (by rw [d6]; decide) (by rw [d6]; decide) (by rw [d6]; decide)
  by_cases d7 : p1 = 7
  · rw [if_neg d0, if_neg d1, if_neg d2, if_neg d3, if_neg d4, if_neg d5, if_neg d6, if_pos d7] at hq
    exact zero (by rw [← Option.some.inj hq, mi 49 (by decide), z49]) (by rw [d7]; decide) (by rw [d7]; decide) (by rw [d7]; decide)
  by_cases d8 : p1 = 8
  · rw [if_neg d0, if_neg d1, if_neg d2, if_neg d3, if_neg d4, if_neg d5, if_neg d6, if_neg d7, if_pos d8] at hq
    exact zero (by rw [if_pos (by rw [mi 41 (by decide)]; exact z41)] at hq; exact (Option.some.inj hq).symm) (by rw [d8]; decide) (by rw [d8]; decide) (by rw [d8]; decide)
  by_cases d9 : p1 = 9
  · rw [if_neg d0, if_neg d1, if_neg d2, if_neg d3, if_neg d4, if_neg d5, if_neg d6, if_neg d7, if_neg d8, if_pos d9] at hq
    have er : r = (md_i M 0 0, M.1 2) := by rw [← Option.some.inj hq, mi 2 (by decide)]
    refine ⟨by rw [er], ?_⟩
    rw [if_neg (by rw [d9]; decide), if_neg (by rw [d9]; decide), if_pos d9]
    refine wq_gi (x := nn) he rfl ?_
    exact ⟨_, rfl, by rw [er]; exact h2⟩
  by_cases d10 : p1 = 10
  · rw [if_neg d0, if_neg d1, if_neg d2, if_neg d3, if_neg d4, if_neg d5, if_neg d6, if_neg d7, if_neg d8, if_neg d9, if_pos d10] at hq
    exact zero (by rw [← Option.some.inj hq, mi 83 (by decide), z83]) (by rw [d10]; decide) (by rw [d10]; decide) (by rw [d10]; decide)
  by_cases d11 : p1 = 11
  · rw [if_neg d0, if_neg d1, if_neg d2, if_neg d3, if_neg d4, if_neg d5, if_neg d6, if_neg d7, if_neg d8, if_neg d9, if_neg d10, if_pos d11] at hq
    exact zero (by rw [← Option.some.inj hq, mi 82 (by decide), z82]) (by rw [d11]; decide) (by rw [d11]; decide) (by rw [d11]; decide)
  by_cases d12 : p1 = 12
  · rw [if_neg d0, if_neg d1, if_neg d2, if_neg d3, if_neg d4, if_neg d5, if_neg d6, if_neg d7, if_neg d8, if_neg d9, if_neg d10, if_neg d11, if_pos d12] at hq
    exact zero (cn_173 (pa := 0) (by omega) (by rw [mi 47 (by decide), z47]; rfl) hq) (by rw [d12]; decide) (by rw [d12]; decide) (by rw [d12]; decide)
  by_cases d13 : p1 = 13
  · rw [if_neg d0, if_neg d1, if_neg d2, if_neg d3, if_neg d4, if_neg d5, if_neg d6, if_neg d7, if_neg d8, if_neg d9, if_neg d10, if_neg d11, if_neg d12, if_pos d13] at hq
    exact zero (by rw [if_pos (by rw [mi 85 (by decide)]; exact z85)] at hq; exact (Option.some.inj hq).symm) (by rw [d13]; decide) (by rw [d13]; decide) (by rw [d13]; decide)
  by_cases d14 : p1 = 14
  · rw [if_neg d0, if_neg d1, if_neg d2, if_neg d3, if_neg d4, if_neg d5, if_neg d6, if_neg d7, if_neg d8, if_neg d9, if_neg d10, if_neg d11, if_neg d12, if_neg d13, if_pos d14] at hq
    exact zero (by
      delta mm_count_L224 at hq
      obtain ⟨z, hz, hq⟩ := iv_bind hq
      have hz0 : z = 0 := by
        rw [dc_it_eq] at hz
        obtain ⟨s, hs, hz⟩ := iv_bind hz
        have hs : mm_count_b224 (md_i M 0 0) 0 0 = some s := hs
        delta mm_count_b224 at hs
        rcases iv_if hs with ⟨-, hs⟩ | ⟨-, hs⟩
        · rw [if_pos (by rw [mi 85 (by decide)]; exact z85)] at hs
          rw [← Option.some.inj hs] at hz
          exact (Option.some.inj hz).symm
        · rw [← Option.some.inj hs] at hz
          exact (Option.some.inj hz).symm
      rw [← Option.some.inj hq, hz0]) (by rw [d14]; decide) (by rw [d14]; decide) (by rw [d14]; decide)
  by_cases d15 : p1 = 15
  · rw [if_neg d0, if_neg d1, if_neg d2, if_neg d3, if_neg d4, if_neg d5, if_neg d6, if_neg d7, if_neg d8, if_neg d9, if_neg d10, if_neg d11, if_neg d12, if_neg d13, if_neg d14, if_pos d15] at hq
    exact zero (by rw [if_pos (by rw [mi 86 (by decide)]; exact z86)] at hq; exact (Option.some.inj hq).symm) (by rw [d15]; decide) (by rw [d15]; decide) (by rw [d15]; decide)
  rw [if_neg d0, if_neg d1, if_neg d2, if_neg d3, if_neg d4, if_neg d5, if_neg d6, if_neg d7, if_neg d8, if_neg d9, if_neg d10, if_neg d11, if_neg d12, if_neg d13, if_neg d14, if_neg d15] at hq
  have er : r = (md_i M 0 0, -1) := (Option.some.inj hq).symm
  refine ⟨by rw [er], ?_⟩
  by_cases c0 : p1 < 0
  · rw [if_pos c0]
    exact ⟨_, rfl, by rw [er]⟩
  · rw [if_neg c0]
    by_cases c1 : (15 : Int32) < p1
    · rw [if_pos c1]
      exact ⟨_, rfl, by rw [er]⟩
    · exfalso
      have a0 : ¬ p1.toInt < (0 : Int32).toInt := fun z => c0 (i_lt.mpr z)
      have a1 : ¬ (15 : Int32).toInt < p1.toInt := fun z => c1 (i_lt.mpr z)
      rw [show (0 : Int32).toInt = 0 by decide] at a0
      rw [show (15 : Int32).toInt = 15 by decide] at a1
      obtain ⟨j, ej⟩ : ∃ j : Nat, p1.toInt = (j : Int) := ⟨p1.toInt.toNat, by omega⟩
      have ep : p1 = Int32.ofNat j := ofN_m ej (by omega)
      have hj : j = 0 ∨ j = 1 ∨ j = 2 ∨ j = 3 ∨ j = 4 ∨ j = 5 ∨ j = 6 ∨ j = 7 ∨ j = 8 ∨ j = 9 ∨ j = 10 ∨ j = 11 ∨ j = 12 ∨ j = 13 ∨ j = 14 ∨ j = 15 := by omega
      rcases hj with e | e | e | e | e | e | e | e | e | e | e | e | e | e | e | e <;> subst e
      · exact d0 ep
      · exact d1 ep
      · exact d2 ep
      · exact d3 ep
      · exact d4 ep
      · exact d5 ep
      · exact d6 ep
      · exact d7 ep
      · exact d8 ep
      · exact d9 ep
      · exact d10 ep
      · exact d11 ep
      · exact d12 ep
      · exact d13 ep
      · exact d14 ep
      · exact d15 ep
end NPR
