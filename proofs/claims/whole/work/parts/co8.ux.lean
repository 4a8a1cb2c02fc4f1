/-! an engine that has not explored, or not laid -/
section UXP
variable {G : hg_E} {S : hg_S} {M : md_S} {o t : Nat} {nn f st en rn ex la x1 p1 p2 : Int32} {ta tn pg rc hd sh : Value}
theorem fl_1 (M : md_S) : mm_fails M 1 0 = some (md_i M 0 1, 1) := by
  delta mm_fails mm_fails_L18 mm_fails_L33
  rw [if_neg (by decide)]
  rfl
theorem pl_ux (h : M.1 85 = 0) (p : Int32) : mm_placeOf (md_i M 0 0) p = some (-1) := by
  delta mm_placeOf mm_placeOf_L16
  rw [if_pos (show (md_i M 0 0).1 85 = 0 by rw [md_i1, if_neg (by decide)]; exact h)]
theorem ux_distance (he : hg_at S.1 o = some (.inr (0, enL t nn f pg rc hd sh st en rn ta tn 0 la))) (h : M.1 85 = 0) {r : md_S × Int32} (hq : mm_distance M p1 = some r) : r.1 = md_i M 0 0 ∧ dc_wp (hm_SE_distance G S o p1) (fun v => v = r.2) := by
  have er : r = (md_i M 0 0, -1) := by
    delta mm_distance dc_let at hq
    dsimp only at hq
    rw [pl_ux h] at hq
    exact (Option.some.inj hq).symm
  refine ⟨by rw [er], ?_⟩
  delta hm_SE_distance
  refine wq_gi (x := 0) he rfl ?_
  rw [if_pos rfl]
  exact ⟨_, rfl, by rw [er]⟩
theorem ux_path (he : hg_at S.1 o = some (.inr (0, enL t nn f pg rc hd sh st en rn ta tn 0 la))) (h : M.1 85 = 0) {r : md_S × Int32} (hq : mm_path M p1 p2 = some r) : r.1 = md_i M 0 0 ∧ dc_wp (hm_SE_path G S o p1 p2) (fun v => v = r.2) := by
  have er : r = (md_i M 0 0, -1) := by
    delta mm_path dc_let at hq
    dsimp only at hq
    rw [pl_ux h] at hq
    exact (Option.some.inj hq).symm
  refine ⟨by rw [er], ?_⟩
  delta hm_SE_path
  refine wq_gi (x := 0) he rfl ?_
  rw [if_pos rfl]
  exact ⟨_, rfl, by rw [er]⟩
theorem ux_alike (he : hg_at S.1 o = some (.inr (0, enL t nn f pg rc hd sh st en rn ta tn 0 la))) (h : M.1 85 = 0) {r : md_S × Int32} (hq : mm_alike M p1 = some r) : r.1 = md_i M 0 0 ∧ dc_wp (hm_SE_alike G S o p1) (fun v => v = r.2) := by
  have er : r = (md_i M 0 0, -1) := by
    delta mm_alike dc_let at hq
    dsimp only at hq
    rw [pl_ux h] at hq
    exact (Option.some.inj hq).symm
  refine ⟨by rw [er], ?_⟩
  delta hm_SE_alike
  refine wq_gi (x := 0) he rfl ?_
  rw [if_pos rfl]
  exact ⟨_, rfl, by rw [er]⟩
theorem ux_doubt (he : hg_at S.1 o = some (.inr (0, enL t nn f pg rc hd sh st en rn ta tn 0 la))) (h : M.1 85 = 0) {r : md_S × Int32} (hq : mm_doubt M p1 = some r) : r.1 = md_i M 0 0 ∧ dc_wp (hm_SE_doubt G S o p1) (fun v => v = r.2) := by
  have h' : (md_i M 0 0).1 85 = 0 := by rw [md_i1, if_neg (by decide)]; exact h
  have er : r = (md_i M 0 0, -1) := by
    delta mm_doubt mm_doubt_L12 dc_let at hq
    dsimp only at hq
    obtain ⟨z, hz, hq⟩ := iv_bind hq
    have hz0 : z = (-1, 0) := by
      rw [dc_it_eq] at hz
      obtain ⟨s, hs, hz⟩ := iv_bind hz
      have hs : mm_doubt_b12 (md_i M 0 0) p1 (-1) 0 0 = some s := hs
      delta mm_doubt_b12 at hs
      rcases iv_if hs with ⟨-, hs⟩ | ⟨-, hs⟩
      · rw [if_pos h'] at hs
        rw [← Option.some.inj hs] at hz
        exact (Option.some.inj hz).symm
      · rw [← Option.some.inj hs] at hz
        exact (Option.some.inj hz).symm
    rw [hz0] at hq
    have hq : mm_doubt_L148 (md_i M 0 0) p1 (-1) 0 = some r := hq
    delta mm_doubt_L148 at hq
    rw [if_pos rfl] at hq
    exact (Option.some.inj hq).symm
  refine ⟨by rw [er], ?_⟩
  delta hm_SE_doubt
  refine wq_gi (x := 0) he rfl ?_
  rw [if_pos rfl]
  exact ⟨_, rfl, by rw [er]⟩
theorem ux_tog_c (he : hg_at S.1 o = some (.inr (0, enL t nn f pg rc hd sh st en rn ta tn 0 la))) : dc_wp (hm_SE_together G S o p1 p2) (fun v => v = -1) := by
  delta hm_SE_together
  refine wq_gi (x := 0) he rfl ?_
  rw [if_pos rfl]
  exact ⟨_, rfl, rfl⟩
theorem ux_together (he : hg_at S.1 o = some (.inr (0, enL t nn f pg rc hd sh st en rn ta tn 0 la))) (h : M.1 85 = 0) {r : md_S × Int32} (hq : mm_together M p1 p2 = some r) : r.1 = md_i M 0 0 ∧ dc_wp (hm_SE_together G S o p1 p2) (fun v => v = r.2) := by
  have h' : (md_i M 0 0).1 85 = 0 := by rw [md_i1, if_neg (by decide)]; exact h
  have er : r = (md_i M 0 0, -1) := by
    delta mm_together mm_together_L44 mm_together_L49 mm_together_L69 dc_let at hq
    dsimp only at hq
    rw [if_pos h', if_neg (by decide)] at hq
    exact (Option.some.inj hq).symm
  refine ⟨by rw [er], ?_⟩
  rw [er]
  exact ux_tog_c he
theorem ux_ever (he : hg_at S.1 o = some (.inr (0, enL t nn f pg rc hd sh st en rn ta tn 0 la))) (h : M.1 85 = 0) {r : md_S × Int32} (hq : mm_ever M p1 = some r) : r.1 = md_i M 0 0 ∧ dc_wp (hm_SE_ever G S o p1) (fun v => v = r.2) := by
  have h' : (md_i M 0 0).1 85 = 0 := by rw [md_i1, if_neg (by decide)]; exact h
  have er : r = (md_i M 0 0, -1) := by
    delta mm_ever mm_ever_L32 dc_let at hq
    dsimp only at hq
    rw [if_pos h'] at hq
    exact (Option.some.inj hq).symm
  refine ⟨by rw [er], ?_⟩
  delta hm_SE_ever
  refine wq_chk he ?_
  refine wq_call (ux_tog_c he) (fun q hq => ?_)
  rw [if_pos hq]
  delta hm_SE_ever_L16
  exact ⟨_, rfl, by rw [er]; exact hq⟩
theorem ux_next (he : hg_at S.1 o = some (.inr (0, enL t nn f pg rc hd sh st en rn ta tn 0 la))) (h : M.1 85 = 0) (rm : 1 ≤ S.2.2.1 ∧ 6 ≤ S.2.2.2) {r : md_S × Int32} (hq : mm_next M p1 p2 = some r) : r = (md_i M 0 1, 0) ∧ dc_wp (hm_SE_next G S o p1 p2) (fun z => z = .inr ((S.1, S.2.1 + 1, S.2.2.1 - 1, S.2.2.2 - 6), S.2.1, false)) := by
  refine ⟨?_, ?_⟩
  · delta mm_next mm_next_L13 mm_next_L34 at hq
    rw [if_pos h, fl_1] at hq
    exact (Option.some.inj hq).symm
  · delta hm_SE_next
    refine wq_gi (x := 0) he rfl ?_
    rw [if_pos rfl, if_pos rm]
    exact ⟨_, rfl, rfl⟩
theorem ux_shows (he : hg_at S.1 o = some (.inr (0, enL t nn f pg rc hd sh st en rn ta tn 0 la))) (h : M.1 85 = 0) (rm : 1 ≤ S.2.2.1 ∧ 6 ≤ S.2.2.2) {r : md_S × Int32} (hq : mm_shows M p1 p2 = some r) : r = (md_i M 0 1, 0) ∧ dc_wp (hm_SE_shows G S o p1 p2) (fun z => z = .inr ((S.1, S.2.1 + 1, S.2.2.1 - 1, S.2.2.2 - 6), S.2.1, false)) := by
  refine ⟨?_, ?_⟩
  · delta mm_shows mm_shows_L13 mm_shows_L34 at hq
    rw [if_pos h, fl_1] at hq
    exact (Option.some.inj hq).symm
  · delta hm_SE_shows
    refine wq_gi (x := 0) he rfl ?_
    rw [if_pos rfl, if_pos rm]
    exact ⟨_, rfl, rfl⟩
theorem ux_classes (he : hg_at S.1 o = some (.inr (0, enL t nn f pg rc hd sh st en rn ta tn 0 la))) (h : M.1 85 = 0) (rm : 1 ≤ S.2.2.1 ∧ 6 ≤ S.2.2.2) {r : md_S × Int32} (hq : mm_classes M  = some r) : r = (md_i M 0 1, 0) ∧ dc_wp (hm_SE_classes G S o ) (fun z => z = .inr ((S.1, S.2.1 + 1, S.2.2.1 - 1, S.2.2.2 - 6), S.2.1, false)) := by
  refine ⟨?_, ?_⟩
  · delta mm_classes mm_classes_L13 at hq
    rw [if_pos h, fl_1] at hq
    exact (Option.some.inj hq).symm
  · delta hm_SE_classes
    refine wq_gi (x := 0) he rfl ?_
    rw [if_pos rfl, if_pos rm]
    exact ⟨_, rfl, rfl⟩
theorem ux_lay_0 (he : hg_at S.1 o = some (.inr (0, enL t nn f pg rc hd sh st en rn ta tn 0 la))) (h : M.1 85 = 0) (rm : 1 ≤ S.2.2.1 ∧ 6 ≤ S.2.2.2) {r : md_S × Int32} (hq : mm_lay_0 M  = some r) : r = (md_i M 0 1, 0) ∧ dc_wp (hm_SE_lay G S o ) (fun z => z = .inr ((S.1, S.2.1 + 1, S.2.2.1 - 1, S.2.2.2 - 6), S.2.1, false)) := by
  refine ⟨?_, ?_⟩
  · delta mm_lay_0 mm_lay_0_L13 at hq
    rw [if_pos h, fl_1] at hq
    exact (Option.some.inj hq).symm
  · delta hm_SE_lay
    refine wq_gi (x := 0) he rfl ?_
    rw [if_pos rfl, if_pos rm]
    exact ⟨_, rfl, rfl⟩
theorem ux_go (he : hg_at S.1 o = some (.inr (0, enL t nn f pg rc hd sh st en rn ta tn 0 la))) (h : M.1 85 = 0) (rm : 1 ≤ S.2.2.1 ∧ 6 ≤ S.2.2.2) {r : md_S} (hq : mm_go M p1 = some r) : r = md_i M 0 1 ∧ dc_wp (hm_SE_go G S o p1) (fun z => z = .inr ((S.1, S.2.1 + 1, S.2.2.1 - 1, S.2.2.2 - 6), S.2.1, false)) := by
  refine ⟨?_, ?_⟩
  · delta mm_go mm_go_L13 mm_go_L33 mm_go_L34 at hq
    rw [if_pos h, if_pos h, fl_1] at hq
    exact (Option.some.inj hq).symm
  · delta hm_SE_go
    refine wq_gi (x := 0) he rfl ?_
    rw [if_pos rfl, if_pos rm]
    exact ⟨_, rfl, rfl⟩
theorem ul_pass (he : hg_at S.1 o = some (.inr (0, enL t nn f pg rc hd sh st en rn ta tn ex 0))) (h : M.1 86 = 0) (rm : 1 ≤ S.2.2.1 ∧ 6 ≤ S.2.2.2) {r : md_S × Int64} (hq : mm_pass M p1 = some r) : r = (md_i M 0 1, 0) ∧ dc_wp (hm_SE_pass G S o p1) (fun z => z = .inr ((S.1, S.2.1 + 1, S.2.2.1 - 1, S.2.2.2 - 6), S.2.1, false)) := by
  refine ⟨?_, ?_⟩
  · delta mm_pass mm_pass_L13 mm_pass_L35 mm_pass_L36 at hq
    rw [if_pos h, if_pos h, fl_1] at hq
    exact (Option.some.inj hq).symm
  · delta hm_SE_pass
    refine wq_gi (x := 0) he rfl ?_
    rw [if_pos rfl, if_pos rm]
    exact ⟨_, rfl, rfl⟩
theorem ul_level (he : hg_at S.1 o = some (.inr (0, enL t nn f pg rc hd sh st en rn ta tn ex 0))) (h : M.1 86 = 0) {r : md_S × Int32} (hq : mm_level M p1 = some r) : r.1 = md_i M 0 0 ∧ dc_wp (hm_SE_level G S o p1) (fun v => v = r.2) := by
  have h' : (md_i M 0 0).1 86 = 0 := by rw [md_i1, if_neg (by decide)]; exact h
  have er : r = (md_i M 0 0, 0) := by
    delta mm_level mm_level_L9 dc_let at hq
    dsimp only at hq
    obtain ⟨z, hz, hq⟩ := iv_bind hq
    have hz0 : z = 0 := by
      rw [dc_it_eq] at hz
      obtain ⟨s, hs, hz⟩ := iv_bind hz
      have hs : mm_level_b9 (md_i M 0 0) p1 0 0 = some s := hs
      delta mm_level_b9 at hs
      rcases iv_if hs with ⟨-, hs⟩ | ⟨-, hs⟩
      · rw [if_pos h'] at hs
        rw [← Option.some.inj hs] at hz
        exact (Option.some.inj hz).symm
      · rw [← Option.some.inj hs] at hz
        exact (Option.some.inj hz).symm
    rw [hz0] at hq
    exact (Option.some.inj hq).symm
  refine ⟨by rw [er], ?_⟩
  delta hm_SE_level
  refine wq_gi (x := 0) he rfl ?_
  rw [if_pos rfl]
  exact ⟨_, rfl, by rw [er]⟩
theorem ul_size (he : hg_at S.1 o = some (.inr (0, enL t nn f pg rc hd sh st en rn ta tn ex 0))) (h : M.1 86 = 0) {r : md_S × Int32} (hq : mm_size M p1 = some r) : r.1 = md_i M 0 0 ∧ dc_wp (hm_SE_size G S o p1) (fun z => z = (S, r.2)) := by
  have h' : (md_i M 0 0).1 86 = 0 := by rw [md_i1, if_neg (by decide)]; exact h
  have er : r = (md_i M 0 0, -1) := by
    delta mm_size mm_size_L29 dc_let at hq
    dsimp only at hq
    rw [if_pos h'] at hq
    exact (Option.some.inj hq).symm
  refine ⟨by rw [er], ?_⟩
  delta hm_SE_size
  refine wq_gi (x := 0) he rfl ?_
  rw [if_pos rfl]
  exact ⟨_, rfl, by rw [er]⟩
end UXP
