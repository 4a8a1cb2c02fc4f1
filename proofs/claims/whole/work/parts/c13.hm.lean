noncomputable def hm_PG_figure (G : hg_E) (S : hg_S) (o : Nat) (p1 : Int32) : Option (Int32) :=
  dc_let (p1 : Int32) fun v1 => if v1 = 0 then ((hg_gr S (some o) 9 7).bind fun e2 => (hg_ln S e2 (G.1 0)).bind fun e3 => some e3) else if v1 = 1 then ((hg_gr S (some o) 9 6).bind fun e5 => (hg_gi S e5 5 5).bind fun e6 => some e6) else if v1 = 2 then ((hg_gi S (some o) 9 1).bind fun e8 => some e8) else if v1 = 3 then ((hg_gi S (some o) 9 2).bind fun e10 => some e10) else if v1 = 4 then ((hg_gr S (some o) 9 0).bind fun e12 => (hg_gi S e12 3 4).bind fun e13 => (hg_gi S (some o) 9 1).bind fun e14 => (hg_gi S (some o) 9 2).bind fun e15 => some ((e13 - e14) - e15)) else if v1 = 5 then ((hg_gi S (some o) 9 3).bind fun e17 => some e17) else if v1 = 6 then ((hg_gi S (some o) 9 4).bind fun e19 => some e19) else if v1 = 7 then ((hg_gi S (some o) 9 5).bind fun e21 => some e21) else ((hg_gr S (some o) 9 12).bind fun e23 => (hg_ld S e23 (G.1 0) 0).bind fun e24 => some e24)
set_option maxHeartbeats 4000000 in
set_option maxRecDepth 100000 in
/-- SignalEngine$Program.figure(I)I -/
theorem hm_PG_figure_ok (l : Launch) (D : va_G) (G : hg_E) (Z : hg_S) (o : Nat) (p1 : Int32) (q : Int32) (hq : hm_PG_figure G Z o p1 = some q) : hg_C l ⟨"SignalEngine$Program", "figure", "(I)I"⟩ prog_11_method_7_code 2 (some (.int)) 0 0 D G [.ref o, .int p1] Z (.inl (some (.int q), Z) : hg_O) := by
  refine hg_start (cv := fun q => (.inl (some (.int q), Z) : hg_O)) hq ?_
  intro F hF h
  refine hg_enter (lv := [(0, va_rf (some o)), (1, .int p1)]) (by decide +kernel) (by simp [lg_sl, va_rf_cat, hg_cti, hg_ctr]) (by simp [lv_args, va_rf_cat, va_rf_some, hg_cti, hg_ctr]) ?_
  intro X hC hR
  show hg_G X l (hg_rm 0 0 Z) D 2 Z 0 [(0, va_rf (some o)), (1, .int p1)] []
  have h : dc_wp (hm_PG_figure G Z o p1) F := h
  delta hm_PG_figure at h
  refine hg_iloadn (pc := 0) (j := 1) (i := 1) hC 1 rfl rfl (show decode prog_11_method_7_code 0 = .ok (.iload_n 1, 1) by decide +kernel) ?_
  refine hg_letI h ?_
  intro v1 h
  rcases dc_ite h with ⟨hk4, h2⟩ | ⟨hk4, h2⟩
  · subst hk4; clear h; have h := h2; clear h2
    refine hg_tabIn (pc := 1) (off := 47) (tgt := 48) hC dsw_prog_11_method_7_code_1 (by decide +kernel) (by decide +kernel) (by decide +kernel) (by decide +kernel) ?_
    refine hg_aloadn (pc := 48) (j := 0) (i := 0) (r := (some o)) hC 0 rfl rfl (show decode prog_11_method_7_code 48 = .ok (.aload_n 0, 1) by decide +kernel) ?_
    refine hg_rgr (pc := 49) (r := (some o)) hC fl_SignalEngine_Program_69 (show decode prog_11_method_7_code 49 = .ok (.getfield 69, 3) by decide +kernel) h ?_
    intro e2 h
    refine hg_rlen (pc := 52) (r := e2) (t := 0) hC rfl (show decode prog_11_method_7_code 52 = .ok (.arraylength, 1) by decide +kernel) h ?_
    intro e3 h
    exact hg_iret (pc := 53) hC hR (hF _ (dc_some h)) (show decode prog_11_method_7_code 53 = .ok (.ireturn, 1) by decide +kernel)
  clear h; have h := h2; clear h2
  rcases dc_ite h with ⟨hk7, h2⟩ | ⟨hk7, h2⟩
  · subst hk7; clear h; have h := h2; clear h2
    refine hg_tabIn (pc := 1) (off := 53) (tgt := 54) hC dsw_prog_11_method_7_code_1 (by decide +kernel) (by decide +kernel) (by decide +kernel) (by decide +kernel) ?_
    refine hg_aloadn (pc := 54) (j := 0) (i := 0) (r := (some o)) hC 0 rfl rfl (show decode prog_11_method_7_code 54 = .ok (.aload_n 0, 1) by decide +kernel) ?_
    refine hg_rgr (pc := 55) (r := (some o)) hC fl_SignalEngine_Program_65 (show decode prog_11_method_7_code 55 = .ok (.getfield 65, 3) by decide +kernel) h ?_
    intro e5 h
    refine hg_rgi (pc := 58) (r := e5) hC fl_SignalEngine_Program_145 (show decode prog_11_method_7_code 58 = .ok (.getfield 145, 3) by decide +kernel) h ?_
    intro e6 h
    exact hg_iret (pc := 61) hC hR (hF _ (dc_some h)) (show decode prog_11_method_7_code 61 = .ok (.ireturn, 1) by decide +kernel)
  clear h; have h := h2; clear h2
  rcases dc_ite h with ⟨hk9, h2⟩ | ⟨hk9, h2⟩
  · subst hk9; clear h; have h := h2; clear h2
    refine hg_tabIn (pc := 1) (off := 61) (tgt := 62) hC dsw_prog_11_method_7_code_1 (by decide +kernel) (by decide +kernel) (by decide +kernel) (by decide +kernel) ?_
    refine hg_aloadn (pc := 62) (j := 0) (i := 0) (r := (some o)) hC 0 rfl rfl (show decode prog_11_method_7_code 62 = .ok (.aload_n 0, 1) by decide +kernel) ?_
    refine hg_rgi (pc := 63) (r := (some o)) hC fl_SignalEngine_Program_40 (show decode prog_11_method_7_code 63 = .ok (.getfield 40, 3) by decide +kernel) h ?_
    intro e8 h
    exact hg_iret (pc := 66) hC hR (hF _ (dc_some h)) (show decode prog_11_method_7_code 66 = .ok (.ireturn, 1) by decide +kernel)
  clear h; have h := h2; clear h2
  rcases dc_ite h with ⟨hk11, h2⟩ | ⟨hk11, h2⟩
  · subst hk11; clear h; have h := h2; clear h2
    refine hg_tabIn (pc := 1) (off := 66) (tgt := 67) hC dsw_prog_11_method_7_code_1 (by decide +kernel) (by decide +kernel) (by decide +kernel) (by decide +kernel) ?_
    refine hg_aloadn (pc := 67) (j := 0) (i := 0) (r := (some o)) hC 0 rfl rfl (show decode prog_11_method_7_code 67 = .ok (.aload_n 0, 1) by decide +kernel) ?_
    refine hg_rgi (pc := 68) (r := (some o)) hC fl_SignalEngine_Program_44 (show decode prog_11_method_7_code 68 = .ok (.getfield 44, 3) by decide +kernel) h ?_
    intro e10 h
    exact hg_iret (pc := 71) hC hR (hF _ (dc_some h)) (show decode prog_11_method_7_code 71 = .ok (.ireturn, 1) by decide +kernel)
  clear h; have h := h2; clear h2
  rcases dc_ite h with ⟨hk16, h2⟩ | ⟨hk16, h2⟩
  · subst hk16; clear h; have h := h2; clear h2
    refine hg_tabIn (pc := 1) (off := 71) (tgt := 72) hC dsw_prog_11_method_7_code_1 (by decide +kernel) (by decide +kernel) (by decide +kernel) (by decide +kernel) ?_
    refine hg_aloadn (pc := 72) (j := 0) (i := 0) (r := (some o)) hC 0 rfl rfl (show decode prog_11_method_7_code 72 = .ok (.aload_n 0, 1) by decide +kernel) ?_
    refine hg_rgr (pc := 73) (r := (some o)) hC fl_SignalEngine_Program_31 (show decode prog_11_method_7_code 73 = .ok (.getfield 31, 3) by decide +kernel) h ?_
    intro e12 h
    refine hg_rgi (pc := 76) (r := e12) hC fl_SignalEngine_Program_148 (show decode prog_11_method_7_code 76 = .ok (.getfield 148, 3) by decide +kernel) h ?_
    intro e13 h
    refine hg_aloadn (pc := 79) (j := 0) (i := 0) (r := (some o)) hC 0 rfl rfl (show decode prog_11_method_7_code 79 = .ok (.aload_n 0, 1) by decide +kernel) ?_
    refine hg_rgi (pc := 80) (r := (some o)) hC fl_SignalEngine_Program_40 (show decode prog_11_method_7_code 80 = .ok (.getfield 40, 3) by decide +kernel) h ?_
    intro e14 h
    refine hg_isub (pc := 83) hC (show decode prog_11_method_7_code 83 = .ok (.isub, 1) by decide +kernel) ?_
    refine hg_aloadn (pc := 84) (j := 0) (i := 0) (r := (some o)) hC 0 rfl rfl (show decode prog_11_method_7_code 84 = .ok (.aload_n 0, 1) by decide +kernel) ?_
    refine hg_rgi (pc := 85) (r := (some o)) hC fl_SignalEngine_Program_44 (show decode prog_11_method_7_code 85 = .ok (.getfield 44, 3) by decide +kernel) h ?_
    intro e15 h
    refine hg_isub (pc := 88) hC (show decode prog_11_method_7_code 88 = .ok (.isub, 1) by decide +kernel) ?_
    exact hg_iret (pc := 89) hC hR (hF _ (dc_some h)) (show decode prog_11_method_7_code 89 = .ok (.ireturn, 1) by decide +kernel)
  clear h; have h := h2; clear h2
  rcases dc_ite h with ⟨hk18, h2⟩ | ⟨hk18, h2⟩
  · subst hk18; clear h; have h := h2; clear h2
    refine hg_tabIn (pc := 1) (off := 89) (tgt := 90) hC dsw_prog_11_method_7_code_1 (by decide +kernel) (by decide +kernel) (by decide +kernel) (by decide +kernel) ?_
    refine hg_aloadn (pc := 90) (j := 0) (i := 0) (r := (some o)) hC 0 rfl rfl (show decode prog_11_method_7_code 90 = .ok (.aload_n 0, 1) by decide +kernel) ?_
    refine hg_rgi (pc := 91) (r := (some o)) hC fl_SignalEngine_Program_48 (show decode prog_11_method_7_code 91 = .ok (.getfield 48, 3) by decide +kernel) h ?_
    intro e17 h
    exact hg_iret (pc := 94) hC hR (hF _ (dc_some h)) (show decode prog_11_method_7_code 94 = .ok (.ireturn, 1) by decide +kernel)
  clear h; have h := h2; clear h2
  rcases dc_ite h with ⟨hk20, h2⟩ | ⟨hk20, h2⟩
  · subst hk20; clear h; have h := h2; clear h2
    refine hg_tabIn (pc := 1) (off := 94) (tgt := 95) hC dsw_prog_11_method_7_code_1 (by decide +kernel) (by decide +kernel) (by decide +kernel) (by decide +kernel) ?_
    refine hg_aloadn (pc := 95) (j := 0) (i := 0) (r := (some o)) hC 0 rfl rfl (show decode prog_11_method_7_code 95 = .ok (.aload_n 0, 1) by decide +kernel) ?_
    refine hg_rgi (pc := 96) (r := (some o)) hC fl_SignalEngine_Program_52 (show decode prog_11_method_7_code 96 = .ok (.getfield 52, 3) by decide +kernel) h ?_
    intro e19 h
    exact hg_iret (pc := 99) hC hR (hF _ (dc_some h)) (show decode prog_11_method_7_code 99 = .ok (.ireturn, 1) by decide +kernel)
  clear h; have h := h2; clear h2
  rcases dc_ite h with ⟨hk22, h2⟩ | ⟨hk22, h2⟩
  · subst hk22; clear h; have h := h2; clear h2
    refine hg_tabIn (pc := 1) (off := 99) (tgt := 100) hC dsw_prog_11_method_7_code_1 (by decide +kernel) (by decide +kernel) (by decide +kernel) (by decide +kernel) ?_
    refine hg_aloadn (pc := 100) (j := 0) (i := 0) (r := (some o)) hC 0 rfl rfl (show decode prog_11_method_7_code 100 = .ok (.aload_n 0, 1) by decide +kernel) ?_
    refine hg_rgi (pc := 101) (r := (some o)) hC fl_SignalEngine_Program_56 (show decode prog_11_method_7_code 101 = .ok (.getfield 56, 3) by decide +kernel) h ?_
    intro e21 h
    exact hg_iret (pc := 104) hC hR (hF _ (dc_some h)) (show decode prog_11_method_7_code 104 = .ok (.ireturn, 1) by decide +kernel)
  clear h; have h := h2; clear h2
  refine hg_tabOut (pc := 1) (tgt := 105) hC dsw_prog_11_method_7_code_1 (by have := dc_swc hk4 (show (0 : Int32).toInt = 0 by decide +kernel); have := dc_swc hk7 (show (1 : Int32).toInt = 1 by decide +kernel); have := dc_swc hk9 (show (2 : Int32).toInt = 2 by decide +kernel); have := dc_swc hk11 (show (3 : Int32).toInt = 3 by decide +kernel); have := dc_swc hk16 (show (4 : Int32).toInt = 4 by decide +kernel); have := dc_swc hk18 (show (5 : Int32).toInt = 5 by decide +kernel); have := dc_swc hk20 (show (6 : Int32).toInt = 6 by decide +kernel); have := dc_swc hk22 (show (7 : Int32).toInt = 7 by decide +kernel); omega) (by decide +kernel) ?_
  refine hg_aloadn (pc := 105) (j := 0) (i := 0) (r := (some o)) hC 0 rfl rfl (show decode prog_11_method_7_code 105 = .ok (.aload_n 0, 1) by decide +kernel) ?_
  refine hg_rgr (pc := 106) (r := (some o)) hC fl_SignalEngine_Program_85 (show decode prog_11_method_7_code 106 = .ok (.getfield 85, 3) by decide +kernel) h ?_
  intro e23 h
  refine hg_iconst (pc := 109) (v := 0) hC (show decode prog_11_method_7_code 109 = .ok (.iconst 0, 1) by decide +kernel) (by decide +kernel) ?_
  refine hg_riald (pc := 110) (r := e23) hC (show decode prog_11_method_7_code 110 = .ok (.iaload, 1) by decide +kernel) h ?_
  intro e24 h
  exact hg_iret (pc := 111) hC hR (hF _ (dc_some h)) (show decode prog_11_method_7_code 111 = .ok (.ireturn, 1) by decide +kernel)
noncomputable def hm_SE_heldPauses_L30 (G : hg_E) (S : hg_S) (o : Nat) (x1 : Int32) : Option (Int32) :=
  some x1
noncomputable def hm_SE_heldPauses_L24 (G : hg_E) (S : hg_S) (o : Nat) (x1 : Int32) (x2 : Int32) : Option ((Int32 × Int32) ⊕ ((Int32))) :=
  some (.inl (x1, (x2 + 1)))
noncomputable def hm_SE_heldPauses_b4 (G : hg_E) (S : hg_S) (o : Nat) (x1 : Int32) (x2 : Int32) : Option ((Int32 × Int32) ⊕ ((Int32))) :=
  (hg_gr S (some o) 0 7).bind fun e1 => (hg_ln S e1 (G.1 2)).bind fun e2 => if x2 < e2 then ((hg_chk S (some o) 0).bind fun b3 => (hm_SE_selected G S b3 x2).bind fun q6 => if q6 = 0 then (hm_SE_heldPauses_L24 G S o x1 x2) else (hm_SE_heldPauses_L24 G S o (x1 + 1) x2)) else (some (.inr x1))
noncomputable def hm_SE_heldPauses_s4 (G : hg_E) (S : hg_S) (o : Nat) (q : Int32 × Int32) : Option ((Int32 × Int32) ⊕ ((Int32))) :=
  hm_SE_heldPauses_b4 G S o q.1 q.2
noncomputable def hm_SE_heldPauses_L4 (G : hg_E) (S : hg_S) (o : Nat) (x1 : Int32) (x2 : Int32) : Option (Int32) :=
  (dc_it (hm_SE_heldPauses_s4 G S o) (x1, x2)).bind (fun (z : Int32) => hm_SE_heldPauses_L30 G S o z)
noncomputable def hm_SE_heldPauses (G : hg_E) (S : hg_S) (o : Nat) : Option (Int32) :=
  hm_SE_heldPauses_L4 G S o 0 0
set_option maxHeartbeats 4000000 in
set_option maxRecDepth 100000 in
/-- SignalEngine.heldPauses()I -/
theorem hm_SE_heldPauses_ok (l : Launch) (D : va_G) (G : hg_E) (Z : hg_S) (o : Nat) (q : Int32) (hq : hm_SE_heldPauses G Z o = some q) : hg_C l ⟨"SignalEngine", "heldPauses", "()I"⟩ prog_1_method_32_code 3 (some (.int)) 1 21 D G [.ref o] Z (.inl (some (.int q), Z) : hg_O) := by
  refine hg_start (cv := fun q => (.inl (some (.int q), Z) : hg_O)) hq ?_
  intro F hF h
  refine hg_enter (lv := [(0, va_rf (some o))]) (by decide +kernel) (by simp [lg_sl, va_rf_cat, hg_cti, hg_ctr]) (by simp [lv_args, va_rf_cat, va_rf_some, hg_cti, hg_ctr]) ?_
  intro X hC hR
  have lab_30 : ∀ (x1 : Int32), dc_wp (hm_SE_heldPauses_L30 G Z o x1) F → hg_G X l (hg_rm 1 21 Z) D 3 Z 30 [(0, va_rf (some o)), (1, .int x1)] [] := by
    intro x1 h
    delta hm_SE_heldPauses_L30 at h
    refine hg_iloadn (pc := 30) (j := 1) (i := 1) hC 1 rfl rfl (show decode prog_1_method_32_code 30 = .ok (.iload_n 1, 1) by decide +kernel) ?_
    exact hg_iret (pc := 31) hC hR (hF _ (dc_some h)) (show decode prog_1_method_32_code 31 = .ok (.ireturn, 1) by decide +kernel)
  have loop_4 : ∀ (q : Int32 × Int32), dc_wp (dc_it (hm_SE_heldPauses_s4 G Z o) q) (fun z => dc_wp ((fun (z : Int32) => hm_SE_heldPauses_L30 G Z o z) z) F) → hg_G X l (hg_rm 1 21 Z) D 3 Z 4 [(0, va_rf (some o)), (1, .int q.1), (2, .int q.2)] [] := by
    refine dc_loopF ?_
    intro F_4 hl_4 hr_4
    have lab_24 : ∀ (x1 : Int32) (x2 : Int32), dc_wp (hm_SE_heldPauses_L24 G Z o x1 x2) F_4 → hg_G X l (hg_rm 1 21 Z) D 3 Z 24 [(0, va_rf (some o)), (1, .int x1), (2, .int x2)] [] := by
      intro x1 x2 h
      delta hm_SE_heldPauses_L24 at h
      refine hg_iinc (pc := 24) (i := 2) (v := (x2 + 1)) (lv' := [(2, .int (x2 + 1)), (0, va_rf (some o)), (1, .int x1)]) hC 2 rfl rfl (Nat.le_of_ble_eq_true rfl) rfl (show decode prog_1_method_32_code 24 = .ok (.iinc 2 1, 3) by decide +kernel) ?_
      refine hg_goto (pc := 27) (tgt := 4) hC (show decode prog_1_method_32_code 27 = .ok (.goto (-23), 3) by decide +kernel) (by decide +kernel) ?_
      exact hg_sub [1, 2, 0] rfl (hl_4 (x1, (x2 + 1)) (dc_some h))
    rintro ⟨x1, x2⟩ h
    have h : dc_wp (hm_SE_heldPauses_b4 G Z o x1 x2) F_4 := h
    delta hm_SE_heldPauses_b4 at h
    refine hg_iloadn (pc := 4) (j := 2) (i := 2) hC 2 rfl rfl (show decode prog_1_method_32_code 4 = .ok (.iload_n 2, 1) by decide +kernel) ?_
    refine hg_aloadn (pc := 5) (j := 0) (i := 0) (r := (some o)) hC 0 rfl rfl (show decode prog_1_method_32_code 5 = .ok (.aload_n 0, 1) by decide +kernel) ?_
    refine hg_rgr (pc := 6) (r := (some o)) hC fl_SignalEngine_68 (show decode prog_1_method_32_code 6 = .ok (.getfield 68, 3) by decide +kernel) h ?_
    intro e1 h
    refine hg_rlen (pc := 9) (r := e1) (t := 2) hC rfl (show decode prog_1_method_32_code 9 = .ok (.arraylength, 1) by decide +kernel) h ?_
    intro e2 h
    refine hg_icmp_ge (pc := 10) (tgt := 30) hC (show decode prog_1_method_32_code 10 = .ok (.if_icmp .ge 20, 3) by decide +kernel) (by decide +kernel) h ?_ ?_
    · intro h
      refine hg_aloadn (pc := 13) (j := 0) (i := 0) (r := (some o)) hC 0 rfl rfl (show decode prog_1_method_32_code 13 = .ok (.aload_n 0, 1) by decide +kernel) ?_
      refine hg_iloadn (pc := 14) (j := 2) (i := 2) hC 2 rfl rfl (show decode prog_1_method_32_code 14 = .ok (.iload_n 2, 1) by decide +kernel) ?_
      obtain ⟨b3, hb4, h⟩ := dc_bind h
      obtain ⟨hb4, hv5⟩ := hg_chk_of (C := R_SE) rfl hb4
      refine hg_kVi (pc := 15) (b := b3) (r := (some o)) (As := [.int x2]) (rest := []) (vo := fun q => q) (so := fun q => Z) hC cw_SignalEngine_270 (fun q hq => hm_SE_selected_ok l D G Z b3 x2 q hq) (Nat.le_of_ble_eq_true rfl) (Nat.le_of_ble_eq_true rfl) hb4 hv5 rfl (Nat.le_of_ble_eq_true rfl) (show decode prog_1_method_32_code 15 = .ok (.invokevirtual 270, 3) by decide +kernel) h ?_
      intro q6 h
      refine hg_if_eq (pc := 18) (tgt := 24) hC (show decode prog_1_method_32_code 18 = .ok (.ifCond .eq 6, 3) by decide +kernel) (by decide +kernel) h ?_ ?_
      · intro h
        exact lab_24 x1 x2 h
      · intro h
        refine hg_iinc (pc := 21) (i := 1) (v := (x1 + 1)) (lv' := [(1, .int (x1 + 1)), (0, va_rf (some o)), (2, .int x2)]) hC 1 rfl rfl (Nat.le_of_ble_eq_true rfl) rfl (show decode prog_1_method_32_code 21 = .ok (.iinc 1 1, 3) by decide +kernel) ?_
        exact hg_sub [1, 0, 2] rfl (lab_24 (x1 + 1) x2 h)
    · intro h
      have h : dc_wp (hm_SE_heldPauses_L30 G Z o x1) F := hr_4 x1 (dc_some h)
      exact hg_sub [0, 1] rfl (lab_30 x1 h)
  have lab_4 : ∀ (x1 : Int32) (x2 : Int32), dc_wp (hm_SE_heldPauses_L4 G Z o x1 x2) F → hg_G X l (hg_rm 1 21 Z) D 3 Z 4 [(0, va_rf (some o)), (1, .int x1), (2, .int x2)] [] := fun x1 x2 h => loop_4  (x1, x2) (dc_bind h)
  show hg_G X l (hg_rm 1 21 Z) D 3 Z 0 [(0, va_rf (some o))] []
  have h : dc_wp (hm_SE_heldPauses G Z o) F := h
  delta hm_SE_heldPauses at h
  refine hg_iconst (pc := 0) (v := 0) hC (show decode prog_1_method_32_code 0 = .ok (.iconst 0, 1) by decide +kernel) (by decide +kernel) ?_
  refine hg_istoren (pc := 1) (j := 1) (i := 1) (lv' := [(1, .int 0), (0, va_rf (some o))]) hC rfl (Nat.le_of_ble_eq_true rfl) rfl (show decode prog_1_method_32_code 1 = .ok (.istore_n 1, 1) by decide +kernel) ?_
  refine hg_iconst (pc := 2) (v := 0) hC (show decode prog_1_method_32_code 2 = .ok (.iconst 0, 1) by decide +kernel) (by decide +kernel) ?_
  refine hg_istoren (pc := 3) (j := 2) (i := 2) (lv' := [(2, .int 0), (1, .int 0), (0, va_rf (some o))]) hC rfl (Nat.le_of_ble_eq_true rfl) rfl (show decode prog_1_method_32_code 3 = .ok (.istore_n 2, 1) by decide +kernel) ?_
  exact hg_sub [2, 1, 0] rfl (lab_4 0 0 h)
noncomputable def hm_NT_multiplexers (G : hg_E) (S : hg_S) (o : Nat) : Option (Int32) :=
  (hg_gi S (some o) 12 9).bind fun e1 => some (e1 - 2)
set_option maxHeartbeats 4000000 in
set_option maxRecDepth 100000 in
/-- SignalEngine$Net.multiplexers()I -/
theorem hm_NT_multiplexers_ok (l : Launch) (D : va_G) (G : hg_E) (Z : hg_S) (o : Nat) (q : Int32) (hq : hm_NT_multiplexers G Z o = some q) : hg_C l ⟨"SignalEngine$Net", "multiplexers", "()I"⟩ prog_7_method_2_code 1 (some (.int)) 0 0 D G [.ref o] Z (.inl (some (.int q), Z) : hg_O) := by
  refine hg_start (cv := fun q => (.inl (some (.int q), Z) : hg_O)) hq ?_
  intro F hF h
  refine hg_enter (lv := [(0, va_rf (some o))]) (by decide +kernel) (by simp [lg_sl, va_rf_cat, hg_cti, hg_ctr]) (by simp [lv_args, va_rf_cat, va_rf_some, hg_cti, hg_ctr]) ?_
  intro X hC hR
  show hg_G X l (hg_rm 0 0 Z) D 1 Z 0 [(0, va_rf (some o))] []
  have h : dc_wp (hm_NT_multiplexers G Z o) F := h
  delta hm_NT_multiplexers at h
  refine hg_aloadn (pc := 0) (j := 0) (i := 0) (r := (some o)) hC 0 rfl rfl (show decode prog_7_method_2_code 0 = .ok (.aload_n 0, 1) by decide +kernel) ?_
  refine hg_rgi (pc := 1) (r := (some o)) hC fl_SignalEngine_Net_39 (show decode prog_7_method_2_code 1 = .ok (.getfield 39, 3) by decide +kernel) h ?_
  intro e1 h
  refine hg_iconst (pc := 4) (v := 2) hC (show decode prog_7_method_2_code 4 = .ok (.iconst 2, 1) by decide +kernel) (by decide +kernel) ?_
  refine hg_isub (pc := 5) hC (show decode prog_7_method_2_code 5 = .ok (.isub, 1) by decide +kernel) ?_
  exact hg_iret (pc := 6) hC hR (hF _ (dc_some h)) (show decode prog_7_method_2_code 6 = .ok (.ireturn, 1) by decide +kernel)
noncomputable def hm_SE_figure_L115 (G : hg_E) (S : hg_S) (o : Nat) (y0 : Int32) : Option (Int32) :=
  some y0
noncomputable def hm_SE_figure_L96 (G : hg_E) (S : hg_S) (o : Nat) (y0 : Int32) : Option (Int32) :=
  some y0
noncomputable def hm_SE_figure_L77 (G : hg_E) (S : hg_S) (o : Nat) (y0 : Int32) : Option (Int32) :=
  some y0
noncomputable def hm_SE_figure_L53 (G : hg_E) (S : hg_S) (o : Nat) (y0 : Int32) : Option (Int32) :=
  some y0
noncomputable def hm_SE_figure (G : hg_E) (S : hg_S) (o : Nat) (p1 : Int32) : Option (Int32) :=
  dc_let (p1 : Int32) fun v1 => if v1 = 10 then ((hg_gi S (some o) 0 9).bind fun e2 => some e2) else if v1 = 11 then ((hg_gi S (some o) 0 6).bind fun e4 => if e4 = 0 then (hm_SE_figure_L53 G S o 1) else (hm_SE_figure_L53 G S o 2)) else if v1 = 12 then ((hg_chk S (some o) 0).bind fun b6 => (hm_SE_heldPauses G S b6).bind fun q9 => some q9) else if v1 = 13 then ((hg_gi S (some o) 0 12).bind fun e11 => if e11 = 0 then (hm_SE_figure_L77 G S o 0) else ((hg_gr S (some o) 0 10).bind fun e12 => (hg_gi S e12 11 9).bind fun e13 => hm_SE_figure_L77 G S o e13)) else if v1 = 14 then ((hg_gi S (some o) 0 12).bind fun e15 => if e15 = 0 then (hm_SE_figure_L96 G S o 0) else ((hg_gr S (some o) 0 10).bind fun e16 => (hg_gi S e16 11 11).bind fun e17 => hm_SE_figure_L96 G S o e17)) else ((hg_gi S (some o) 0 13).bind fun e19 => if e19 = 0 then (hm_SE_figure_L115 G S o 0) else ((hg_gr S (some o) 0 11).bind fun e20 => (hg_chk S e20 12).bind fun b21 => (hm_NT_multiplexers G S b21).bind fun q24 => hm_SE_figure_L115 G S o q24))
set_option maxHeartbeats 4000000 in
set_option maxRecDepth 100000 in
/-- SignalEngine.figure(I)I -/
theorem hm_SE_figure_ok (l : Launch) (D : va_G) (G : hg_E) (Z : hg_S) (o : Nat) (p1 : Int32) (q : Int32) (hq : hm_SE_figure G Z o p1 = some q) : hg_C l ⟨"SignalEngine", "figure", "(I)I"⟩ prog_1_method_31_code 2 (some (.int)) 2 43 D G [.ref o, .int p1] Z (.inl (some (.int q), Z) : hg_O) := by
  refine hg_start (cv := fun q => (.inl (some (.int q), Z) : hg_O)) hq ?_
  intro F hF h
  refine hg_enter (lv := [(0, va_rf (some o)), (1, .int p1)]) (by decide +kernel) (by simp [lg_sl, va_rf_cat, hg_cti, hg_ctr]) (by simp [lv_args, va_rf_cat, va_rf_some, hg_cti, hg_ctr]) ?_
  intro X hC hR
  have lab_115 : ∀ (y0 : Int32), dc_wp (hm_SE_figure_L115 G Z o y0) F → hg_G X l (hg_rm 2 43 Z) D 2 Z 115 [(0, va_rf (some o))] [.int y0] := by
    intro y0 h
    delta hm_SE_figure_L115 at h
    exact hg_iret (pc := 115) hC hR (hF _ (dc_some h)) (show decode prog_1_method_31_code 115 = .ok (.ireturn, 1) by decide +kernel)
  have lab_96 : ∀ (y0 : Int32), dc_wp (hm_SE_figure_L96 G Z o y0) F → hg_G X l (hg_rm 2 43 Z) D 2 Z 96 [(0, va_rf (some o))] [.int y0] := by
    intro y0 h
    delta hm_SE_figure_L96 at h
    exact hg_iret (pc := 96) hC hR (hF _ (dc_some h)) (show decode prog_1_method_31_code 96 = .ok (.ireturn, 1) by decide +kernel)
  have lab_77 : ∀ (y0 : Int32), dc_wp (hm_SE_figure_L77 G Z o y0) F → hg_G X l (hg_rm 2 43 Z) D 2 Z 77 [(0, va_rf (some o))] [.int y0] := by
    intro y0 h
    delta hm_SE_figure_L77 at h
    exact hg_iret (pc := 77) hC hR (hF _ (dc_some h)) (show decode prog_1_method_31_code 77 = .ok (.ireturn, 1) by decide +kernel)
  have lab_53 : ∀ (y0 : Int32), dc_wp (hm_SE_figure_L53 G Z o y0) F → hg_G X l (hg_rm 2 43 Z) D 2 Z 53 [(0, va_rf (some o))] [.int y0] := by
    intro y0 h
    delta hm_SE_figure_L53 at h
    exact hg_iret (pc := 53) hC hR (hF _ (dc_some h)) (show decode prog_1_method_31_code 53 = .ok (.ireturn, 1) by decide +kernel)
  show hg_G X l (hg_rm 2 43 Z) D 2 Z 0 [(0, va_rf (some o)), (1, .int p1)] []
  have h : dc_wp (hm_SE_figure G Z o p1) F := h
  delta hm_SE_figure at h
  refine hg_iloadn (pc := 0) (j := 1) (i := 1) hC 1 rfl rfl (show decode prog_1_method_31_code 0 = .ok (.iload_n 1, 1) by decide +kernel) ?_
  refine hg_letI h ?_
  intro v1 h
  rcases dc_ite h with ⟨hk3, h2⟩ | ⟨hk3, h2⟩
  · subst hk3; clear h; have h := h2; clear h2
    refine hg_tabIn (pc := 1) (off := 35) (tgt := 36) hC dsw_prog_1_method_31_code_1 (by decide +kernel) (by decide +kernel) (by decide +kernel) (by decide +kernel) ?_
    refine hg_aloadn (pc := 36) (j := 0) (i := 0) (r := (some o)) hC 0 rfl rfl (show decode prog_1_method_31_code 36 = .ok (.aload_n 0, 1) by decide +kernel) ?_
    refine hg_rgi (pc := 37) (r := (some o)) hC fl_SignalEngine_88 (show decode prog_1_method_31_code 37 = .ok (.getfield 88, 3) by decide +kernel) h ?_
    intro e2 h
    exact hg_iret (pc := 40) hC hR (hF _ (dc_some h)) (show decode prog_1_method_31_code 40 = .ok (.ireturn, 1) by decide +kernel)
  clear h; have h := h2; clear h2
  rcases dc_ite h with ⟨hk5, h2⟩ | ⟨hk5, h2⟩
  · subst hk5; clear h; have h := h2; clear h2
    refine hg_tabIn (pc := 1) (off := 40) (tgt := 41) hC dsw_prog_1_method_31_code_1 (by decide +kernel) (by decide +kernel) (by decide +kernel) (by decide +kernel) ?_
    refine hg_aloadn (pc := 41) (j := 0) (i := 0) (r := (some o)) hC 0 rfl rfl (show decode prog_1_method_31_code 41 = .ok (.aload_n 0, 1) by decide +kernel) ?_
    refine hg_rgi (pc := 42) (r := (some o)) hC fl_SignalEngine_85 (show decode prog_1_method_31_code 42 = .ok (.getfield 85, 3) by decide +kernel) h ?_
    intro e4 h
    refine hg_if_eq (pc := 45) (tgt := 52) hC (show decode prog_1_method_31_code 45 = .ok (.ifCond .eq 7, 3) by decide +kernel) (by decide +kernel) h ?_ ?_
    · intro h
      refine hg_iconst (pc := 52) (v := 1) hC (show decode prog_1_method_31_code 52 = .ok (.iconst 1, 1) by decide +kernel) (by decide +kernel) ?_
      exact hg_sub [0] rfl (lab_53 1 h)
    · intro h
      refine hg_iconst (pc := 48) (v := 2) hC (show decode prog_1_method_31_code 48 = .ok (.iconst 2, 1) by decide +kernel) (by decide +kernel) ?_
      refine hg_goto (pc := 49) (tgt := 53) hC (show decode prog_1_method_31_code 49 = .ok (.goto 4, 3) by decide +kernel) (by decide +kernel) ?_
      exact hg_sub [0] rfl (lab_53 2 h)
  clear h; have h := h2; clear h2
  rcases dc_ite h with ⟨hk10, h2⟩ | ⟨hk10, h2⟩
  · subst hk10; clear h; have h := h2; clear h2
    refine hg_tabIn (pc := 1) (off := 53) (tgt := 54) hC dsw_prog_1_method_31_code_1 (by decide +kernel) (by decide +kernel) (by decide +kernel) (by decide +kernel) ?_
    refine hg_aloadn (pc := 54) (j := 0) (i := 0) (r := (some o)) hC 0 rfl rfl (show decode prog_1_method_31_code 54 = .ok (.aload_n 0, 1) by decide +kernel) ?_
    obtain ⟨b6, hb7, h⟩ := dc_bind h
    obtain ⟨hb7, hv8⟩ := hg_chk_of (C := R_SE) rfl hb7
    refine hg_kVi (pc := 55) (b := b6) (r := (some o)) (As := []) (rest := []) (vo := fun q => q) (so := fun q => Z) hC cw_SignalEngine_264 (fun q hq => hm_SE_heldPauses_ok l D G Z b6 q hq) (Nat.le_of_ble_eq_true rfl) (Nat.le_of_ble_eq_true rfl) hb7 hv8 rfl (Nat.le_of_ble_eq_true rfl) (show decode prog_1_method_31_code 55 = .ok (.invokevirtual 264, 3) by decide +kernel) h ?_
    intro q9 h
    exact hg_iret (pc := 58) hC hR (hF _ (dc_some h)) (show decode prog_1_method_31_code 58 = .ok (.ireturn, 1) by decide +kernel)
  clear h; have h := h2; clear h2
  rcases dc_ite h with ⟨hk14, h2⟩ | ⟨hk14, h2⟩
  · subst hk14; clear h; have h := h2; clear h2
    refine hg_tabIn (pc := 1) (off := 58) (tgt := 59) hC dsw_prog_1_method_31_code_1 (by decide +kernel) (by decide +kernel) (by decide +kernel) (by decide +kernel) ?_
    refine hg_aloadn (pc := 59) (j := 0) (i := 0) (r := (some o)) hC 0 rfl rfl (show decode prog_1_method_31_code 59 = .ok (.aload_n 0, 1) by decide +kernel) ?_
    refine hg_rgi (pc := 60) (r := (some o)) hC fl_SignalEngine_91 (show decode prog_1_method_31_code 60 = .ok (.getfield 91, 3) by decide +kernel) h ?_
    intro e11 h
    refine hg_if_eq (pc := 63) (tgt := 76) hC (show decode prog_1_method_31_code 63 = .ok (.ifCond .eq 13, 3) by decide +kernel) (by decide +kernel) h ?_ ?_
    · intro h
      refine hg_iconst (pc := 76) (v := 0) hC (show decode prog_1_method_31_code 76 = .ok (.iconst 0, 1) by decide +kernel) (by decide +kernel) ?_
      exact hg_sub [0] rfl (lab_77 0 h)
    · intro h
      refine hg_aloadn (pc := 66) (j := 0) (i := 0) (r := (some o)) hC 0 rfl rfl (show decode prog_1_method_31_code 66 = .ok (.aload_n 0, 1) by decide +kernel) ?_
      refine hg_rgr (pc := 67) (r := (some o)) hC fl_SignalEngine_169 (show decode prog_1_method_31_code 67 = .ok (.getfield 169, 3) by decide +kernel) h ?_
      intro e12 h
      refine hg_rgi (pc := 70) (r := e12) hC fl_SignalEngine_188 (show decode prog_1_method_31_code 70 = .ok (.getfield 188, 3) by decide +kernel) h ?_
      intro e13 h
      refine hg_goto (pc := 73) (tgt := 77) hC (show decode prog_1_method_31_code 73 = .ok (.goto 4, 3) by decide +kernel) (by decide +kernel) ?_
      exact hg_sub [0] rfl (lab_77 e13 h)
  clear h; have h := h2; clear h2
  rcases dc_ite h with ⟨hk18, h2⟩ | ⟨hk18, h2⟩
  · subst hk18; clear h; have h := h2; clear h2
    refine hg_tabIn (pc := 1) (off := 77) (tgt := 78) hC dsw_prog_1_method_31_code_1 (by decide +kernel) (by decide +kernel) (by decide +kernel) (by decide +kernel) ?_
    refine hg_aloadn (pc := 78) (j := 0) (i := 0) (r := (some o)) hC 0 rfl rfl (show decode prog_1_method_31_code 78 = .ok (.aload_n 0, 1) by decide +kernel) ?_
    refine hg_rgi (pc := 79) (r := (some o)) hC fl_SignalEngine_91 (show decode prog_1_method_31_code 79 = .ok (.getfield 91, 3) by decide +kernel) h ?_
    intro e15 h
    refine hg_if_eq (pc := 82) (tgt := 95) hC (show decode prog_1_method_31_code 82 = .ok (.ifCond .eq 13, 3) by decide +kernel) (by decide +kernel) h ?_ ?_
    · intro h
      refine hg_iconst (pc := 95) (v := 0) hC (show decode prog_1_method_31_code 95 = .ok (.iconst 0, 1) by decide +kernel) (by decide +kernel) ?_
      exact hg_sub [0] rfl (lab_96 0 h)
    · intro h
      refine hg_aloadn (pc := 85) (j := 0) (i := 0) (r := (some o)) hC 0 rfl rfl (show decode prog_1_method_31_code 85 = .ok (.aload_n 0, 1) by decide +kernel) ?_
      refine hg_rgr (pc := 86) (r := (some o)) hC fl_SignalEngine_169 (show decode prog_1_method_31_code 86 = .ok (.getfield 169, 3) by decide +kernel) h ?_
      intro e16 h
      refine hg_rgi (pc := 89) (r := e16) hC fl_SignalEngine_267 (show decode prog_1_method_31_code 89 = .ok (.getfield 267, 3) by decide +kernel) h ?_
      intro e17 h
      refine hg_goto (pc := 92) (tgt := 96) hC (show decode prog_1_method_31_code 92 = .ok (.goto 4, 3) by decide +kernel) (by decide +kernel) ?_
      exact hg_sub [0] rfl (lab_96 e17 h)
  clear h; have h := h2; clear h2
  refine hg_tabOut (pc := 1) (tgt := 97) hC dsw_prog_1_method_31_code_1 (by have := dc_swc hk3 (show (10 : Int32).toInt = 10 by decide +kernel); have := dc_swc hk5 (show (11 : Int32).toInt = 11 by decide +kernel); have := dc_swc hk10 (show (12 : Int32).toInt = 12 by decide +kernel); have := dc_swc hk14 (show (13 : Int32).toInt = 13 by decide +kernel); have := dc_swc hk18 (show (14 : Int32).toInt = 14 by decide +kernel); omega) (by decide +kernel) ?_
  refine hg_aloadn (pc := 97) (j := 0) (i := 0) (r := (some o)) hC 0 rfl rfl (show decode prog_1_method_31_code 97 = .ok (.aload_n 0, 1) by decide +kernel) ?_
  refine hg_rgi (pc := 98) (r := (some o)) hC fl_SignalEngine_94 (show decode prog_1_method_31_code 98 = .ok (.getfield 94, 3) by decide +kernel) h ?_
  intro e19 h
  refine hg_if_eq (pc := 101) (tgt := 114) hC (show decode prog_1_method_31_code 101 = .ok (.ifCond .eq 13, 3) by decide +kernel) (by decide +kernel) h ?_ ?_
  · intro h
    refine hg_iconst (pc := 114) (v := 0) hC (show decode prog_1_method_31_code 114 = .ok (.iconst 0, 1) by decide +kernel) (by decide +kernel) ?_
    exact hg_sub [0] rfl (lab_115 0 h)
  · intro h
    refine hg_aloadn (pc := 104) (j := 0) (i := 0) (r := (some o)) hC 0 rfl rfl (show decode prog_1_method_31_code 104 = .ok (.aload_n 0, 1) by decide +kernel) ?_
    refine hg_rgr (pc := 105) (r := (some o)) hC fl_SignalEngine_233 (show decode prog_1_method_31_code 105 = .ok (.getfield 233, 3) by decide +kernel) h ?_
    intro e20 h
    obtain ⟨b21, hb22, h⟩ := dc_bind h
    obtain ⟨hb22, hv23⟩ := hg_chk_of (C := R_NT) rfl hb22
    refine hg_kVi (pc := 108) (b := b21) (r := e20) (As := []) (rest := []) (vo := fun q => q) (so := fun q => Z) hC cw_SignalEngine_244 (fun q hq => hm_NT_multiplexers_ok l D G Z b21 q hq) (Nat.le_of_ble_eq_true rfl) (Nat.le_of_ble_eq_true rfl) hb22 hv23 rfl (Nat.le_of_ble_eq_true rfl) (show decode prog_1_method_31_code 108 = .ok (.invokevirtual 244, 3) by decide +kernel) h ?_
    intro q24 h
    refine hg_goto (pc := 111) (tgt := 115) hC (show decode prog_1_method_31_code 111 = .ok (.goto 4, 3) by decide +kernel) (by decide +kernel) ?_
    exact hg_sub [0] rfl (lab_115 q24 h)
noncomputable def hm_SE_count_L54 (G : hg_E) (S : hg_S) (o : Nat) (y0 : Int32) : Option (Int32) :=
  some y0
noncomputable def hm_SE_count_L10 (G : hg_E) (S : hg_S) (o : Nat) : Option (Int32) :=
  some (-1)
noncomputable def hm_SE_count (G : hg_E) (S : hg_S) (o : Nat) (p1 : Int32) : Option (Int32) :=
  if p1 < 0 then (hm_SE_count_L10 G S o) else (if (15 : Int32) < p1 then (hm_SE_count_L10 G S o) else (if p1 = 9 then ((hg_gi S (some o) 0 1).bind fun e1 => some e1) else ((hg_gr S (some o) 0 3).bind fun e2 => if e2 = none then (some 0) else (if p1 < 9 then ((hg_gr S (some o) 0 3).bind fun e3 => (hg_chk S e3 9).bind fun b4 => (hm_PG_figure G S b4 p1).bind fun q7 => hm_SE_count_L54 G S o q7) else ((hg_chk S (some o) 0).bind fun b8 => (hm_SE_figure G S b8 p1).bind fun q11 => hm_SE_count_L54 G S o q11)))))
set_option maxHeartbeats 4000000 in
set_option maxRecDepth 100000 in
/-- SignalEngine.count(I)I -/
theorem hm_SE_count_ok (l : Launch) (D : va_G) (G : hg_E) (Z : hg_S) (o : Nat) (p1 : Int32) (q : Int32) (hq : hm_SE_count G Z o p1 = some q) : hg_C l ⟨"SignalEngine", "count", "(I)I"⟩ prog_1_method_30_code 2 (some (.int)) 3 64 D G [.ref o, .int p1] Z (.inl (some (.int q), Z) : hg_O) := by
  refine hg_start (cv := fun q => (.inl (some (.int q), Z) : hg_O)) hq ?_
  intro F hF h
  refine hg_enter (lv := [(0, va_rf (some o)), (1, .int p1)]) (by decide +kernel) (by simp [lg_sl, va_rf_cat, hg_cti, hg_ctr]) (by simp [lv_args, va_rf_cat, va_rf_some, hg_cti, hg_ctr]) ?_
  intro X hC hR
  have lab_54 : ∀ (y0 : Int32), dc_wp (hm_SE_count_L54 G Z o y0) F → hg_G X l (hg_rm 3 64 Z) D 2 Z 54 [(0, va_rf (some o))] [.int y0] := by
    intro y0 h
    delta hm_SE_count_L54 at h
    exact hg_iret (pc := 54) hC hR (hF _ (dc_some h)) (show decode prog_1_method_30_code 54 = .ok (.ireturn, 1) by decide +kernel)
  have lab_10 : dc_wp (hm_SE_count_L10 G Z o) F → hg_G X l (hg_rm 3 64 Z) D 2 Z 10 [(0, va_rf (some o))] [] := by
    intro  h
    delta hm_SE_count_L10 at h
    refine hg_iconst (pc := 10) (v := (-1)) hC (show decode prog_1_method_30_code 10 = .ok (.iconst (-1), 1) by decide +kernel) (by decide +kernel) ?_
    exact hg_iret (pc := 11) hC hR (hF _ (dc_some h)) (show decode prog_1_method_30_code 11 = .ok (.ireturn, 1) by decide +kernel)
  show hg_G X l (hg_rm 3 64 Z) D 2 Z 0 [(0, va_rf (some o)), (1, .int p1)] []
  have h : dc_wp (hm_SE_count G Z o p1) F := h
  delta hm_SE_count at h
  refine hg_iloadn (pc := 0) (j := 1) (i := 1) hC 1 rfl rfl (show decode prog_1_method_30_code 0 = .ok (.iload_n 1, 1) by decide +kernel) ?_
  refine hg_if_lt (pc := 1) (tgt := 10) hC (show decode prog_1_method_30_code 1 = .ok (.ifCond .lt 9, 3) by decide +kernel) (by decide +kernel) h ?_ ?_
  · intro h
    exact hg_sub [0] rfl (lab_10 h)
  · intro h
    refine hg_iloadn (pc := 4) (j := 1) (i := 1) hC 1 rfl rfl (show decode prog_1_method_30_code 4 = .ok (.iload_n 1, 1) by decide +kernel) ?_
    refine hg_bipush (pc := 5) (v := 15) hC (show decode prog_1_method_30_code 5 = .ok (.bipush 15, 2) by decide +kernel) (by decide +kernel) ?_
    refine hg_icmp_le (pc := 7) (tgt := 12) hC (show decode prog_1_method_30_code 7 = .ok (.if_icmp .le 5, 3) by decide +kernel) (by decide +kernel) h ?_ ?_
    · intro h
      exact hg_sub [0] rfl (lab_10 h)
    · intro h
      refine hg_iloadn (pc := 12) (j := 1) (i := 1) hC 1 rfl rfl (show decode prog_1_method_30_code 12 = .ok (.iload_n 1, 1) by decide +kernel) ?_
      refine hg_bipush (pc := 13) (v := 9) hC (show decode prog_1_method_30_code 13 = .ok (.bipush 9, 2) by decide +kernel) (by decide +kernel) ?_
      refine hg_icmp_ne (pc := 15) (tgt := 23) hC (show decode prog_1_method_30_code 15 = .ok (.if_icmp .ne 8, 3) by decide +kernel) (by decide +kernel) h ?_ ?_
      · intro h
        refine hg_aloadn (pc := 18) (j := 0) (i := 0) (r := (some o)) hC 0 rfl rfl (show decode prog_1_method_30_code 18 = .ok (.aload_n 0, 1) by decide +kernel) ?_
        refine hg_rgi (pc := 19) (r := (some o)) hC fl_SignalEngine_13 (show decode prog_1_method_30_code 19 = .ok (.getfield 13, 3) by decide +kernel) h ?_
        intro e1 h
        exact hg_iret (pc := 22) hC hR (hF _ (dc_some h)) (show decode prog_1_method_30_code 22 = .ok (.ireturn, 1) by decide +kernel)
      · intro h
        refine hg_aloadn (pc := 23) (j := 0) (i := 0) (r := (some o)) hC 0 rfl rfl (show decode prog_1_method_30_code 23 = .ok (.aload_n 0, 1) by decide +kernel) ?_
        refine hg_rgr (pc := 24) (r := (some o)) hC fl_SignalEngine_52 (show decode prog_1_method_30_code 24 = .ok (.getfield 52, 3) by decide +kernel) h ?_
        intro e2 h
        refine hg_ifnonnull (pc := 27) (tgt := 32) (r := e2) hC (show decode prog_1_method_30_code 27 = .ok (.ifnonnull 5, 3) by decide +kernel) (by decide +kernel) h ?_ ?_
        · intro h
          refine hg_iconst (pc := 30) (v := 0) hC (show decode prog_1_method_30_code 30 = .ok (.iconst 0, 1) by decide +kernel) (by decide +kernel) ?_
          exact hg_iret (pc := 31) hC hR (hF _ (dc_some h)) (show decode prog_1_method_30_code 31 = .ok (.ireturn, 1) by decide +kernel)
        · intro h
          refine hg_iloadn (pc := 32) (j := 1) (i := 1) hC 1 rfl rfl (show decode prog_1_method_30_code 32 = .ok (.iload_n 1, 1) by decide +kernel) ?_
          refine hg_bipush (pc := 33) (v := 9) hC (show decode prog_1_method_30_code 33 = .ok (.bipush 9, 2) by decide +kernel) (by decide +kernel) ?_
          refine hg_icmp_ge (pc := 35) (tgt := 49) hC (show decode prog_1_method_30_code 35 = .ok (.if_icmp .ge 14, 3) by decide +kernel) (by decide +kernel) h ?_ ?_
          · intro h
            refine hg_aloadn (pc := 38) (j := 0) (i := 0) (r := (some o)) hC 0 rfl rfl (show decode prog_1_method_30_code 38 = .ok (.aload_n 0, 1) by decide +kernel) ?_
            refine hg_rgr (pc := 39) (r := (some o)) hC fl_SignalEngine_52 (show decode prog_1_method_30_code 39 = .ok (.getfield 52, 3) by decide +kernel) h ?_
            intro e3 h
            refine hg_iloadn (pc := 42) (j := 1) (i := 1) hC 1 rfl rfl (show decode prog_1_method_30_code 42 = .ok (.iload_n 1, 1) by decide +kernel) ?_
            obtain ⟨b4, hb5, h⟩ := dc_bind h
            obtain ⟨hb5, hv6⟩ := hg_chk_of (C := R_PG) rfl hb5
            refine hg_kVi (pc := 43) (b := b4) (r := e3) (As := [.int p1]) (rest := []) (vo := fun q => q) (so := fun q => Z) hC cw_SignalEngine_260 (fun q hq => hm_PG_figure_ok l D G Z b4 p1 q hq) (Nat.le_of_ble_eq_true rfl) (Nat.le_of_ble_eq_true rfl) hb5 hv6 rfl (Nat.le_of_ble_eq_true rfl) (show decode prog_1_method_30_code 43 = .ok (.invokevirtual 260, 3) by decide +kernel) h ?_
            intro q7 h
            refine hg_goto (pc := 46) (tgt := 54) hC (show decode prog_1_method_30_code 46 = .ok (.goto 8, 3) by decide +kernel) (by decide +kernel) ?_
            exact hg_sub [0] rfl (lab_54 q7 h)
          · intro h
            refine hg_aloadn (pc := 49) (j := 0) (i := 0) (r := (some o)) hC 0 rfl rfl (show decode prog_1_method_30_code 49 = .ok (.aload_n 0, 1) by decide +kernel) ?_
            refine hg_iloadn (pc := 50) (j := 1) (i := 1) hC 1 rfl rfl (show decode prog_1_method_30_code 50 = .ok (.iload_n 1, 1) by decide +kernel) ?_
            obtain ⟨b8, hb9, h⟩ := dc_bind h
            obtain ⟨hb9, hv10⟩ := hg_chk_of (C := R_SE) rfl hb9
            refine hg_kVi (pc := 51) (b := b8) (r := (some o)) (As := [.int p1]) (rest := []) (vo := fun q => q) (so := fun q => Z) hC cw_SignalEngine_263 (fun q hq => hm_SE_figure_ok l D G Z b8 p1 q hq) (Nat.le_of_ble_eq_true rfl) (Nat.le_of_ble_eq_true rfl) hb9 hv10 rfl (Nat.le_of_ble_eq_true rfl) (show decode prog_1_method_30_code 51 = .ok (.invokevirtual 263, 3) by decide +kernel) h ?_
            intro q11 h
            exact hg_sub [0] rfl (lab_54 q11 h)
noncomputable def hm_SE_stand_L77 (G : hg_E) (S : hg_S) (o : Nat) : Option (hg_S) :=
  some S
noncomputable def hm_SE_stand_L70 (G : hg_E) (S : hg_S) (o : Nat) (x1 : Int32) (x2 : Int32) (y0 : Int32) (y1 : Int32) (y2 : Option Nat) : Option ((hg_S × Int32) ⊕ ((hg_S))) :=
  (dc_zb y0).bind fun _ => (hg_st S y2 (G.1 2) y1 y0).bind fun S2 => some (.inl (S2, (x2 + 1)))
noncomputable def hm_SE_stand_L69 (G : hg_E) (S : hg_S) (o : Nat) (x1 : Int32) (x2 : Int32) (y0 : Int32) (y1 : Option Nat) : Option ((hg_S × Int32) ⊕ ((hg_S))) :=
  hm_SE_stand_L70 G S o x1 x2 0 y0 y1
noncomputable def hm_SE_stand_b36 (G : hg_E) (S : hg_S) (o : Nat) (x1 : Int32) (x2 : Int32) : Option ((hg_S × Int32) ⊕ ((hg_S))) :=
  (hg_gr S (some o) 0 7).bind fun e3 => (hg_ln S e3 (G.1 2)).bind fun e4 => if x2 < e4 then ((hg_gr S (some o) 0 7).bind fun e5 => (hg_gi S (some o) 0 5).bind fun e6 => if e6 = 0 then (hm_SE_stand_L69 G S o x1 x2 x2 e5) else (if ((((Int32.toUInt32 x1 >>> (Int32.toUInt32 x2 &&& Int32.toUInt32 31)).toInt32)) &&& 1) = 0 then (hm_SE_stand_L69 G S o x1 x2 x2 e5) else (hm_SE_stand_L70 G S o x1 x2 1 x2 e5))) else (some (.inr S))
noncomputable def hm_SE_stand_s36 (G : hg_E) (o : Nat) (x1 : Int32) (q : hg_S × Int32) : Option ((hg_S × Int32) ⊕ ((hg_S))) :=
  hm_SE_stand_b36 G q.1 o x1 q.2
noncomputable def hm_SE_stand_L36 (G : hg_E) (S : hg_S) (o : Nat) (x1 : Int32) (x2 : Int32) : Option (hg_S) :=
  (dc_it (hm_SE_stand_s36 G o x1) (S, x2)).bind (fun (z : hg_S) => hm_SE_stand_L77 G z o)
noncomputable def hm_SE_stand_L13 (G : hg_E) (S : hg_S) (o : Nat) (x1 : Int32) (y0 : Int32) : Option (hg_S) :=
  (dc_zb y0).bind fun _ => (hg_pf S (some o) 0 5 (.int y0)).bind fun S8 => (hg_pf S8 (some o) 0 6 (.int 0)).bind fun S9 => (hg_pf S9 (some o) 0 9 (.int 0)).bind fun S10 => (hg_gr S10 (some o) 0 8).bind fun e11 => (hm_JA_fill G S10 e11 (0 : Int32)).bind fun q12 => hm_SE_stand_L36 G q12 o x1 0
noncomputable def hm_SE_stand (G : hg_E) (S : hg_S) (o : Nat) (p1 : Int32) : Option (hg_S) :=
  if p1 = 256 then (hm_SE_stand_L13 G S o p1 0) else (hm_SE_stand_L13 G S o p1 1)
set_option maxHeartbeats 4000000 in
set_option maxRecDepth 100000 in
/-- SignalEngine.stand(I)V -/
theorem hm_SE_stand_ok (l : Launch) (D : va_G) (G : hg_E) (Z : hg_S) (o : Nat) (p1 : Int32) (q : hg_S) (hq : hm_SE_stand G Z o p1 = some q) : hg_C l ⟨"SignalEngine", "stand", "(I)V"⟩ prog_1_method_11_code 3 none 1 23 D G [.ref o, .int p1] Z (.inl (none, q) : hg_O) := by
  refine hg_start (cv := fun q => (.inl (none, q) : hg_O)) hq ?_
  intro F hF h
  refine hg_enter (lv := [(0, va_rf (some o)), (1, .int p1)]) (by decide +kernel) (by simp [lg_sl, va_rf_cat, hg_cti, hg_ctr]) (by simp [lv_args, va_rf_cat, va_rf_some, hg_cti, hg_ctr]) ?_
  intro X hC hR
  have lab_77 : ∀ (S : hg_S), dc_wp (hm_SE_stand_L77 G S o) F → hg_G X l (hg_rm 1 23 Z) D 3 S 77 [(0, va_rf (some o))] [] := by
    intro S  h
    delta hm_SE_stand_L77 at h
    exact hg_vret (pc := 77) hC hR (hF _ (dc_some h)) (show decode prog_1_method_11_code 77 = .ok (.return_, 1) by decide +kernel)
  have loop_36 : ∀ (x1 : Int32) (q : hg_S × Int32), dc_wp (dc_it (hm_SE_stand_s36 G o x1) q) (fun z => dc_wp ((fun (z : hg_S) => hm_SE_stand_L77 G z o) z) F) → hg_G X l (hg_rm 1 23 Z) D 3 q.1 36 [(0, va_rf (some o)), (1, .int x1), (2, .int q.2)] [] := by
    intro x1
    refine dc_loopF ?_
    intro F_36 hl_36 hr_36
    have lab_70 : ∀ (S : hg_S) (x2 : Int32) (y0 : Int32) (y1 : Int32) (y2 : Option Nat), dc_wp (hm_SE_stand_L70 G S o x1 x2 y0 y1 y2) F_36 → hg_G X l (hg_rm 1 23 Z) D 3 S 70 [(0, va_rf (some o)), (1, .int x1), (2, .int x2)] [.int y0, .int y1, va_rf y2] := by
      intro S x2 y0 y1 y2 h
      delta hm_SE_stand_L70 at h
      obtain ⟨hz1, h⟩ := dc_zb_wp (dc_bind h)
      refine hg_rzast (pc := 70) (r := y2) hC hz1 (show decode prog_1_method_11_code 70 = .ok (.bastore, 1) by decide +kernel) h ?_
      intro S2 h
      refine hg_iinc (pc := 71) (i := 2) (v := (x2 + 1)) (lv' := [(2, .int (x2 + 1)), (0, va_rf (some o)), (1, .int x1)]) hC 2 rfl rfl (Nat.le_of_ble_eq_true rfl) rfl (show decode prog_1_method_11_code 71 = .ok (.iinc 2 1, 3) by decide +kernel) ?_
      refine hg_goto (pc := 74) (tgt := 36) hC (show decode prog_1_method_11_code 74 = .ok (.goto (-38), 3) by decide +kernel) (by decide +kernel) ?_
      exact hg_sub [1, 2, 0] rfl (hl_36 (S2, (x2 + 1)) (dc_some h))
    have lab_69 : ∀ (S : hg_S) (x2 : Int32) (y0 : Int32) (y1 : Option Nat), dc_wp (hm_SE_stand_L69 G S o x1 x2 y0 y1) F_36 → hg_G X l (hg_rm 1 23 Z) D 3 S 69 [(0, va_rf (some o)), (1, .int x1), (2, .int x2)] [.int y0, va_rf y1] := by
      intro S x2 y0 y1 h
      delta hm_SE_stand_L69 at h
      refine hg_iconst (pc := 69) (v := 0) hC (show decode prog_1_method_11_code 69 = .ok (.iconst 0, 1) by decide +kernel) (by decide +kernel) ?_
      exact lab_70 S x2 0 y0 y1 h
    rintro ⟨S, x2⟩ h
    have h : dc_wp (hm_SE_stand_b36 G S o x1 x2) F_36 := h
    delta hm_SE_stand_b36 at h
    refine hg_iloadn (pc := 36) (j := 2) (i := 2) hC 2 rfl rfl (show decode prog_1_method_11_code 36 = .ok (.iload_n 2, 1) by decide +kernel) ?_
    refine hg_aloadn (pc := 37) (j := 0) (i := 0) (r := (some o)) hC 0 rfl rfl (show decode prog_1_method_11_code 37 = .ok (.aload_n 0, 1) by decide +kernel) ?_
    refine hg_rgr (pc := 38) (r := (some o)) hC fl_SignalEngine_68 (show decode prog_1_method_11_code 38 = .ok (.getfield 68, 3) by decide +kernel) h ?_
    intro e3 h
    refine hg_rlen (pc := 41) (r := e3) (t := 2) hC rfl (show decode prog_1_method_11_code 41 = .ok (.arraylength, 1) by decide +kernel) h ?_
    intro e4 h
    refine hg_icmp_ge (pc := 42) (tgt := 77) hC (show decode prog_1_method_11_code 42 = .ok (.if_icmp .ge 35, 3) by decide +kernel) (by decide +kernel) h ?_ ?_
    · intro h
      refine hg_aloadn (pc := 45) (j := 0) (i := 0) (r := (some o)) hC 0 rfl rfl (show decode prog_1_method_11_code 45 = .ok (.aload_n 0, 1) by decide +kernel) ?_
      refine hg_rgr (pc := 46) (r := (some o)) hC fl_SignalEngine_68 (show decode prog_1_method_11_code 46 = .ok (.getfield 68, 3) by decide +kernel) h ?_
      intro e5 h
      refine hg_iloadn (pc := 49) (j := 2) (i := 2) hC 2 rfl rfl (show decode prog_1_method_11_code 49 = .ok (.iload_n 2, 1) by decide +kernel) ?_
      refine hg_aloadn (pc := 50) (j := 0) (i := 0) (r := (some o)) hC 0 rfl rfl (show decode prog_1_method_11_code 50 = .ok (.aload_n 0, 1) by decide +kernel) ?_
      refine hg_rgi (pc := 51) (r := (some o)) hC fl_SignalEngine_82 (show decode prog_1_method_11_code 51 = .ok (.getfield 82, 3) by decide +kernel) h ?_
      intro e6 h
      refine hg_if_eq (pc := 54) (tgt := 69) hC (show decode prog_1_method_11_code 54 = .ok (.ifCond .eq 15, 3) by decide +kernel) (by decide +kernel) h ?_ ?_
      · intro h
        exact lab_69 S x2 x2 e5 h
      · intro h
        refine hg_iloadn (pc := 57) (j := 1) (i := 1) hC 1 rfl rfl (show decode prog_1_method_11_code 57 = .ok (.iload_n 1, 1) by decide +kernel) ?_
        refine hg_iloadn (pc := 58) (j := 2) (i := 2) hC 2 rfl rfl (show decode prog_1_method_11_code 58 = .ok (.iload_n 2, 1) by decide +kernel) ?_
        refine hg_iushr (pc := 59) hC (show decode prog_1_method_11_code 59 = .ok (.iushr, 1) by decide +kernel) ?_
        refine hg_iconst (pc := 60) (v := 1) hC (show decode prog_1_method_11_code 60 = .ok (.iconst 1, 1) by decide +kernel) (by decide +kernel) ?_
        refine hg_iand (pc := 61) hC (show decode prog_1_method_11_code 61 = .ok (.iand, 1) by decide +kernel) ?_
        refine hg_if_eq (pc := 62) (tgt := 69) hC (show decode prog_1_method_11_code 62 = .ok (.ifCond .eq 7, 3) by decide +kernel) (by decide +kernel) h ?_ ?_
        · intro h
          exact lab_69 S x2 x2 e5 h
        · intro h
          refine hg_iconst (pc := 65) (v := 1) hC (show decode prog_1_method_11_code 65 = .ok (.iconst 1, 1) by decide +kernel) (by decide +kernel) ?_
          refine hg_goto (pc := 66) (tgt := 70) hC (show decode prog_1_method_11_code 66 = .ok (.goto 4, 3) by decide +kernel) (by decide +kernel) ?_
          exact lab_70 S x2 1 x2 e5 h
    · intro h
      have h : dc_wp (hm_SE_stand_L77 G S o) F := hr_36 S (dc_some h)
      exact hg_sub [0] rfl (lab_77 S h)
  have lab_36 : ∀ (S : hg_S) (x1 : Int32) (x2 : Int32), dc_wp (hm_SE_stand_L36 G S o x1 x2) F → hg_G X l (hg_rm 1 23 Z) D 3 S 36 [(0, va_rf (some o)), (1, .int x1), (2, .int x2)] [] := fun S x1 x2 h => loop_36 x1 (S, x2) (dc_bind h)
  have lab_13 : ∀ (S : hg_S) (x1 : Int32) (y0 : Int32), dc_wp (hm_SE_stand_L13 G S o x1 y0) F → hg_G X l (hg_rm 1 23 Z) D 3 S 13 [(0, va_rf (some o)), (1, .int x1)] [.int y0, va_rf (some o)] := by
    intro S x1 y0 h
    delta hm_SE_stand_L13 at h
    obtain ⟨hz7, h⟩ := dc_zb_wp (dc_bind h)
    refine hg_rput (pc := 13) (r := (some o)) (v := .int y0) hC fp_SignalEngine_82 (dc_nar hz7).2.1 (dc_nar hz7).2.2 (show decode prog_1_method_11_code 13 = .ok (.putfield 82, 3) by decide +kernel) h ?_
    intro S8 h
    refine hg_aloadn (pc := 16) (j := 0) (i := 0) (r := (some o)) hC 0 rfl rfl (show decode prog_1_method_11_code 16 = .ok (.aload_n 0, 1) by decide +kernel) ?_
    refine hg_iconst (pc := 17) (v := 0) hC (show decode prog_1_method_11_code 17 = .ok (.iconst 0, 1) by decide +kernel) (by decide +kernel) ?_
    refine hg_rput (pc := 18) (r := (some o)) (v := .int 0) hC fp_SignalEngine_85 (dc_nar (Or.inl rfl)).2.1 (dc_nar (Or.inl rfl)).2.2 (show decode prog_1_method_11_code 18 = .ok (.putfield 85, 3) by decide +kernel) h ?_
    intro S9 h
    refine hg_aloadn (pc := 21) (j := 0) (i := 0) (r := (some o)) hC 0 rfl rfl (show decode prog_1_method_11_code 21 = .ok (.aload_n 0, 1) by decide +kernel) ?_
    refine hg_iconst (pc := 22) (v := 0) hC (show decode prog_1_method_11_code 22 = .ok (.iconst 0, 1) by decide +kernel) (by decide +kernel) ?_
    refine hg_rput (pc := 23) (r := (some o)) (v := .int 0) hC fp_SignalEngine_88 rfl rfl (show decode prog_1_method_11_code 23 = .ok (.putfield 88, 3) by decide +kernel) h ?_
    intro S10 h
    refine hg_aloadn (pc := 26) (j := 0) (i := 0) (r := (some o)) hC 0 rfl rfl (show decode prog_1_method_11_code 26 = .ok (.aload_n 0, 1) by decide +kernel) ?_
    refine hg_rgr (pc := 27) (r := (some o)) hC fl_SignalEngine_78 (show decode prog_1_method_11_code 27 = .ok (.getfield 78, 3) by decide +kernel) h ?_
    intro e11 h
    refine hg_iconst (pc := 30) (v := 0) hC (show decode prog_1_method_11_code 30 = .ok (.iconst 0, 1) by decide +kernel) (by decide +kernel) ?_
    refine hg_kSv (pc := 31) (As := [va_rf e11, .int 0]) (rest := []) (so := fun q => q) hC cw_SignalEngine_146 (fun q hq => hm_JA_fill_ok l D G S10 e11 (0 : Int32) q hq) (Nat.le_of_ble_eq_true rfl) (Nat.le_of_ble_eq_true rfl) rfl (Nat.le_of_ble_eq_true rfl) (show decode prog_1_method_11_code 31 = .ok (.invokestatic 146, 3) by decide +kernel) h ?_
    intro q12 h
    refine hg_iconst (pc := 34) (v := 0) hC (show decode prog_1_method_11_code 34 = .ok (.iconst 0, 1) by decide +kernel) (by decide +kernel) ?_
    refine hg_istoren (pc := 35) (j := 2) (i := 2) (lv' := [(2, .int 0), (0, va_rf (some o)), (1, .int x1)]) hC rfl (Nat.le_of_ble_eq_true rfl) rfl (show decode prog_1_method_11_code 35 = .ok (.istore_n 2, 1) by decide +kernel) ?_
    exact hg_sub [1, 2, 0] rfl (lab_36 q12 x1 0 h)
  show hg_G X l (hg_rm 1 23 Z) D 3 Z 0 [(0, va_rf (some o)), (1, .int p1)] []
  have h : dc_wp (hm_SE_stand G Z o p1) F := h
  delta hm_SE_stand at h
  refine hg_aloadn (pc := 0) (j := 0) (i := 0) (r := (some o)) hC 0 rfl rfl (show decode prog_1_method_11_code 0 = .ok (.aload_n 0, 1) by decide +kernel) ?_
  refine hg_iloadn (pc := 1) (j := 1) (i := 1) hC 1 rfl rfl (show decode prog_1_method_11_code 1 = .ok (.iload_n 1, 1) by decide +kernel) ?_
  refine hg_sipush (pc := 2) (v := 256) hC (show decode prog_1_method_11_code 2 = .ok (.sipush 256, 3) by decide +kernel) (by decide +kernel) ?_
  refine hg_icmp_eq (pc := 5) (tgt := 12) hC (show decode prog_1_method_11_code 5 = .ok (.if_icmp .eq 7, 3) by decide +kernel) (by decide +kernel) h ?_ ?_
  · intro h
    refine hg_iconst (pc := 12) (v := 0) hC (show decode prog_1_method_11_code 12 = .ok (.iconst 0, 1) by decide +kernel) (by decide +kernel) ?_
    exact lab_13 Z p1 0 h
  · intro h
    refine hg_iconst (pc := 8) (v := 1) hC (show decode prog_1_method_11_code 8 = .ok (.iconst 1, 1) by decide +kernel) (by decide +kernel) ?_
    refine hg_goto (pc := 9) (tgt := 13) hC (show decode prog_1_method_11_code 9 = .ok (.goto 4, 3) by decide +kernel) (by decide +kernel) ?_
    exact lab_13 Z p1 1 h
noncomputable def hm_SE_restart (G : hg_E) (S : hg_S) (o : Nat) : Option ((hg_S × Int32) ⊕ hg_X) :=
  (hg_gr S (some o) 0 3).bind fun e1 => if e1 = none then (if 1 ≤ S.2.2.1 ∧ 6 ≤ S.2.2.2 then some (.inr ((S.1, S.2.1 + 1, S.2.2.1 - 1, S.2.2.2 - 6), S.2.1, false)) else none) else ((hg_gi S (some o) 0 9).bind fun e3 => (hg_chk S (some o) 0).bind fun b4 => (hm_SE_stand G S b4 (256 : Int32)).bind fun q7 => some (.inl (q7, e3)))
set_option maxHeartbeats 4000000 in
set_option maxRecDepth 100000 in
/-- SignalEngine.restart()I -/
theorem hm_SE_restart_ok (l : Launch) (hlt : l.stackTraces = false) (D : va_G) (G : hg_E) (Z : hg_S) (o : Nat) (q : (hg_S × Int32) ⊕ hg_X) (hq : hm_SE_restart G Z o = some q) : hg_C l ⟨"SignalEngine", "restart", "()I"⟩ prog_1_method_10_code 2 (some (.int)) 6 100 D G [.ref o] Z (Sum.elim (fun q => (.inl (some (.int q.2), q.1) : hg_O)) hg_ox q) := by
  refine hg_start (cv := fun q => (Sum.elim (fun q => (.inl (some (.int q.2), q.1) : hg_O)) hg_ox q)) hq ?_
  intro F hF h
  refine hg_enter (lv := [(0, va_rf (some o))]) (by decide +kernel) (by simp [lg_sl, va_rf_cat, hg_cti, hg_ctr]) (by simp [lv_args, va_rf_cat, va_rf_some, hg_cti, hg_ctr]) ?_
  intro X hC hR
  show hg_G X l (hg_rm 6 100 Z) D 2 Z 0 [(0, va_rf (some o))] []
  have h : dc_wp (hm_SE_restart G Z o) F := h
  delta hm_SE_restart at h
  refine hg_aloadn (pc := 0) (j := 0) (i := 0) (r := (some o)) hC 0 rfl rfl (show decode prog_1_method_10_code 0 = .ok (.aload_n 0, 1) by decide +kernel) ?_
  refine hg_rgr (pc := 1) (r := (some o)) hC fl_SignalEngine_52 (show decode prog_1_method_10_code 1 = .ok (.getfield 52, 3) by decide +kernel) h ?_
  intro e1 h
  refine hg_ifnonnull (pc := 4) (tgt := 15) (r := e1) hC (show decode prog_1_method_10_code 4 = .ok (.ifnonnull 11, 3) by decide +kernel) (by decide +kernel) h ?_ ?_
  · intro h
    rcases dc_ite h with ⟨hr2, h⟩ | ⟨_, h⟩
    · exact hg_raise (pc := 7) (rest := []) hC hlt hR false exq_SignalEngine_142 exq_SignalEngine_142_two (show decode prog_1_method_10_code 7 = .ok (.new 140, 3) by decide +kernel) (show decode prog_1_method_10_code 10 = .ok (.dup, 1) by decide +kernel) (show decode prog_1_method_10_code 11 = .ok (.invokespecial 142, 3) by decide +kernel) (show decode prog_1_method_10_code 14 = .ok (.athrow, 1) by decide +kernel) hr2 (Nat.le_of_ble_eq_true rfl) (Nat.le_of_ble_eq_true rfl) ((fun (z : hg_X) (h : dc_wp (some (.inr z)) F) => hF (.inr z) (dc_some h)) ((Z.1, Z.2.1 + 1, Z.2.2.1 - 1, Z.2.2.2 - 6), Z.2.1, false) h)
    · exact (dc_not h).elim
  · intro h
    refine hg_aloadn (pc := 15) (j := 0) (i := 0) (r := (some o)) hC 0 rfl rfl (show decode prog_1_method_10_code 15 = .ok (.aload_n 0, 1) by decide +kernel) ?_
    refine hg_rgi (pc := 16) (r := (some o)) hC fl_SignalEngine_88 (show decode prog_1_method_10_code 16 = .ok (.getfield 88, 3) by decide +kernel) h ?_
    intro e3 h
    refine hg_istoren (pc := 19) (j := 1) (i := 1) (lv' := [(1, .int e3), (0, va_rf (some o))]) hC rfl (Nat.le_of_ble_eq_true rfl) rfl (show decode prog_1_method_10_code 19 = .ok (.istore_n 1, 1) by decide +kernel) ?_
    refine hg_aloadn (pc := 20) (j := 0) (i := 0) (r := (some o)) hC 1 rfl rfl (show decode prog_1_method_10_code 20 = .ok (.aload_n 0, 1) by decide +kernel) ?_
    refine hg_sipush (pc := 21) (v := 256) hC (show decode prog_1_method_10_code 21 = .ok (.sipush 256, 3) by decide +kernel) (by decide +kernel) ?_
    obtain ⟨b4, hb5, h⟩ := dc_bind h
    obtain ⟨hb5, hv6⟩ := hg_chk_of (C := R_SE) rfl hb5
    refine hg_kVv (pc := 24) (b := b4) (r := (some o)) (As := [.int 256]) (rest := []) (so := fun q => q) hC cw_SignalEngine_143 (fun q hq => hm_SE_stand_ok l D G Z b4 (256 : Int32) q hq) (Nat.le_of_ble_eq_true rfl) (Nat.le_of_ble_eq_true rfl) hb5 hv6 rfl (Nat.le_of_ble_eq_true rfl) (show decode prog_1_method_10_code 24 = .ok (.invokevirtual 143, 3) by decide +kernel) h ?_
    intro q7 h
    refine hg_iloadn (pc := 27) (j := 1) (i := 1) hC 0 rfl rfl (show decode prog_1_method_10_code 27 = .ok (.iload_n 1, 1) by decide +kernel) ?_
    exact hg_iret (pc := 28) hC hR (hF _ (dc_some h)) (show decode prog_1_method_10_code 28 = .ok (.ireturn, 1) by decide +kernel)
noncomputable def hm_RE_prepare_L86 (G : hg_E) (S : hg_S) (o : Nat) : Option (hg_S) :=
  some S
noncomputable def hm_RE_prepare_L78 (G : hg_E) (S : hg_S) (o : Nat) (x2 : Option Nat) (x3 : Int32) (y0 : Int32) (y1 : Int32) (y2 : Int32) (y3 : Option Nat) : Option ((hg_S × Int32) ⊕ ((hg_S))) :=
  (hg_st S y3 (G.1 0) y2 (y1 + y0)).bind fun S1 => some (.inl (S1, (x3 + 1)))
noncomputable def hm_RE_prepare_b48 (G : hg_E) (S : hg_S) (o : Nat) (x2 : Option Nat) (x3 : Int32) : Option ((hg_S × Int32) ⊕ ((hg_S))) :=
  (hg_ln S x2 (G.1 2)).bind fun e2 => if x3 < e2 then ((hg_gr S (some o) 10 10).bind fun e3 => (hg_gr S (some o) 10 10).bind fun e4 => (hg_ld S e4 (G.1 0) x3).bind fun e5 => (hg_ld S x2 (G.1 2) x3).bind fun e6 => if e6 = 0 then (hm_RE_prepare_L78 G S o x2 x3 0 e5 (x3 + 1) e3) else (hm_RE_prepare_L78 G S o x2 x3 1 e5 (x3 + 1) e3)) else (some (.inr S))
noncomputable def hm_RE_prepare_s48 (G : hg_E) (o : Nat) (x2 : Option Nat) (q : hg_S × Int32) : Option ((hg_S × Int32) ⊕ ((hg_S))) :=
  hm_RE_prepare_b48 G q.1 o x2 q.2
noncomputable def hm_RE_prepare_L48 (G : hg_E) (S : hg_S) (o : Nat) (x2 : Option Nat) (x3 : Int32) : Option (hg_S) :=
  (dc_it (hm_RE_prepare_s48 G o x2) (S, x3)).bind (fun (z : hg_S) => hm_RE_prepare_L86 G z o)
noncomputable def hm_RE_prepare_L46 (G : hg_E) (S : hg_S) (o : Nat) (x2 : Option Nat) : Option (hg_S) :=
  hm_RE_prepare_L48 G S o x2 0
noncomputable def hm_RE_prepare_b18 (G : hg_E) (S : hg_S) (o : Nat) (x1 : Int32) (x2 : Option Nat) (x3 : Int32) : Option ((hg_S × Int32) ⊕ ((hg_S))) :=
  (hg_gr S (some o) 10 0).bind fun e7 => (hg_gi S e7 9 1).bind fun e8 => if x3 < e8 then ((hg_gr S (some o) 10 1).bind fun e9 => (hg_st S e9 (G.1 0) x3 (((((Int32.toUInt32 x1 >>> (Int32.toUInt32 x3 &&& Int32.toUInt32 31)).toInt32)) &&& 1))).bind fun S10 => some (.inl (S10, (x3 + 1)))) else (some (.inr S))
noncomputable def hm_RE_prepare_s18 (G : hg_E) (o : Nat) (x1 : Int32) (x2 : Option Nat) (q : hg_S × Int32) : Option ((hg_S × Int32) ⊕ ((hg_S))) :=
  hm_RE_prepare_b18 G q.1 o x1 x2 q.2
noncomputable def hm_RE_prepare_L18 (G : hg_E) (S : hg_S) (o : Nat) (x1 : Int32) (x2 : Option Nat) (x3 : Int32) : Option (hg_S) :=
  (dc_it (hm_RE_prepare_s18 G o x1 x2) (S, x3)).bind (fun (z : hg_S) => hm_RE_prepare_L46 G z o x2)
noncomputable def hm_RE_prepare (G : hg_E) (S : hg_S) (o : Nat) (p1 : Int32) (p2 : Option Nat) : Option (hg_S) :=
  (hg_gr S (some o) 10 1).bind fun e11 => (hm_JA_fill G S e11 (2 : Int32)).bind fun q12 => (hg_gr q12 (some o) 10 2).bind fun e13 => (hm_JA_fill G q12 e13 (0 : Int32)).bind fun q14 => hm_RE_prepare_L18 G q14 o p1 p2 0
set_option maxHeartbeats 4000000 in
set_option maxRecDepth 100000 in
/-- SignalEngine$Reactor.prepare(I[Z)V -/
theorem hm_RE_prepare_ok (l : Launch) (D : va_G) (G : hg_E) (Z : hg_S) (o : Nat) (p1 : Int32) (p2 : Option Nat) (q : hg_S) (hq : hm_RE_prepare G Z o p1 p2 = some q) : hg_C l ⟨"SignalEngine$Reactor", "prepare", "(I[Z)V"⟩ prog_12_method_4_code 4 none 1 23 D G [.ref o, .int p1, va_rf p2] Z (.inl (none, q) : hg_O) := by
  refine hg_start (cv := fun q => (.inl (none, q) : hg_O)) hq ?_
  intro F hF h
  refine hg_enter (lv := [(0, va_rf (some o)), (1, .int p1), (2, va_rf p2)]) (by decide +kernel) (by simp [lg_sl, va_rf_cat, hg_cti, hg_ctr]) (by simp [lv_args, va_rf_cat, va_rf_some, hg_cti, hg_ctr]) ?_
  intro X hC hR
  have lab_86 : ∀ (S : hg_S), dc_wp (hm_RE_prepare_L86 G S o) F → hg_G X l (hg_rm 1 23 Z) D 4 S 86 [(0, va_rf (some o))] [] := by
    intro S  h
    delta hm_RE_prepare_L86 at h
    exact hg_vret (pc := 86) hC hR (hF _ (dc_some h)) (show decode prog_12_method_4_code 86 = .ok (.return_, 1) by decide +kernel)
  have loop_48 : ∀ (x2 : Option Nat) (q : hg_S × Int32), dc_wp (dc_it (hm_RE_prepare_s48 G o x2) q) (fun z => dc_wp ((fun (z : hg_S) => hm_RE_prepare_L86 G z o) z) F) → hg_G X l (hg_rm 1 23 Z) D 4 q.1 48 [(0, va_rf (some o)), (2, va_rf x2), (3, .int q.2)] [] := by
    intro x2
    refine dc_loopF ?_
    intro F_48 hl_48 hr_48
    have lab_78 : ∀ (S : hg_S) (x3 : Int32) (y0 : Int32) (y1 : Int32) (y2 : Int32) (y3 : Option Nat), dc_wp (hm_RE_prepare_L78 G S o x2 x3 y0 y1 y2 y3) F_48 → hg_G X l (hg_rm 1 23 Z) D 4 S 78 [(0, va_rf (some o)), (2, va_rf x2), (3, .int x3)] [.int y0, .int y1, .int y2, va_rf y3] := by
      intro S x3 y0 y1 y2 y3 h
      delta hm_RE_prepare_L78 at h
      refine hg_iadd (pc := 78) hC (show decode prog_12_method_4_code 78 = .ok (.iadd, 1) by decide +kernel) ?_
      refine hg_riast (pc := 79) (r := y3) hC (show decode prog_12_method_4_code 79 = .ok (.iastore, 1) by decide +kernel) h ?_
      intro S1 h
      refine hg_iinc (pc := 80) (i := 3) (v := (x3 + 1)) (lv' := [(3, .int (x3 + 1)), (0, va_rf (some o)), (2, va_rf x2)]) hC 2 rfl rfl (Nat.le_of_ble_eq_true rfl) (by simp [va_rf_cat, hg_cti]) (show decode prog_12_method_4_code 80 = .ok (.iinc 3 1, 3) by decide +kernel) ?_
      refine hg_goto (pc := 83) (tgt := 48) hC (show decode prog_12_method_4_code 83 = .ok (.goto (-35), 3) by decide +kernel) (by decide +kernel) ?_
      exact hg_sub [1, 2, 0] rfl (hl_48 (S1, (x3 + 1)) (dc_some h))
    rintro ⟨S, x3⟩ h
    have h : dc_wp (hm_RE_prepare_b48 G S o x2 x3) F_48 := h
    delta hm_RE_prepare_b48 at h
    refine hg_iloadn (pc := 48) (j := 3) (i := 3) hC 2 rfl rfl (show decode prog_12_method_4_code 48 = .ok (.iload_n 3, 1) by decide +kernel) ?_
    refine hg_aloadn (pc := 49) (j := 2) (i := 2) (r := x2) hC 1 rfl rfl (show decode prog_12_method_4_code 49 = .ok (.aload_n 2, 1) by decide +kernel) ?_
    refine hg_rlen (pc := 50) (r := x2) (t := 2) hC rfl (show decode prog_12_method_4_code 50 = .ok (.arraylength, 1) by decide +kernel) h ?_
    intro e2 h
    refine hg_icmp_ge (pc := 51) (tgt := 86) hC (show decode prog_12_method_4_code 51 = .ok (.if_icmp .ge 35, 3) by decide +kernel) (by decide +kernel) h ?_ ?_
    · intro h
      refine hg_aloadn (pc := 54) (j := 0) (i := 0) (r := (some o)) hC 0 rfl rfl (show decode prog_12_method_4_code 54 = .ok (.aload_n 0, 1) by decide +kernel) ?_
      refine hg_rgr (pc := 55) (r := (some o)) hC fl_SignalEngine_Reactor_73 (show decode prog_12_method_4_code 55 = .ok (.getfield 73, 3) by decide +kernel) h ?_
      intro e3 h
      refine hg_iloadn (pc := 58) (j := 3) (i := 3) hC 2 rfl rfl (show decode prog_12_method_4_code 58 = .ok (.iload_n 3, 1) by decide +kernel) ?_
      refine hg_iconst (pc := 59) (v := 1) hC (show decode prog_12_method_4_code 59 = .ok (.iconst 1, 1) by decide +kernel) (by decide +kernel) ?_
      refine hg_iadd (pc := 60) hC (show decode prog_12_method_4_code 60 = .ok (.iadd, 1) by decide +kernel) ?_
      refine hg_aloadn (pc := 61) (j := 0) (i := 0) (r := (some o)) hC 0 rfl rfl (show decode prog_12_method_4_code 61 = .ok (.aload_n 0, 1) by decide +kernel) ?_
      refine hg_rgr (pc := 62) (r := (some o)) hC fl_SignalEngine_Reactor_73 (show decode prog_12_method_4_code 62 = .ok (.getfield 73, 3) by decide +kernel) h ?_
      intro e4 h
      refine hg_iloadn (pc := 65) (j := 3) (i := 3) hC 2 rfl rfl (show decode prog_12_method_4_code 65 = .ok (.iload_n 3, 1) by decide +kernel) ?_
      refine hg_riald (pc := 66) (r := e4) hC (show decode prog_12_method_4_code 66 = .ok (.iaload, 1) by decide +kernel) h ?_
      intro e5 h
      refine hg_aloadn (pc := 67) (j := 2) (i := 2) (r := x2) hC 1 rfl rfl (show decode prog_12_method_4_code 67 = .ok (.aload_n 2, 1) by decide +kernel) ?_
      refine hg_iloadn (pc := 68) (j := 3) (i := 3) hC 2 rfl rfl (show decode prog_12_method_4_code 68 = .ok (.iload_n 3, 1) by decide +kernel) ?_
      refine hg_rzald (pc := 69) (r := x2) hC (show decode prog_12_method_4_code 69 = .ok (.baload, 1) by decide +kernel) h ?_
      intro e6 h
      refine hg_if_eq (pc := 70) (tgt := 77) hC (show decode prog_12_method_4_code 70 = .ok (.ifCond .eq 7, 3) by decide +kernel) (by decide +kernel) h ?_ ?_
      · intro h
        refine hg_iconst (pc := 77) (v := 0) hC (show decode prog_12_method_4_code 77 = .ok (.iconst 0, 1) by decide +kernel) (by decide +kernel) ?_
        exact lab_78 S x3 0 e5 (x3 + 1) e3 h
      · intro h
        refine hg_iconst (pc := 73) (v := 1) hC (show decode prog_12_method_4_code 73 = .ok (.iconst 1, 1) by decide +kernel) (by decide +kernel) ?_
        refine hg_goto (pc := 74) (tgt := 78) hC (show decode prog_12_method_4_code 74 = .ok (.goto 4, 3) by decide +kernel) (by decide +kernel) ?_
        exact lab_78 S x3 1 e5 (x3 + 1) e3 h
    · intro h
      have h : dc_wp (hm_RE_prepare_L86 G S o) F := hr_48 S (dc_some h)
      exact hg_sub [0] rfl (lab_86 S h)
  have lab_48 : ∀ (S : hg_S) (x2 : Option Nat) (x3 : Int32), dc_wp (hm_RE_prepare_L48 G S o x2 x3) F → hg_G X l (hg_rm 1 23 Z) D 4 S 48 [(0, va_rf (some o)), (2, va_rf x2), (3, .int x3)] [] := fun S x2 x3 h => loop_48 x2 (S, x3) (dc_bind h)
  have lab_46 : ∀ (S : hg_S) (x2 : Option Nat), dc_wp (hm_RE_prepare_L46 G S o x2) F → hg_G X l (hg_rm 1 23 Z) D 4 S 46 [(0, va_rf (some o)), (2, va_rf x2)] [] := by
    intro S x2 h
    delta hm_RE_prepare_L46 at h
    refine hg_iconst (pc := 46) (v := 0) hC (show decode prog_12_method_4_code 46 = .ok (.iconst 0, 1) by decide +kernel) (by decide +kernel) ?_
    refine hg_istoren (pc := 47) (j := 3) (i := 3) (lv' := [(3, .int 0), (0, va_rf (some o)), (2, va_rf x2)]) hC rfl (Nat.le_of_ble_eq_true rfl) (by simp [va_rf_cat, hg_cti]) (show decode prog_12_method_4_code 47 = .ok (.istore_n 3, 1) by decide +kernel) ?_
    exact hg_sub [1, 2, 0] rfl (lab_48 S x2 0 h)
  have loop_18 : ∀ (x1 : Int32) (x2 : Option Nat) (q : hg_S × Int32), dc_wp (dc_it (hm_RE_prepare_s18 G o x1 x2) q) (fun z => dc_wp ((fun (z : hg_S) => hm_RE_prepare_L46 G z o x2) z) F) → hg_G X l (hg_rm 1 23 Z) D 4 q.1 18 [(0, va_rf (some o)), (1, .int x1), (2, va_rf x2), (3, .int q.2)] [] := by
    intro x1 x2
    refine dc_loopF ?_
    intro F_18 hl_18 hr_18
    rintro ⟨S, x3⟩ h
    have h : dc_wp (hm_RE_prepare_b18 G S o x1 x2 x3) F_18 := h
    delta hm_RE_prepare_b18 at h
    refine hg_iloadn (pc := 18) (j := 3) (i := 3) hC 3 rfl rfl (show decode prog_12_method_4_code 18 = .ok (.iload_n 3, 1) by decide +kernel) ?_
    refine hg_aloadn (pc := 19) (j := 0) (i := 0) (r := (some o)) hC 0 rfl rfl (show decode prog_12_method_4_code 19 = .ok (.aload_n 0, 1) by decide +kernel) ?_
    refine hg_rgr (pc := 20) (r := (some o)) hC fl_SignalEngine_Reactor_9 (show decode prog_12_method_4_code 20 = .ok (.getfield 9, 3) by decide +kernel) h ?_
    intro e7 h
    refine hg_rgi (pc := 23) (r := e7) hC fl_SignalEngine_Reactor_79 (show decode prog_12_method_4_code 23 = .ok (.getfield 79, 3) by decide +kernel) h ?_
    intro e8 h
    refine hg_icmp_ge (pc := 26) (tgt := 46) hC (show decode prog_12_method_4_code 26 = .ok (.if_icmp .ge 20, 3) by decide +kernel) (by decide +kernel) h ?_ ?_
    · intro h
      refine hg_aloadn (pc := 29) (j := 0) (i := 0) (r := (some o)) hC 0 rfl rfl (show decode prog_12_method_4_code 29 = .ok (.aload_n 0, 1) by decide +kernel) ?_
      refine hg_rgr (pc := 30) (r := (some o)) hC fl_SignalEngine_Reactor_41 (show decode prog_12_method_4_code 30 = .ok (.getfield 41, 3) by decide +kernel) h ?_
      intro e9 h
      refine hg_iloadn (pc := 33) (j := 3) (i := 3) hC 3 rfl rfl (show decode prog_12_method_4_code 33 = .ok (.iload_n 3, 1) by decide +kernel) ?_
      refine hg_iloadn (pc := 34) (j := 1) (i := 1) hC 1 rfl rfl (show decode prog_12_method_4_code 34 = .ok (.iload_n 1, 1) by decide +kernel) ?_
      refine hg_iloadn (pc := 35) (j := 3) (i := 3) hC 3 rfl rfl (show decode prog_12_method_4_code 35 = .ok (.iload_n 3, 1) by decide +kernel) ?_
      refine hg_iushr (pc := 36) hC (show decode prog_12_method_4_code 36 = .ok (.iushr, 1) by decide +kernel) ?_
      refine hg_iconst (pc := 37) (v := 1) hC (show decode prog_12_method_4_code 37 = .ok (.iconst 1, 1) by decide +kernel) (by decide +kernel) ?_
      refine hg_iand (pc := 38) hC (show decode prog_12_method_4_code 38 = .ok (.iand, 1) by decide +kernel) ?_
      refine hg_riast (pc := 39) (r := e9) hC (show decode prog_12_method_4_code 39 = .ok (.iastore, 1) by decide +kernel) h ?_
      intro S10 h
      refine hg_iinc (pc := 40) (i := 3) (v := (x3 + 1)) (lv' := [(3, .int (x3 + 1)), (0, va_rf (some o)), (1, .int x1), (2, va_rf x2)]) hC 3 rfl rfl (Nat.le_of_ble_eq_true rfl) (by simp [va_rf_cat, hg_cti]) (show decode prog_12_method_4_code 40 = .ok (.iinc 3 1, 3) by decide +kernel) ?_
      refine hg_goto (pc := 43) (tgt := 18) hC (show decode prog_12_method_4_code 43 = .ok (.goto (-25), 3) by decide +kernel) (by decide +kernel) ?_
      exact hg_sub [1, 2, 3, 0] rfl (hl_18 (S10, (x3 + 1)) (dc_some h))
    · intro h
      have h : dc_wp (hm_RE_prepare_L46 G S o x2) F := hr_18 S (dc_some h)
      exact hg_sub [0, 2] rfl (lab_46 S x2 h)
  have lab_18 : ∀ (S : hg_S) (x1 : Int32) (x2 : Option Nat) (x3 : Int32), dc_wp (hm_RE_prepare_L18 G S o x1 x2 x3) F → hg_G X l (hg_rm 1 23 Z) D 4 S 18 [(0, va_rf (some o)), (1, .int x1), (2, va_rf x2), (3, .int x3)] [] := fun S x1 x2 x3 h => loop_18 x1 x2 (S, x3) (dc_bind h)
  show hg_G X l (hg_rm 1 23 Z) D 4 Z 0 [(0, va_rf (some o)), (1, .int p1), (2, va_rf p2)] []
  have h : dc_wp (hm_RE_prepare G Z o p1 p2) F := h
  delta hm_RE_prepare at h
  refine hg_aloadn (pc := 0) (j := 0) (i := 0) (r := (some o)) hC 0 rfl rfl (show decode prog_12_method_4_code 0 = .ok (.aload_n 0, 1) by decide +kernel) ?_
  refine hg_rgr (pc := 1) (r := (some o)) hC fl_SignalEngine_Reactor_41 (show decode prog_12_method_4_code 1 = .ok (.getfield 41, 3) by decide +kernel) h ?_
  intro e11 h
  refine hg_iconst (pc := 4) (v := 2) hC (show decode prog_12_method_4_code 4 = .ok (.iconst 2, 1) by decide +kernel) (by decide +kernel) ?_
  refine hg_kSv (pc := 5) (As := [va_rf e11, .int 2]) (rest := []) (so := fun q => q) hC cw_SignalEngine_Reactor_116 (fun q hq => hm_JA_fill_ok l D G Z e11 (2 : Int32) q hq) (Nat.le_of_ble_eq_true rfl) (Nat.le_of_ble_eq_true rfl) rfl (Nat.le_of_ble_eq_true rfl) (show decode prog_12_method_4_code 5 = .ok (.invokestatic 116, 3) by decide +kernel) h ?_
  intro q12 h
  refine hg_aloadn (pc := 8) (j := 0) (i := 0) (r := (some o)) hC 0 rfl rfl (show decode prog_12_method_4_code 8 = .ok (.aload_n 0, 1) by decide +kernel) ?_
  refine hg_rgr (pc := 9) (r := (some o)) hC fl_SignalEngine_Reactor_44 (show decode prog_12_method_4_code 9 = .ok (.getfield 44, 3) by decide +kernel) h ?_
  intro e13 h
  refine hg_iconst (pc := 12) (v := 0) hC (show decode prog_12_method_4_code 12 = .ok (.iconst 0, 1) by decide +kernel) (by decide +kernel) ?_
  refine hg_kSv (pc := 13) (As := [va_rf e13, .int 0]) (rest := []) (so := fun q => q) hC cw_SignalEngine_Reactor_116 (fun q hq => hm_JA_fill_ok l D G q12 e13 (0 : Int32) q hq) (Nat.le_of_ble_eq_true rfl) (Nat.le_of_ble_eq_true rfl) rfl (Nat.le_of_ble_eq_true rfl) (show decode prog_12_method_4_code 13 = .ok (.invokestatic 116, 3) by decide +kernel) h ?_
  intro q14 h
  refine hg_iconst (pc := 16) (v := 0) hC (show decode prog_12_method_4_code 16 = .ok (.iconst 0, 1) by decide +kernel) (by decide +kernel) ?_
  refine hg_istoren (pc := 17) (j := 3) (i := 3) (lv' := [(3, .int 0), (0, va_rf (some o)), (1, .int p1), (2, va_rf p2)]) hC rfl (Nat.le_of_ble_eq_true rfl) (by simp [va_rf_cat, hg_cti]) (show decode prog_12_method_4_code 17 = .ok (.istore_n 3, 1) by decide +kernel) ?_
  exact hg_sub [1, 2, 3, 0] rfl (lab_18 q14 p1 p2 0 h)
noncomputable def hm_RE_clear_L36 (G : hg_E) (S : hg_S) (o : Nat) : Option (hg_S) :=
  some S
noncomputable def hm_RE_clear_b10 (G : hg_E) (S : hg_S) (o : Nat) (x1 : Int32) (x2 : Int32) : Option ((hg_S × Int32) ⊕ ((hg_S))) :=
  (hg_gr S (some o) 10 0).bind fun e1 => (hg_gr S e1 9 16).bind fun e2 => (hg_ld S e2 (G.1 0) x1).bind fun e3 => if x2 < e3 then ((hg_gr S (some o) 10 11).bind fun e4 => (hg_st S e4 (G.1 2) x2 0).bind fun S5 => some (.inl (S5, (x2 + 1)))) else (some (.inr S))
noncomputable def hm_RE_clear_s10 (G : hg_E) (o : Nat) (x1 : Int32) (q : hg_S × Int32) : Option ((hg_S × Int32) ⊕ ((hg_S))) :=
  hm_RE_clear_b10 G q.1 o x1 q.2
noncomputable def hm_RE_clear_L10 (G : hg_E) (S : hg_S) (o : Nat) (x1 : Int32) (x2 : Int32) : Option (hg_S) :=
  (dc_it (hm_RE_clear_s10 G o x1) (S, x2)).bind (fun (z : hg_S) => hm_RE_clear_L36 G z o)
noncomputable def hm_RE_clear (G : hg_E) (S : hg_S) (o : Nat) (p1 : Int32) : Option (hg_S) :=
  (hg_gr S (some o) 10 0).bind fun e6 => (hg_gr S e6 9 15).bind fun e7 => (hg_ld S e7 (G.1 0) p1).bind fun e8 => hm_RE_clear_L10 G S o p1 e8
set_option maxHeartbeats 4000000 in
set_option maxRecDepth 100000 in
/-- SignalEngine$Reactor.clear(I)V -/
theorem hm_RE_clear_ok (l : Launch) (D : va_G) (G : hg_E) (Z : hg_S) (o : Nat) (p1 : Int32) (q : hg_S) (hq : hm_RE_clear G Z o p1 = some q) : hg_C l ⟨"SignalEngine$Reactor", "clear", "(I)V"⟩ prog_12_method_9_code 3 none 0 0 D G [.ref o, .int p1] Z (.inl (none, q) : hg_O) := by
  refine hg_start (cv := fun q => (.inl (none, q) : hg_O)) hq ?_
  intro F hF h
  refine hg_enter (lv := [(0, va_rf (some o)), (1, .int p1)]) (by decide +kernel) (by simp [lg_sl, va_rf_cat, hg_cti, hg_ctr]) (by simp [lv_args, va_rf_cat, va_rf_some, hg_cti, hg_ctr]) ?_
  intro X hC hR
  have lab_36 : ∀ (S : hg_S), dc_wp (hm_RE_clear_L36 G S o) F → hg_G X l (hg_rm 0 0 Z) D 3 S 36 [(0, va_rf (some o))] [] := by
    intro S  h
    delta hm_RE_clear_L36 at h
    exact hg_vret (pc := 36) hC hR (hF _ (dc_some h)) (show decode prog_12_method_9_code 36 = .ok (.return_, 1) by decide +kernel)
  have loop_10 : ∀ (x1 : Int32) (q : hg_S × Int32), dc_wp (dc_it (hm_RE_clear_s10 G o x1) q) (fun z => dc_wp ((fun (z : hg_S) => hm_RE_clear_L36 G z o) z) F) → hg_G X l (hg_rm 0 0 Z) D 3 q.1 10 [(0, va_rf (some o)), (1, .int x1), (2, .int q.2)] [] := by
    intro x1
    refine dc_loopF ?_
    intro F_10 hl_10 hr_10
    rintro ⟨S, x2⟩ h
    have h : dc_wp (hm_RE_clear_b10 G S o x1 x2) F_10 := h
    delta hm_RE_clear_b10 at h
    refine hg_iloadn (pc := 10) (j := 2) (i := 2) hC 2 rfl rfl (show decode prog_12_method_9_code 10 = .ok (.iload_n 2, 1) by decide +kernel) ?_
    refine hg_aloadn (pc := 11) (j := 0) (i := 0) (r := (some o)) hC 0 rfl rfl (show decode prog_12_method_9_code 11 = .ok (.aload_n 0, 1) by decide +kernel) ?_
    refine hg_rgr (pc := 12) (r := (some o)) hC fl_SignalEngine_Reactor_9 (show decode prog_12_method_9_code 12 = .ok (.getfield 9, 3) by decide +kernel) h ?_
    intro e1 h
    refine hg_rgr (pc := 15) (r := e1) hC fl_SignalEngine_Reactor_168 (show decode prog_12_method_9_code 15 = .ok (.getfield 168, 3) by decide +kernel) h ?_
    intro e2 h
    refine hg_iloadn (pc := 18) (j := 1) (i := 1) hC 1 rfl rfl (show decode prog_12_method_9_code 18 = .ok (.iload_n 1, 1) by decide +kernel) ?_
    refine hg_riald (pc := 19) (r := e2) hC (show decode prog_12_method_9_code 19 = .ok (.iaload, 1) by decide +kernel) h ?_
    intro e3 h
    refine hg_icmp_ge (pc := 20) (tgt := 36) hC (show decode prog_12_method_9_code 20 = .ok (.if_icmp .ge 16, 3) by decide +kernel) (by decide +kernel) h ?_ ?_
    · intro h
      refine hg_aloadn (pc := 23) (j := 0) (i := 0) (r := (some o)) hC 0 rfl rfl (show decode prog_12_method_9_code 23 = .ok (.aload_n 0, 1) by decide +kernel) ?_
      refine hg_rgr (pc := 24) (r := (some o)) hC fl_SignalEngine_Reactor_76 (show decode prog_12_method_9_code 24 = .ok (.getfield 76, 3) by decide +kernel) h ?_
      intro e4 h
      refine hg_iloadn (pc := 27) (j := 2) (i := 2) hC 2 rfl rfl (show decode prog_12_method_9_code 27 = .ok (.iload_n 2, 1) by decide +kernel) ?_
      refine hg_iconst (pc := 28) (v := 0) hC (show decode prog_12_method_9_code 28 = .ok (.iconst 0, 1) by decide +kernel) (by decide +kernel) ?_
      refine hg_rzast (pc := 29) (r := e4) hC (Or.inl rfl) (show decode prog_12_method_9_code 29 = .ok (.bastore, 1) by decide +kernel) h ?_
      intro S5 h
      refine hg_iinc (pc := 30) (i := 2) (v := (x2 + 1)) (lv' := [(2, .int (x2 + 1)), (0, va_rf (some o)), (1, .int x1)]) hC 2 rfl rfl (Nat.le_of_ble_eq_true rfl) rfl (show decode prog_12_method_9_code 30 = .ok (.iinc 2 1, 3) by decide +kernel) ?_
      refine hg_goto (pc := 33) (tgt := 10) hC (show decode prog_12_method_9_code 33 = .ok (.goto (-23), 3) by decide +kernel) (by decide +kernel) ?_
      exact hg_sub [1, 2, 0] rfl (hl_10 (S5, (x2 + 1)) (dc_some h))
    · intro h
      have h : dc_wp (hm_RE_clear_L36 G S o) F := hr_10 S (dc_some h)
      exact hg_sub [0] rfl (lab_36 S h)
  have lab_10 : ∀ (S : hg_S) (x1 : Int32) (x2 : Int32), dc_wp (hm_RE_clear_L10 G S o x1 x2) F → hg_G X l (hg_rm 0 0 Z) D 3 S 10 [(0, va_rf (some o)), (1, .int x1), (2, .int x2)] [] := fun S x1 x2 h => loop_10 x1 (S, x2) (dc_bind h)
  show hg_G X l (hg_rm 0 0 Z) D 3 Z 0 [(0, va_rf (some o)), (1, .int p1)] []
  have h : dc_wp (hm_RE_clear G Z o p1) F := h
  delta hm_RE_clear at h
  refine hg_aloadn (pc := 0) (j := 0) (i := 0) (r := (some o)) hC 0 rfl rfl (show decode prog_12_method_9_code 0 = .ok (.aload_n 0, 1) by decide +kernel) ?_
  refine hg_rgr (pc := 1) (r := (some o)) hC fl_SignalEngine_Reactor_9 (show decode prog_12_method_9_code 1 = .ok (.getfield 9, 3) by decide +kernel) h ?_
  intro e6 h
  refine hg_rgr (pc := 4) (r := e6) hC fl_SignalEngine_Reactor_165 (show decode prog_12_method_9_code 4 = .ok (.getfield 165, 3) by decide +kernel) h ?_
  intro e7 h
  refine hg_iloadn (pc := 7) (j := 1) (i := 1) hC 1 rfl rfl (show decode prog_12_method_9_code 7 = .ok (.iload_n 1, 1) by decide +kernel) ?_
  refine hg_riald (pc := 8) (r := e7) hC (show decode prog_12_method_9_code 8 = .ok (.iaload, 1) by decide +kernel) h ?_
  intro e8 h
  refine hg_istoren (pc := 9) (j := 2) (i := 2) (lv' := [(2, .int e8), (0, va_rf (some o)), (1, .int p1)]) hC rfl (Nat.le_of_ble_eq_true rfl) rfl (show decode prog_12_method_9_code 9 = .ok (.istore_n 2, 1) by decide +kernel) ?_
  exact hg_sub [1, 2, 0] rfl (lab_10 Z p1 e8 h)
noncomputable def hm_RE_within (G : hg_E) (S : hg_S) (o : Nat) (p1 : Int32) (p2 : Int32) : Option (hg_S × Int32) :=
  (hg_gr S (some o) 10 9).bind fun e1 => (dc_zb p2).bind fun _ => (hg_st S e1 (G.1 2) p1 p2).bind fun S3 => some (S3, p1)
set_option maxHeartbeats 4000000 in
set_option maxRecDepth 100000 in
/-- SignalEngine$Reactor.within(IZ)I -/
theorem hm_RE_within_ok (l : Launch) (D : va_G) (G : hg_E) (Z : hg_S) (o : Nat) (p1 : Int32) (p2 : Int32) (q : hg_S × Int32) (hq : hm_RE_within G Z o p1 p2 = some q) : hg_C l ⟨"SignalEngine$Reactor", "within", "(IZ)I"⟩ prog_12_method_12_code 3 (some (.int)) 0 0 D G [.ref o, .int p1, .int p2] Z (.inl (some (.int q.2), q.1) : hg_O) := by
  refine hg_start (cv := fun q => (.inl (some (.int q.2), q.1) : hg_O)) hq ?_
  intro F hF h
  refine hg_enter (lv := [(0, va_rf (some o)), (1, .int p1), (2, .int p2)]) (by decide +kernel) (by simp [lg_sl, va_rf_cat, hg_cti, hg_ctr]) (by simp [lv_args, va_rf_cat, va_rf_some, hg_cti, hg_ctr]) ?_
  intro X hC hR
  show hg_G X l (hg_rm 0 0 Z) D 3 Z 0 [(0, va_rf (some o)), (1, .int p1), (2, .int p2)] []
  have h : dc_wp (hm_RE_within G Z o p1 p2) F := h
  delta hm_RE_within at h
  refine hg_aloadn (pc := 0) (j := 0) (i := 0) (r := (some o)) hC 0 rfl rfl (show decode prog_12_method_12_code 0 = .ok (.aload_n 0, 1) by decide +kernel) ?_
  refine hg_rgr (pc := 1) (r := (some o)) hC fl_SignalEngine_Reactor_66 (show decode prog_12_method_12_code 1 = .ok (.getfield 66, 3) by decide +kernel) h ?_
  intro e1 h
  refine hg_iloadn (pc := 4) (j := 1) (i := 1) hC 1 rfl rfl (show decode prog_12_method_12_code 4 = .ok (.iload_n 1, 1) by decide +kernel) ?_
  refine hg_iloadn (pc := 5) (j := 2) (i := 2) hC 2 rfl rfl (show decode prog_12_method_12_code 5 = .ok (.iload_n 2, 1) by decide +kernel) ?_
  obtain ⟨hz2, h⟩ := dc_zb_wp (dc_bind h)
  refine hg_rzast (pc := 6) (r := e1) hC hz2 (show decode prog_12_method_12_code 6 = .ok (.bastore, 1) by decide +kernel) h ?_
  intro S3 h
  refine hg_iloadn (pc := 7) (j := 1) (i := 1) hC 1 rfl rfl (show decode prog_12_method_12_code 7 = .ok (.iload_n 1, 1) by decide +kernel) ?_
  exact hg_iret (pc := 8) hC hR (hF _ (dc_some h)) (show decode prog_12_method_12_code 8 = .ok (.ireturn, 1) by decide +kernel)
noncomputable def hm_RE_answer_L26 (G : hg_E) (S : hg_S) (o : Nat) (y0 : Int32) (y1 : Int32) (y2 : Option Nat) : Option (hg_S) :=
  (hg_st S y2 (G.1 0) y1 y0).bind fun S1 => some S1
noncomputable def hm_RE_answer (G : hg_E) (S : hg_S) (o : Nat) (p1 : Int32) (p2 : Int32) (p3 : Int32) : Option (hg_S) :=
  (hg_gr S (some o) 10 7).bind fun e2 => (hg_st S e2 (G.1 0) p1 p2).bind fun S3 => (hg_gr S3 (some o) 10 8).bind fun e4 => (hg_gr S3 (some o) 10 9).bind fun e5 => (hg_ld S3 e5 (G.1 2) p1).bind fun e6 => if e6 = 0 then (hm_RE_answer_L26 G S3 o (-1) p1 e4) else (hm_RE_answer_L26 G S3 o p3 p1 e4)
set_option maxHeartbeats 4000000 in
set_option maxRecDepth 100000 in
/-- SignalEngine$Reactor.answer(III)V -/
theorem hm_RE_answer_ok (l : Launch) (D : va_G) (G : hg_E) (Z : hg_S) (o : Nat) (p1 : Int32) (p2 : Int32) (p3 : Int32) (q : hg_S) (hq : hm_RE_answer G Z o p1 p2 p3 = some q) : hg_C l ⟨"SignalEngine$Reactor", "answer", "(III)V"⟩ prog_12_method_11_code 4 none 0 0 D G [.ref o, .int p1, .int p2, .int p3] Z (.inl (none, q) : hg_O) := by
  refine hg_start (cv := fun q => (.inl (none, q) : hg_O)) hq ?_
  intro F hF h
  refine hg_enter (lv := [(0, va_rf (some o)), (1, .int p1), (2, .int p2), (3, .int p3)]) (by decide +kernel) (by simp [lg_sl, va_rf_cat, hg_cti, hg_ctr]) (by simp [lv_args, va_rf_cat, va_rf_some, hg_cti, hg_ctr]) ?_
  intro X hC hR
  have lab_26 : ∀ (S : hg_S) (y0 : Int32) (y1 : Int32) (y2 : Option Nat), dc_wp (hm_RE_answer_L26 G S o y0 y1 y2) F → hg_G X l (hg_rm 0 0 Z) D 4 S 26 [(0, va_rf (some o))] [.int y0, .int y1, va_rf y2] := by
    intro S y0 y1 y2 h
    delta hm_RE_answer_L26 at h
    refine hg_riast (pc := 26) (r := y2) hC (show decode prog_12_method_11_code 26 = .ok (.iastore, 1) by decide +kernel) h ?_
    intro S1 h
    exact hg_vret (pc := 27) hC hR (hF _ (dc_some h)) (show decode prog_12_method_11_code 27 = .ok (.return_, 1) by decide +kernel)
  show hg_G X l (hg_rm 0 0 Z) D 4 Z 0 [(0, va_rf (some o)), (1, .int p1), (2, .int p2), (3, .int p3)] []
  have h : dc_wp (hm_RE_answer G Z o p1 p2 p3) F := h
  delta hm_RE_answer at h
  refine hg_aloadn (pc := 0) (j := 0) (i := 0) (r := (some o)) hC 0 rfl rfl (show decode prog_12_method_11_code 0 = .ok (.aload_n 0, 1) by decide +kernel) ?_
  refine hg_rgr (pc := 1) (r := (some o)) hC fl_SignalEngine_Reactor_60 (show decode prog_12_method_11_code 1 = .ok (.getfield 60, 3) by decide +kernel) h ?_
  intro e2 h
  refine hg_iloadn (pc := 4) (j := 1) (i := 1) hC 1 rfl rfl (show decode prog_12_method_11_code 4 = .ok (.iload_n 1, 1) by decide +kernel) ?_
  refine hg_iloadn (pc := 5) (j := 2) (i := 2) hC 2 rfl rfl (show decode prog_12_method_11_code 5 = .ok (.iload_n 2, 1) by decide +kernel) ?_
  refine hg_riast (pc := 6) (r := e2) hC (show decode prog_12_method_11_code 6 = .ok (.iastore, 1) by decide +kernel) h ?_
  intro S3 h
  refine hg_aloadn (pc := 7) (j := 0) (i := 0) (r := (some o)) hC 0 rfl rfl (show decode prog_12_method_11_code 7 = .ok (.aload_n 0, 1) by decide +kernel) ?_
  refine hg_rgr (pc := 8) (r := (some o)) hC fl_SignalEngine_Reactor_63 (show decode prog_12_method_11_code 8 = .ok (.getfield 63, 3) by decide +kernel) h ?_
  intro e4 h
  refine hg_iloadn (pc := 11) (j := 1) (i := 1) hC 1 rfl rfl (show decode prog_12_method_11_code 11 = .ok (.iload_n 1, 1) by decide +kernel) ?_
  refine hg_aloadn (pc := 12) (j := 0) (i := 0) (r := (some o)) hC 0 rfl rfl (show decode prog_12_method_11_code 12 = .ok (.aload_n 0, 1) by decide +kernel) ?_
  refine hg_rgr (pc := 13) (r := (some o)) hC fl_SignalEngine_Reactor_66 (show decode prog_12_method_11_code 13 = .ok (.getfield 66, 3) by decide +kernel) h ?_
  intro e5 h
  refine hg_iloadn (pc := 16) (j := 1) (i := 1) hC 1 rfl rfl (show decode prog_12_method_11_code 16 = .ok (.iload_n 1, 1) by decide +kernel) ?_
  refine hg_rzald (pc := 17) (r := e5) hC (show decode prog_12_method_11_code 17 = .ok (.baload, 1) by decide +kernel) h ?_
  intro e6 h
  refine hg_if_eq (pc := 18) (tgt := 25) hC (show decode prog_12_method_11_code 18 = .ok (.ifCond .eq 7, 3) by decide +kernel) (by decide +kernel) h ?_ ?_
  · intro h
    refine hg_iconst (pc := 25) (v := (-1)) hC (show decode prog_12_method_11_code 25 = .ok (.iconst (-1), 1) by decide +kernel) (by decide +kernel) ?_
    exact hg_sub [0] rfl (lab_26 S3 (-1) p1 e4 h)
  · intro h
    refine hg_iloadn (pc := 21) (j := 3) (i := 3) hC 3 rfl rfl (show decode prog_12_method_11_code 21 = .ok (.iload_n 3, 1) by decide +kernel) ?_
    refine hg_goto (pc := 22) (tgt := 26) hC (show decode prog_12_method_11_code 22 = .ok (.goto 4, 3) by decide +kernel) (by decide +kernel) ?_
    exact hg_sub [0] rfl (lab_26 S3 p3 p1 e4 h)
noncomputable def hm_RE_emit_L36 (G : hg_E) (S : hg_S) (o : Nat) : Option (hg_S) :=
  some S
noncomputable def hm_RE_emit (G : hg_E) (S : hg_S) (o : Nat) (p1 : Int32) (p2 : Int32) : Option (hg_S) :=
  (hg_gr S (some o) 10 2).bind fun e1 => (hg_gi S (some o) 10 12).bind fun e2 => (hg_st S e1 (G.1 0) p1 e2).bind fun S3 => if p2 = 0 then (hm_RE_emit_L36 G S3 o) else ((hg_gr S3 (some o) 10 1).bind fun e4 => (hg_ld S3 e4 (G.1 0) p1).bind fun e5 => if e5 = 2 then ((hg_gr S3 (some o) 10 1).bind fun e6 => (hg_st S3 e6 (G.1 0) p1 1).bind fun S7 => (hg_pf S7 (some o) 10 13 (.int 1)).bind fun S8 => hm_RE_emit_L36 G S8 o) else (hm_RE_emit_L36 G S3 o))
set_option maxHeartbeats 4000000 in
set_option maxRecDepth 100000 in
/-- SignalEngine$Reactor.emit(IZ)V -/
theorem hm_RE_emit_ok (l : Launch) (D : va_G) (G : hg_E) (Z : hg_S) (o : Nat) (p1 : Int32) (p2 : Int32) (q : hg_S) (hq : hm_RE_emit G Z o p1 p2 = some q) : hg_C l ⟨"SignalEngine$Reactor", "emit", "(IZ)V"⟩ prog_12_method_14_code 3 none 0 0 D G [.ref o, .int p1, .int p2] Z (.inl (none, q) : hg_O) := by
  refine hg_start (cv := fun q => (.inl (none, q) : hg_O)) hq ?_
  intro F hF h
  refine hg_enter (lv := [(0, va_rf (some o)), (1, .int p1), (2, .int p2)]) (by decide +kernel) (by simp [lg_sl, va_rf_cat, hg_cti, hg_ctr]) (by simp [lv_args, va_rf_cat, va_rf_some, hg_cti, hg_ctr]) ?_
  intro X hC hR
  have lab_36 : ∀ (S : hg_S), dc_wp (hm_RE_emit_L36 G S o) F → hg_G X l (hg_rm 0 0 Z) D 3 S 36 [(0, va_rf (some o))] [] := by
    intro S  h
    delta hm_RE_emit_L36 at h
    exact hg_vret (pc := 36) hC hR (hF _ (dc_some h)) (show decode prog_12_method_14_code 36 = .ok (.return_, 1) by decide +kernel)
  show hg_G X l (hg_rm 0 0 Z) D 3 Z 0 [(0, va_rf (some o)), (1, .int p1), (2, .int p2)] []
  have h : dc_wp (hm_RE_emit G Z o p1 p2) F := h
  delta hm_RE_emit at h
  refine hg_aloadn (pc := 0) (j := 0) (i := 0) (r := (some o)) hC 0 rfl rfl (show decode prog_12_method_14_code 0 = .ok (.aload_n 0, 1) by decide +kernel) ?_
  refine hg_rgr (pc := 1) (r := (some o)) hC fl_SignalEngine_Reactor_44 (show decode prog_12_method_14_code 1 = .ok (.getfield 44, 3) by decide +kernel) h ?_
  intro e1 h
  refine hg_iloadn (pc := 4) (j := 1) (i := 1) hC 1 rfl rfl (show decode prog_12_method_14_code 4 = .ok (.iload_n 1, 1) by decide +kernel) ?_
  refine hg_aloadn (pc := 5) (j := 0) (i := 0) (r := (some o)) hC 0 rfl rfl (show decode prog_12_method_14_code 5 = .ok (.aload_n 0, 1) by decide +kernel) ?_
  refine hg_rgi (pc := 6) (r := (some o)) hC fl_SignalEngine_Reactor_99 (show decode prog_12_method_14_code 6 = .ok (.getfield 99, 3) by decide +kernel) h ?_
  intro e2 h
  refine hg_riast (pc := 9) (r := e1) hC (show decode prog_12_method_14_code 9 = .ok (.iastore, 1) by decide +kernel) h ?_
  intro S3 h
  refine hg_iloadn (pc := 10) (j := 2) (i := 2) hC 2 rfl rfl (show decode prog_12_method_14_code 10 = .ok (.iload_n 2, 1) by decide +kernel) ?_
  refine hg_if_eq (pc := 11) (tgt := 36) hC (show decode prog_12_method_14_code 11 = .ok (.ifCond .eq 25, 3) by decide +kernel) (by decide +kernel) h ?_ ?_
  · intro h
    exact hg_sub [0] rfl (lab_36 S3 h)
  · intro h
    refine hg_aloadn (pc := 14) (j := 0) (i := 0) (r := (some o)) hC 0 rfl rfl (show decode prog_12_method_14_code 14 = .ok (.aload_n 0, 1) by decide +kernel) ?_
    refine hg_rgr (pc := 15) (r := (some o)) hC fl_SignalEngine_Reactor_41 (show decode prog_12_method_14_code 15 = .ok (.getfield 41, 3) by decide +kernel) h ?_
    intro e4 h
    refine hg_iloadn (pc := 18) (j := 1) (i := 1) hC 1 rfl rfl (show decode prog_12_method_14_code 18 = .ok (.iload_n 1, 1) by decide +kernel) ?_
    refine hg_riald (pc := 19) (r := e4) hC (show decode prog_12_method_14_code 19 = .ok (.iaload, 1) by decide +kernel) h ?_
    intro e5 h
    refine hg_iconst (pc := 20) (v := 2) hC (show decode prog_12_method_14_code 20 = .ok (.iconst 2, 1) by decide +kernel) (by decide +kernel) ?_
    refine hg_icmp_ne (pc := 21) (tgt := 36) hC (show decode prog_12_method_14_code 21 = .ok (.if_icmp .ne 15, 3) by decide +kernel) (by decide +kernel) h ?_ ?_
    · intro h
      refine hg_aloadn (pc := 24) (j := 0) (i := 0) (r := (some o)) hC 0 rfl rfl (show decode prog_12_method_14_code 24 = .ok (.aload_n 0, 1) by decide +kernel) ?_
      refine hg_rgr (pc := 25) (r := (some o)) hC fl_SignalEngine_Reactor_41 (show decode prog_12_method_14_code 25 = .ok (.getfield 41, 3) by decide +kernel) h ?_
      intro e6 h
      refine hg_iloadn (pc := 28) (j := 1) (i := 1) hC 1 rfl rfl (show decode prog_12_method_14_code 28 = .ok (.iload_n 1, 1) by decide +kernel) ?_
      refine hg_iconst (pc := 29) (v := 1) hC (show decode prog_12_method_14_code 29 = .ok (.iconst 1, 1) by decide +kernel) (by decide +kernel) ?_
      refine hg_riast (pc := 30) (r := e6) hC (show decode prog_12_method_14_code 30 = .ok (.iastore, 1) by decide +kernel) h ?_
      intro S7 h
      refine hg_aloadn (pc := 31) (j := 0) (i := 0) (r := (some o)) hC 0 rfl rfl (show decode prog_12_method_14_code 31 = .ok (.aload_n 0, 1) by decide +kernel) ?_
      refine hg_iconst (pc := 32) (v := 1) hC (show decode prog_12_method_14_code 32 = .ok (.iconst 1, 1) by decide +kernel) (by decide +kernel) ?_
      refine hg_rput (pc := 33) (r := (some o)) (v := .int 1) hC fp_SignalEngine_Reactor_95 (dc_nar (Or.inr rfl)).2.1 (dc_nar (Or.inr rfl)).2.2 (show decode prog_12_method_14_code 33 = .ok (.putfield 95, 3) by decide +kernel) h ?_
      intro S8 h
      exact hg_sub [0] rfl (lab_36 S8 h)
    · intro h
      exact hg_sub [0] rfl (lab_36 S3 h)
noncomputable def hm_RE_valueOf_L176 (G : hg_E) (S : hg_S) (o : Nat) (x1 : Int32) : Option (hg_S × Int32) :=
  (hg_gr S (some o) 10 5).bind fun e1 => (hg_ld S e1 (G.1 0) x1).bind fun e2 => some (S, e2)
noncomputable def hm_RE_valueOf_L170 (G : hg_E) (S : hg_S) (o : Nat) (x1 : Int32) (x2 : Option Nat) (x3 : Int32) : Option ((hg_S × Int32) ⊕ ((hg_S))) :=
  some (.inl (S, (x3 + (-1))))
noncomputable def hm_RE_valueOf_b19 (G : hg_E) (S : hg_S) (o : Nat) (x1 : Int32) (x2 : Option Nat) (x3 : Int32) : Option ((hg_S × Int32) ⊕ ((hg_S))) :=
  if x3 < x1 then (some (.inr S)) else ((hg_gr S x2 5 1).bind fun e3 => (hg_ld S e3 (G.1 0) x3).bind fun e4 => (hg_gr S x2 5 0).bind fun e5 => (hg_ld S e5 (G.1 0) x3).bind fun e6 => dc_let (e6 : Int32) fun v7 => if v7 = 0 then ((hg_gr S (some o) 10 5).bind fun e8 => (hg_gr S (some o) 10 1).bind fun e9 => (hg_gr S (some o) 10 4).bind fun e10 => (hg_ld S e10 (G.1 0) e4).bind fun e11 => (hg_ld S e9 (G.1 0) e11).bind fun e12 => (hg_st S e8 (G.1 0) x3 e12).bind fun S13 => hm_RE_valueOf_L170 G S13 o x1 x2 x3) else if v7 = 1 then ((hg_gr S (some o) 10 5).bind fun e15 => (hg_gr S (some o) 10 5).bind fun e16 => (hg_ld S e16 (G.1 0) e4).bind fun e17 => (hg_cst (hk_sv 0) e17).bind fun e18 => (hg_st S e15 (G.1 0) x3 e18).bind fun S19 => hm_RE_valueOf_L170 G S19 o x1 x2 x3) else if v7 = 2 then ((hg_gr S (some o) 10 5).bind fun e21 => (hg_gr S (some o) 10 5).bind fun e22 => (hg_ld S e22 (G.1 0) e4).bind fun e23 => (hg_gr S (some o) 10 5).bind fun e24 => (hg_gr S x2 5 2).bind fun e25 => (hg_ld S e25 (G.1 0) x3).bind fun e26 => (hg_ld S e24 (G.1 0) e26).bind fun e27 => (hg_cst (hk_sv 1) ((3 * e23) + e27)).bind fun e28 => (hg_st S e21 (G.1 0) x3 e28).bind fun S29 => hm_RE_valueOf_L170 G S29 o x1 x2 x3) else ((hg_gr S (some o) 10 5).bind fun e31 => (hg_gr S (some o) 10 5).bind fun e32 => (hg_ld S e32 (G.1 0) e4).bind fun e33 => (hg_gr S (some o) 10 5).bind fun e34 => (hg_gr S x2 5 2).bind fun e35 => (hg_ld S e35 (G.1 0) x3).bind fun e36 => (hg_ld S e34 (G.1 0) e36).bind fun e37 => (hg_cst (hk_sv 2) ((3 * e33) + e37)).bind fun e38 => (hg_st S e31 (G.1 0) x3 e38).bind fun S39 => hm_RE_valueOf_L170 G S39 o x1 x2 x3))
noncomputable def hm_RE_valueOf_s19 (G : hg_E) (o : Nat) (x1 : Int32) (x2 : Option Nat) (q : hg_S × Int32) : Option ((hg_S × Int32) ⊕ ((hg_S))) :=
  hm_RE_valueOf_b19 G q.1 o x1 x2 q.2
noncomputable def hm_RE_valueOf_L19 (G : hg_E) (S : hg_S) (o : Nat) (x1 : Int32) (x2 : Option Nat) (x3 : Int32) : Option (hg_S × Int32) :=
  (dc_it (hm_RE_valueOf_s19 G o x1 x2) (S, x3)).bind (fun (z : hg_S) => hm_RE_valueOf_L176 G z o x1)
noncomputable def hm_RE_valueOf (G : hg_E) (S : hg_S) (o : Nat) (p1 : Int32) : Option (hg_S × Int32) :=
  (hg_gr S (some o) 10 0).bind fun e40 => (hg_gr S e40 9 6).bind fun e41 => (hg_gr S e41 5 3).bind fun e42 => (hg_ld S e42 (G.1 0) p1).bind fun e43 => dc_let (((p1 + e43) - 1) : Int32) fun v44 => hm_RE_valueOf_L19 G S o p1 e41 v44
set_option maxHeartbeats 4000000 in
set_option maxRecDepth 100000 in
/-- SignalEngine$Reactor.valueOf(I)I -/
theorem hm_RE_valueOf_ok (l : Launch) (D : va_G) (G : hg_E) (Z : hg_S) (o : Nat) (p1 : Int32) (q : hg_S × Int32) (hq : hm_RE_valueOf G Z o p1 = some q) : hg_C l ⟨"SignalEngine$Reactor", "valueOf", "(I)I"⟩ prog_12_method_27_code 5 (some (.int)) 0 0 D G [.ref o, .int p1] Z (.inl (some (.int q.2), q.1) : hg_O) := by
  refine hg_start (cv := fun q => (.inl (some (.int q.2), q.1) : hg_O)) hq ?_
  intro F hF h
  refine hg_enter (lv := [(0, va_rf (some o)), (1, .int p1)]) (by decide +kernel) (by simp [lg_sl, va_rf_cat, hg_cti, hg_ctr]) (by simp [lv_args, va_rf_cat, va_rf_some, hg_cti, hg_ctr]) ?_
  intro X hC hR
  have lab_176 : ∀ (S : hg_S) (x1 : Int32), dc_wp (hm_RE_valueOf_L176 G S o x1) F → hg_G X l (hg_rm 0 0 Z) D 5 S 176 [(0, va_rf (some o)), (1, .int x1)] [] := by
    intro S x1 h
    delta hm_RE_valueOf_L176 at h
    refine hg_aloadn (pc := 176) (j := 0) (i := 0) (r := (some o)) hC 0 rfl rfl (show decode prog_12_method_27_code 176 = .ok (.aload_n 0, 1) by decide +kernel) ?_
    refine hg_rgr (pc := 177) (r := (some o)) hC fl_SignalEngine_Reactor_54 (show decode prog_12_method_27_code 177 = .ok (.getfield 54, 3) by decide +kernel) h ?_
    intro e1 h
    refine hg_iloadn (pc := 180) (j := 1) (i := 1) hC 1 rfl rfl (show decode prog_12_method_27_code 180 = .ok (.iload_n 1, 1) by decide +kernel) ?_
    refine hg_riald (pc := 181) (r := e1) hC (show decode prog_12_method_27_code 181 = .ok (.iaload, 1) by decide +kernel) h ?_
    intro e2 h
    exact hg_iret (pc := 182) hC hR (hF _ (dc_some h)) (show decode prog_12_method_27_code 182 = .ok (.ireturn, 1) by decide +kernel)
  have loop_19 : ∀ (x1 : Int32) (x2 : Option Nat) (q : hg_S × Int32), dc_wp (dc_it (hm_RE_valueOf_s19 G o x1 x2) q) (fun z => dc_wp ((fun (z : hg_S) => hm_RE_valueOf_L176 G z o x1) z) F) → hg_G X l (hg_rm 0 0 Z) D 5 q.1 19 [(0, va_rf (some o)), (1, .int x1), (2, va_rf x2), (3, .int q.2)] [] := by
    intro x1 x2
    refine dc_loopF ?_
    intro F_19 hl_19 hr_19
    have lab_170 : ∀ (S : hg_S) (x3 : Int32), dc_wp (hm_RE_valueOf_L170 G S o x1 x2 x3) F_19 → hg_G X l (hg_rm 0 0 Z) D 5 S 170 [(0, va_rf (some o)), (1, .int x1), (2, va_rf x2), (3, .int x3)] [] := by
      intro S x3 h
      delta hm_RE_valueOf_L170 at h
      refine hg_iinc (pc := 170) (i := 3) (v := (x3 + (-1))) (lv' := [(3, .int (x3 + (-1))), (0, va_rf (some o)), (1, .int x1), (2, va_rf x2)]) hC 3 rfl (congrArg (fun z => x3 + z) (show Int32.ofInt (-1) = (-1 : Int32) by decide +kernel)) (Nat.le_of_ble_eq_true rfl) (by simp [va_rf_cat, hg_cti]) (show decode prog_12_method_27_code 170 = .ok (.iinc 3 (-1), 3) by decide +kernel) ?_
      refine hg_goto (pc := 173) (tgt := 19) hC (show decode prog_12_method_27_code 173 = .ok (.goto (-154), 3) by decide +kernel) (by decide +kernel) ?_
      exact hg_sub [1, 2, 3, 0] rfl (hl_19 ((S, (x3 + (-1)))) (dc_some h))
    rintro ⟨S, x3⟩ h
    have h : dc_wp (hm_RE_valueOf_b19 G S o x1 x2 x3) F_19 := h
    delta hm_RE_valueOf_b19 at h
    refine hg_iloadn (pc := 19) (j := 3) (i := 3) hC 3 rfl rfl (show decode prog_12_method_27_code 19 = .ok (.iload_n 3, 1) by decide +kernel) ?_
    refine hg_iloadn (pc := 20) (j := 1) (i := 1) hC 1 rfl rfl (show decode prog_12_method_27_code 20 = .ok (.iload_n 1, 1) by decide +kernel) ?_
    refine hg_icmp_lt (pc := 21) (tgt := 176) hC (show decode prog_12_method_27_code 21 = .ok (.if_icmp .lt 155, 3) by decide +kernel) (by decide +kernel) h ?_ ?_
    · intro h
      have h : dc_wp (hm_RE_valueOf_L176 G S o x1) F := hr_19 S (dc_some h)
      exact hg_sub [0, 1] rfl (lab_176 S x1 h)
    · intro h
      refine hg_aloadn (pc := 24) (j := 2) (i := 2) (r := x2) hC 2 rfl rfl (show decode prog_12_method_27_code 24 = .ok (.aload_n 2, 1) by decide +kernel) ?_
      refine hg_rgr (pc := 25) (r := x2) hC fl_SignalEngine_Reactor_231 (show decode prog_12_method_27_code 25 = .ok (.getfield 231, 3) by decide +kernel) h ?_
      intro e3 h
      refine hg_iloadn (pc := 28) (j := 3) (i := 3) hC 3 rfl rfl (show decode prog_12_method_27_code 28 = .ok (.iload_n 3, 1) by decide +kernel) ?_
      refine hg_riald (pc := 29) (r := e3) hC (show decode prog_12_method_27_code 29 = .ok (.iaload, 1) by decide +kernel) h ?_
      intro e4 h
      refine hg_istore (pc := 30) (i := 4) (lv' := [(4, .int e4), (0, va_rf (some o)), (1, .int x1), (2, va_rf x2), (3, .int x3)]) hC (Nat.le_of_ble_eq_true rfl) rfl (show decode prog_12_method_27_code 30 = .ok (.istore 4, 2) by decide +kernel) ?_
      refine hg_aloadn (pc := 32) (j := 2) (i := 2) (r := x2) hC 3 rfl rfl (show decode prog_12_method_27_code 32 = .ok (.aload_n 2, 1) by decide +kernel) ?_
      refine hg_rgr (pc := 33) (r := x2) hC fl_SignalEngine_Reactor_232 (show decode prog_12_method_27_code 33 = .ok (.getfield 232, 3) by decide +kernel) h ?_
      intro e5 h
      refine hg_iloadn (pc := 36) (j := 3) (i := 3) hC 4 rfl rfl (show decode prog_12_method_27_code 36 = .ok (.iload_n 3, 1) by decide +kernel) ?_
      refine hg_riald (pc := 37) (r := e5) hC (show decode prog_12_method_27_code 37 = .ok (.iaload, 1) by decide +kernel) h ?_
      intro e6 h
      refine hg_letI h ?_
      intro v7 h
      rcases dc_ite h with ⟨hk14, h2⟩ | ⟨hk14, h2⟩
      · subst hk14; clear h; have h := h2; clear h2
        refine hg_tabIn (pc := 38) (off := 26) (tgt := 64) hC dsw_prog_12_method_27_code_38 (by decide +kernel) (by decide +kernel) (by decide +kernel) (by decide +kernel) ?_
        refine hg_aloadn (pc := 64) (j := 0) (i := 0) (r := (some o)) hC 1 rfl rfl (show decode prog_12_method_27_code 64 = .ok (.aload_n 0, 1) by decide +kernel) ?_
        refine hg_rgr (pc := 65) (r := (some o)) hC fl_SignalEngine_Reactor_54 (show decode prog_12_method_27_code 65 = .ok (.getfield 54, 3) by decide +kernel) h ?_
        intro e8 h
        refine hg_iloadn (pc := 68) (j := 3) (i := 3) hC 4 rfl rfl (show decode prog_12_method_27_code 68 = .ok (.iload_n 3, 1) by decide +kernel) ?_
        refine hg_aloadn (pc := 69) (j := 0) (i := 0) (r := (some o)) hC 1 rfl rfl (show decode prog_12_method_27_code 69 = .ok (.aload_n 0, 1) by decide +kernel) ?_
        refine hg_rgr (pc := 70) (r := (some o)) hC fl_SignalEngine_Reactor_41 (show decode prog_12_method_27_code 70 = .ok (.getfield 41, 3) by decide +kernel) h ?_
        intro e9 h
        refine hg_aloadn (pc := 73) (j := 0) (i := 0) (r := (some o)) hC 1 rfl rfl (show decode prog_12_method_27_code 73 = .ok (.aload_n 0, 1) by decide +kernel) ?_
        refine hg_rgr (pc := 74) (r := (some o)) hC fl_SignalEngine_Reactor_34 (show decode prog_12_method_27_code 74 = .ok (.getfield 34, 3) by decide +kernel) h ?_
        intro e10 h
        refine hg_iload (pc := 77) (i := 4) hC 0 rfl (show decode prog_12_method_27_code 77 = .ok (.iload 4, 2) by decide +kernel) ?_
        refine hg_riald (pc := 79) (r := e10) hC (show decode prog_12_method_27_code 79 = .ok (.iaload, 1) by decide +kernel) h ?_
        intro e11 h
        refine hg_riald (pc := 80) (r := e9) hC (show decode prog_12_method_27_code 80 = .ok (.iaload, 1) by decide +kernel) h ?_
        intro e12 h
        refine hg_riast (pc := 81) (r := e8) hC (show decode prog_12_method_27_code 81 = .ok (.iastore, 1) by decide +kernel) h ?_
        intro S13 h
        refine hg_goto (pc := 82) (tgt := 170) hC (show decode prog_12_method_27_code 82 = .ok (.goto 88, 3) by decide +kernel) (by decide +kernel) ?_
        exact hg_sub [1, 2, 3, 4] rfl (lab_170 S13 x3 h)
      clear h; have h := h2; clear h2
      rcases dc_ite h with ⟨hk20, h2⟩ | ⟨hk20, h2⟩
      · subst hk20; clear h; have h := h2; clear h2
        refine hg_tabIn (pc := 38) (off := 47) (tgt := 85) hC dsw_prog_12_method_27_code_38 (by decide +kernel) (by decide +kernel) (by decide +kernel) (by decide +kernel) ?_
        refine hg_aloadn (pc := 85) (j := 0) (i := 0) (r := (some o)) hC 1 rfl rfl (show decode prog_12_method_27_code 85 = .ok (.aload_n 0, 1) by decide +kernel) ?_
        refine hg_rgr (pc := 86) (r := (some o)) hC fl_SignalEngine_Reactor_54 (show decode prog_12_method_27_code 86 = .ok (.getfield 54, 3) by decide +kernel) h ?_
        intro e15 h
        refine hg_iloadn (pc := 89) (j := 3) (i := 3) hC 4 rfl rfl (show decode prog_12_method_27_code 89 = .ok (.iload_n 3, 1) by decide +kernel) ?_
        refine hg_gst (pc := 90) (j := 0) hC (by decide) w_1226 (show decode prog_12_method_27_code 90 = .ok (.getstatic 233, 3) by decide +kernel) ?_
        refine hg_aloadn (pc := 93) (j := 0) (i := 0) (r := (some o)) hC 1 rfl rfl (show decode prog_12_method_27_code 93 = .ok (.aload_n 0, 1) by decide +kernel) ?_
        refine hg_rgr (pc := 94) (r := (some o)) hC fl_SignalEngine_Reactor_54 (show decode prog_12_method_27_code 94 = .ok (.getfield 54, 3) by decide +kernel) h ?_
        intro e16 h
        refine hg_iload (pc := 97) (i := 4) hC 0 rfl (show decode prog_12_method_27_code 97 = .ok (.iload 4, 2) by decide +kernel) ?_
        refine hg_riald (pc := 99) (r := e16) hC (show decode prog_12_method_27_code 99 = .ok (.iaload, 1) by decide +kernel) h ?_
        intro e17 h
        refine hg_rcst (pc := 100) (j := 0) hC (by decide) (show decode prog_12_method_27_code 100 = .ok (.iaload, 1) by decide +kernel) h ?_
        intro e18 h
        refine hg_riast (pc := 101) (r := e15) hC (show decode prog_12_method_27_code 101 = .ok (.iastore, 1) by decide +kernel) h ?_
        intro S19 h
        refine hg_goto (pc := 102) (tgt := 170) hC (show decode prog_12_method_27_code 102 = .ok (.goto 68, 3) by decide +kernel) (by decide +kernel) ?_
        exact hg_sub [1, 2, 3, 4] rfl (lab_170 S19 x3 h)
      clear h; have h := h2; clear h2
      rcases dc_ite h with ⟨hk30, h2⟩ | ⟨hk30, h2⟩
      · subst hk30; clear h; have h := h2; clear h2
        refine hg_tabIn (pc := 38) (off := 67) (tgt := 105) hC dsw_prog_12_method_27_code_38 (by decide +kernel) (by decide +kernel) (by decide +kernel) (by decide +kernel) ?_
        refine hg_aloadn (pc := 105) (j := 0) (i := 0) (r := (some o)) hC 1 rfl rfl (show decode prog_12_method_27_code 105 = .ok (.aload_n 0, 1) by decide +kernel) ?_
        refine hg_rgr (pc := 106) (r := (some o)) hC fl_SignalEngine_Reactor_54 (show decode prog_12_method_27_code 106 = .ok (.getfield 54, 3) by decide +kernel) h ?_
        intro e21 h
        refine hg_iloadn (pc := 109) (j := 3) (i := 3) hC 4 rfl rfl (show decode prog_12_method_27_code 109 = .ok (.iload_n 3, 1) by decide +kernel) ?_
        refine hg_gst (pc := 110) (j := 1) hC (by decide) w_1228 (show decode prog_12_method_27_code 110 = .ok (.getstatic 236, 3) by decide +kernel) ?_
        refine hg_iconst (pc := 113) (v := 3) hC (show decode prog_12_method_27_code 113 = .ok (.iconst 3, 1) by decide +kernel) (by decide +kernel) ?_
        refine hg_aloadn (pc := 114) (j := 0) (i := 0) (r := (some o)) hC 1 rfl rfl (show decode prog_12_method_27_code 114 = .ok (.aload_n 0, 1) by decide +kernel) ?_
        refine hg_rgr (pc := 115) (r := (some o)) hC fl_SignalEngine_Reactor_54 (show decode prog_12_method_27_code 115 = .ok (.getfield 54, 3) by decide +kernel) h ?_
        intro e22 h
        refine hg_iload (pc := 118) (i := 4) hC 0 rfl (show decode prog_12_method_27_code 118 = .ok (.iload 4, 2) by decide +kernel) ?_
        refine hg_riald (pc := 120) (r := e22) hC (show decode prog_12_method_27_code 120 = .ok (.iaload, 1) by decide +kernel) h ?_
        intro e23 h
        refine hg_imul (pc := 121) hC (show decode prog_12_method_27_code 121 = .ok (.imul, 1) by decide +kernel) ?_
        refine hg_aloadn (pc := 122) (j := 0) (i := 0) (r := (some o)) hC 1 rfl rfl (show decode prog_12_method_27_code 122 = .ok (.aload_n 0, 1) by decide +kernel) ?_
        refine hg_rgr (pc := 123) (r := (some o)) hC fl_SignalEngine_Reactor_54 (show decode prog_12_method_27_code 123 = .ok (.getfield 54, 3) by decide +kernel) h ?_
        intro e24 h
        refine hg_aloadn (pc := 126) (j := 2) (i := 2) (r := x2) hC 3 rfl rfl (show decode prog_12_method_27_code 126 = .ok (.aload_n 2, 1) by decide +kernel) ?_
        refine hg_rgr (pc := 127) (r := x2) hC fl_SignalEngine_Reactor_239 (show decode prog_12_method_27_code 127 = .ok (.getfield 239, 3) by decide +kernel) h ?_
        intro e25 h
        refine hg_iloadn (pc := 130) (j := 3) (i := 3) hC 4 rfl rfl (show decode prog_12_method_27_code 130 = .ok (.iload_n 3, 1) by decide +kernel) ?_
        refine hg_riald (pc := 131) (r := e25) hC (show decode prog_12_method_27_code 131 = .ok (.iaload, 1) by decide +kernel) h ?_
        intro e26 h
        refine hg_riald (pc := 132) (r := e24) hC (show decode prog_12_method_27_code 132 = .ok (.iaload, 1) by decide +kernel) h ?_
        intro e27 h
        refine hg_iadd (pc := 133) hC (show decode prog_12_method_27_code 133 = .ok (.iadd, 1) by decide +kernel) ?_
        refine hg_rcst (pc := 134) (j := 1) hC (by decide) (show decode prog_12_method_27_code 134 = .ok (.iaload, 1) by decide +kernel) h ?_
        intro e28 h
        refine hg_riast (pc := 135) (r := e21) hC (show decode prog_12_method_27_code 135 = .ok (.iastore, 1) by decide +kernel) h ?_
        intro S29 h
        refine hg_goto (pc := 136) (tgt := 170) hC (show decode prog_12_method_27_code 136 = .ok (.goto 34, 3) by decide +kernel) (by decide +kernel) ?_
        exact hg_sub [1, 2, 3, 4] rfl (lab_170 S29 x3 h)
      clear h; have h := h2; clear h2
      refine hg_tabOut (pc := 38) (tgt := 139) hC dsw_prog_12_method_27_code_38 (by have := dc_swc hk14 (show (0 : Int32).toInt = 0 by decide +kernel); have := dc_swc hk20 (show (1 : Int32).toInt = 1 by decide +kernel); have := dc_swc hk30 (show (2 : Int32).toInt = 2 by decide +kernel); omega) (by decide +kernel) ?_
      refine hg_aloadn (pc := 139) (j := 0) (i := 0) (r := (some o)) hC 1 rfl rfl (show decode prog_12_method_27_code 139 = .ok (.aload_n 0, 1) by decide +kernel) ?_
      refine hg_rgr (pc := 140) (r := (some o)) hC fl_SignalEngine_Reactor_54 (show decode prog_12_method_27_code 140 = .ok (.getfield 54, 3) by decide +kernel) h ?_
      intro e31 h
      refine hg_iloadn (pc := 143) (j := 3) (i := 3) hC 4 rfl rfl (show decode prog_12_method_27_code 143 = .ok (.iload_n 3, 1) by decide +kernel) ?_
      refine hg_gst (pc := 144) (j := 2) hC (by decide) w_1230 (show decode prog_12_method_27_code 144 = .ok (.getstatic 240, 3) by decide +kernel) ?_
      refine hg_iconst (pc := 147) (v := 3) hC (show decode prog_12_method_27_code 147 = .ok (.iconst 3, 1) by decide +kernel) (by decide +kernel) ?_
      refine hg_aloadn (pc := 148) (j := 0) (i := 0) (r := (some o)) hC 1 rfl rfl (show decode prog_12_method_27_code 148 = .ok (.aload_n 0, 1) by decide +kernel) ?_
      refine hg_rgr (pc := 149) (r := (some o)) hC fl_SignalEngine_Reactor_54 (show decode prog_12_method_27_code 149 = .ok (.getfield 54, 3) by decide +kernel) h ?_
      intro e32 h
      refine hg_iload (pc := 152) (i := 4) hC 0 rfl (show decode prog_12_method_27_code 152 = .ok (.iload 4, 2) by decide +kernel) ?_
      refine hg_riald (pc := 154) (r := e32) hC (show decode prog_12_method_27_code 154 = .ok (.iaload, 1) by decide +kernel) h ?_
      intro e33 h
      refine hg_imul (pc := 155) hC (show decode prog_12_method_27_code 155 = .ok (.imul, 1) by decide +kernel) ?_
      refine hg_aloadn (pc := 156) (j := 0) (i := 0) (r := (some o)) hC 1 rfl rfl (show decode prog_12_method_27_code 156 = .ok (.aload_n 0, 1) by decide +kernel) ?_
      refine hg_rgr (pc := 157) (r := (some o)) hC fl_SignalEngine_Reactor_54 (show decode prog_12_method_27_code 157 = .ok (.getfield 54, 3) by decide +kernel) h ?_
      intro e34 h
      refine hg_aloadn (pc := 160) (j := 2) (i := 2) (r := x2) hC 3 rfl rfl (show decode prog_12_method_27_code 160 = .ok (.aload_n 2, 1) by decide +kernel) ?_
      refine hg_rgr (pc := 161) (r := x2) hC fl_SignalEngine_Reactor_239 (show decode prog_12_method_27_code 161 = .ok (.getfield 239, 3) by decide +kernel) h ?_
      intro e35 h
      refine hg_iloadn (pc := 164) (j := 3) (i := 3) hC 4 rfl rfl (show decode prog_12_method_27_code 164 = .ok (.iload_n 3, 1) by decide +kernel) ?_
      refine hg_riald (pc := 165) (r := e35) hC (show decode prog_12_method_27_code 165 = .ok (.iaload, 1) by decide +kernel) h ?_
      intro e36 h
      refine hg_riald (pc := 166) (r := e34) hC (show decode prog_12_method_27_code 166 = .ok (.iaload, 1) by decide +kernel) h ?_
      intro e37 h
      refine hg_iadd (pc := 167) hC (show decode prog_12_method_27_code 167 = .ok (.iadd, 1) by decide +kernel) ?_
      refine hg_rcst (pc := 168) (j := 2) hC (by decide) (show decode prog_12_method_27_code 168 = .ok (.iaload, 1) by decide +kernel) h ?_
      intro e38 h
      refine hg_riast (pc := 169) (r := e31) hC (show decode prog_12_method_27_code 169 = .ok (.iastore, 1) by decide +kernel) h ?_
      intro S39 h
      exact hg_sub [1, 2, 3, 4] rfl (lab_170 S39 x3 h)
  have lab_19 : ∀ (S : hg_S) (x1 : Int32) (x2 : Option Nat) (x3 : Int32), dc_wp (hm_RE_valueOf_L19 G S o x1 x2 x3) F → hg_G X l (hg_rm 0 0 Z) D 5 S 19 [(0, va_rf (some o)), (1, .int x1), (2, va_rf x2), (3, .int x3)] [] := fun S x1 x2 x3 h => loop_19 x1 x2 (S, x3) (dc_bind h)
  show hg_G X l (hg_rm 0 0 Z) D 5 Z 0 [(0, va_rf (some o)), (1, .int p1)] []
  have h : dc_wp (hm_RE_valueOf G Z o p1) F := h
  delta hm_RE_valueOf at h
  refine hg_aloadn (pc := 0) (j := 0) (i := 0) (r := (some o)) hC 0 rfl rfl (show decode prog_12_method_27_code 0 = .ok (.aload_n 0, 1) by decide +kernel) ?_
  refine hg_rgr (pc := 1) (r := (some o)) hC fl_SignalEngine_Reactor_9 (show decode prog_12_method_27_code 1 = .ok (.getfield 9, 3) by decide +kernel) h ?_
  intro e40 h
  refine hg_rgr (pc := 4) (r := e40) hC fl_SignalEngine_Reactor_47 (show decode prog_12_method_27_code 4 = .ok (.getfield 47, 3) by decide +kernel) h ?_
  intro e41 h
  refine hg_astoren (pc := 7) (j := 2) (i := 2) (r := e41) (lv' := [(2, va_rf e41), (0, va_rf (some o)), (1, .int p1)]) hC rfl (Nat.le_of_ble_eq_true rfl) rfl (show decode prog_12_method_27_code 7 = .ok (.astore_n 2, 1) by decide +kernel) ?_
  refine hg_iloadn (pc := 8) (j := 1) (i := 1) hC 2 rfl rfl (show decode prog_12_method_27_code 8 = .ok (.iload_n 1, 1) by decide +kernel) ?_
  refine hg_aloadn (pc := 9) (j := 2) (i := 2) (r := e41) hC 0 rfl rfl (show decode prog_12_method_27_code 9 = .ok (.aload_n 2, 1) by decide +kernel) ?_
  refine hg_rgr (pc := 10) (r := e41) hC fl_SignalEngine_Reactor_228 (show decode prog_12_method_27_code 10 = .ok (.getfield 228, 3) by decide +kernel) h ?_
  intro e42 h
  refine hg_iloadn (pc := 13) (j := 1) (i := 1) hC 2 rfl rfl (show decode prog_12_method_27_code 13 = .ok (.iload_n 1, 1) by decide +kernel) ?_
  refine hg_riald (pc := 14) (r := e42) hC (show decode prog_12_method_27_code 14 = .ok (.iaload, 1) by decide +kernel) h ?_
  intro e43 h
  refine hg_iadd (pc := 15) hC (show decode prog_12_method_27_code 15 = .ok (.iadd, 1) by decide +kernel) ?_
  refine hg_iconst (pc := 16) (v := 1) hC (show decode prog_12_method_27_code 16 = .ok (.iconst 1, 1) by decide +kernel) (by decide +kernel) ?_
  refine hg_isub (pc := 17) hC (show decode prog_12_method_27_code 17 = .ok (.isub, 1) by decide +kernel) ?_
  refine hg_letI h ?_
  intro v44 h
  refine hg_istoren (pc := 18) (j := 3) (i := 3) (lv' := [(3, .int v44), (2, va_rf e41), (0, va_rf (some o)), (1, .int p1)]) hC rfl (Nat.le_of_ble_eq_true rfl) (by simp [va_rf_cat, hg_cti]) (show decode prog_12_method_27_code 18 = .ok (.istore_n 3, 1) by decide +kernel) ?_
  exact hg_sub [2, 3, 1, 0] rfl (lab_19 Z p1 e41 v44 h)
noncomputable def hm_RE_beginPresent_L76 (G : hg_E) (S : hg_S) (o : Nat) (y0 : Int32) (y1 : Int32) : Option (hg_S × Int32) :=
  (hg_chk S (some o) 10).bind fun b1 => (hm_RE_within G S b1 y1 y0).bind fun q4 => some (q4.1, q4.2)
noncomputable def hm_RE_beginPresent_L75 (G : hg_E) (S : hg_S) (o : Nat) (y0 : Int32) : Option (hg_S × Int32) :=
  hm_RE_beginPresent_L76 G S o 0 y0
noncomputable def hm_RE_beginPresent_L49 (G : hg_E) (S : hg_S) (o : Nat) (x1 : Int32) (y0 : Int32) : Option (hg_S × Int32) :=
  (hg_gr S (some o) 10 9).bind fun e5 => (hg_ld S e5 (G.1 2) x1).bind fun e6 => if e6 = 0 then (hm_RE_beginPresent_L75 G S o y0) else ((hg_gr S (some o) 10 6).bind fun e7 => (hg_ld S e7 (G.1 0) x1).bind fun e8 => if e8 = 2 then (hm_RE_beginPresent_L75 G S o y0) else (hm_RE_beginPresent_L76 G S o 1 y0))
noncomputable def hm_RE_beginPresent (G : hg_E) (S : hg_S) (o : Nat) (p1 : Int32) : Option (hg_S × Int32) :=
  (hg_gr S (some o) 10 6).bind fun e9 => (hg_gr S (some o) 10 0).bind fun e10 => (hg_gr S e10 9 11).bind fun e11 => (hg_ld S e11 (G.1 0) p1).bind fun e12 => (hg_chk S (some o) 10).bind fun b13 => (hm_RE_valueOf G S b13 e12).bind fun q16 => (hg_st q16.1 e9 (G.1 0) p1 q16.2).bind fun S17 => (hg_gr S17 (some o) 10 6).bind fun e18 => (hg_ld S17 e18 (G.1 0) p1).bind fun e19 => if e19 = 0 then ((hg_gr S17 (some o) 10 0).bind fun e20 => (hg_gr S17 e20 9 9).bind fun e21 => (hg_ld S17 e21 (G.1 0) p1).bind fun e22 => hm_RE_beginPresent_L49 G S17 o p1 e22) else ((hg_gr S17 (some o) 10 0).bind fun e23 => (hg_gr S17 e23 9 8).bind fun e24 => (hg_ld S17 e24 (G.1 0) p1).bind fun e25 => hm_RE_beginPresent_L49 G S17 o p1 e25)
set_option maxHeartbeats 4000000 in
set_option maxRecDepth 100000 in
/-- SignalEngine$Reactor.beginPresent(I)I -/
theorem hm_RE_beginPresent_ok (l : Launch) (D : va_G) (G : hg_E) (Z : hg_S) (o : Nat) (p1 : Int32) (q : hg_S × Int32) (hq : hm_RE_beginPresent G Z o p1 = some q) : hg_C l ⟨"SignalEngine$Reactor", "beginPresent", "(I)I"⟩ prog_12_method_15_code 3 (some (.int)) 1 24 D G [.ref o, .int p1] Z (.inl (some (.int q.2), q.1) : hg_O) := by
  refine hg_start (cv := fun q => (.inl (some (.int q.2), q.1) : hg_O)) hq ?_
  intro F hF h
  refine hg_enter (lv := [(0, va_rf (some o)), (1, .int p1)]) (by decide +kernel) (by simp [lg_sl, va_rf_cat, hg_cti, hg_ctr]) (by simp [lv_args, va_rf_cat, va_rf_some, hg_cti, hg_ctr]) ?_
  intro X hC hR
  have lab_76 : ∀ (S : hg_S) (y0 : Int32) (y1 : Int32), dc_wp (hm_RE_beginPresent_L76 G S o y0 y1) F → hg_G X l (hg_rm 1 24 Z) D 3 S 76 [(0, va_rf (some o))] [.int y0, .int y1, va_rf (some o)] := by
    intro S y0 y1 h
    delta hm_RE_beginPresent_L76 at h
    obtain ⟨b1, hb2, h⟩ := dc_bind h
    obtain ⟨hb2, hv3⟩ := hg_chk_of (C := R_RE) rfl hb2
    refine hg_kVi (pc := 76) (b := b1) (r := (some o)) (As := [.int y1, .int y0]) (rest := []) (vo := fun q => q.2) (so := fun q => q.1) hC cw_SignalEngine_Reactor_135 (fun q hq => hm_RE_within_ok l D G S b1 y1 y0 q hq) (Nat.le_of_ble_eq_true rfl) (Nat.le_of_ble_eq_true rfl) hb2 hv3 rfl (Nat.le_of_ble_eq_true rfl) (show decode prog_12_method_15_code 76 = .ok (.invokevirtual 135, 3) by decide +kernel) h ?_
    intro q4 h
    exact hg_iret (pc := 79) hC hR (hF _ (dc_some h)) (show decode prog_12_method_15_code 79 = .ok (.ireturn, 1) by decide +kernel)
  have lab_75 : ∀ (S : hg_S) (y0 : Int32), dc_wp (hm_RE_beginPresent_L75 G S o y0) F → hg_G X l (hg_rm 1 24 Z) D 3 S 75 [(0, va_rf (some o))] [.int y0, va_rf (some o)] := by
    intro S y0 h
    delta hm_RE_beginPresent_L75 at h
    refine hg_iconst (pc := 75) (v := 0) hC (show decode prog_12_method_15_code 75 = .ok (.iconst 0, 1) by decide +kernel) (by decide +kernel) ?_
    exact lab_76 S 0 y0 h
  have lab_49 : ∀ (S : hg_S) (x1 : Int32) (y0 : Int32), dc_wp (hm_RE_beginPresent_L49 G S o x1 y0) F → hg_G X l (hg_rm 1 24 Z) D 3 S 49 [(0, va_rf (some o)), (1, .int x1)] [.int y0] := by
    intro S x1 y0 h
    delta hm_RE_beginPresent_L49 at h
    refine hg_istoren (pc := 49) (j := 2) (i := 2) (lv' := [(2, .int y0), (0, va_rf (some o)), (1, .int x1)]) hC rfl (Nat.le_of_ble_eq_true rfl) rfl (show decode prog_12_method_15_code 49 = .ok (.istore_n 2, 1) by decide +kernel) ?_
    refine hg_aloadn (pc := 50) (j := 0) (i := 0) (r := (some o)) hC 1 rfl rfl (show decode prog_12_method_15_code 50 = .ok (.aload_n 0, 1) by decide +kernel) ?_
    refine hg_iloadn (pc := 51) (j := 2) (i := 2) hC 0 rfl rfl (show decode prog_12_method_15_code 51 = .ok (.iload_n 2, 1) by decide +kernel) ?_
    refine hg_aloadn (pc := 52) (j := 0) (i := 0) (r := (some o)) hC 1 rfl rfl (show decode prog_12_method_15_code 52 = .ok (.aload_n 0, 1) by decide +kernel) ?_
    refine hg_rgr (pc := 53) (r := (some o)) hC fl_SignalEngine_Reactor_66 (show decode prog_12_method_15_code 53 = .ok (.getfield 66, 3) by decide +kernel) h ?_
    intro e5 h
    refine hg_iloadn (pc := 56) (j := 1) (i := 1) hC 2 rfl rfl (show decode prog_12_method_15_code 56 = .ok (.iload_n 1, 1) by decide +kernel) ?_
    refine hg_rzald (pc := 57) (r := e5) hC (show decode prog_12_method_15_code 57 = .ok (.baload, 1) by decide +kernel) h ?_
    intro e6 h
    refine hg_if_eq (pc := 58) (tgt := 75) hC (show decode prog_12_method_15_code 58 = .ok (.ifCond .eq 17, 3) by decide +kernel) (by decide +kernel) h ?_ ?_
    · intro h
      exact hg_sub [1] rfl (lab_75 S y0 h)
    · intro h
      refine hg_aloadn (pc := 61) (j := 0) (i := 0) (r := (some o)) hC 1 rfl rfl (show decode prog_12_method_15_code 61 = .ok (.aload_n 0, 1) by decide +kernel) ?_
      refine hg_rgr (pc := 62) (r := (some o)) hC fl_SignalEngine_Reactor_57 (show decode prog_12_method_15_code 62 = .ok (.getfield 57, 3) by decide +kernel) h ?_
      intro e7 h
      refine hg_iloadn (pc := 65) (j := 1) (i := 1) hC 2 rfl rfl (show decode prog_12_method_15_code 65 = .ok (.iload_n 1, 1) by decide +kernel) ?_
      refine hg_riald (pc := 66) (r := e7) hC (show decode prog_12_method_15_code 66 = .ok (.iaload, 1) by decide +kernel) h ?_
      intro e8 h
      refine hg_iconst (pc := 67) (v := 2) hC (show decode prog_12_method_15_code 67 = .ok (.iconst 2, 1) by decide +kernel) (by decide +kernel) ?_
      refine hg_icmp_eq (pc := 68) (tgt := 75) hC (show decode prog_12_method_15_code 68 = .ok (.if_icmp .eq 7, 3) by decide +kernel) (by decide +kernel) h ?_ ?_
      · intro h
        exact hg_sub [1] rfl (lab_75 S y0 h)
      · intro h
        refine hg_iconst (pc := 71) (v := 1) hC (show decode prog_12_method_15_code 71 = .ok (.iconst 1, 1) by decide +kernel) (by decide +kernel) ?_
        refine hg_goto (pc := 72) (tgt := 76) hC (show decode prog_12_method_15_code 72 = .ok (.goto 4, 3) by decide +kernel) (by decide +kernel) ?_
        exact hg_sub [1] rfl (lab_76 S 1 y0 h)
  show hg_G X l (hg_rm 1 24 Z) D 3 Z 0 [(0, va_rf (some o)), (1, .int p1)] []
  have h : dc_wp (hm_RE_beginPresent G Z o p1) F := h
  delta hm_RE_beginPresent at h
  refine hg_aloadn (pc := 0) (j := 0) (i := 0) (r := (some o)) hC 0 rfl rfl (show decode prog_12_method_15_code 0 = .ok (.aload_n 0, 1) by decide +kernel) ?_
  refine hg_rgr (pc := 1) (r := (some o)) hC fl_SignalEngine_Reactor_57 (show decode prog_12_method_15_code 1 = .ok (.getfield 57, 3) by decide +kernel) h ?_
  intro e9 h
  refine hg_iloadn (pc := 4) (j := 1) (i := 1) hC 1 rfl rfl (show decode prog_12_method_15_code 4 = .ok (.iload_n 1, 1) by decide +kernel) ?_
  refine hg_aloadn (pc := 5) (j := 0) (i := 0) (r := (some o)) hC 0 rfl rfl (show decode prog_12_method_15_code 5 = .ok (.aload_n 0, 1) by decide +kernel) ?_
  refine hg_aloadn (pc := 6) (j := 0) (i := 0) (r := (some o)) hC 0 rfl rfl (show decode prog_12_method_15_code 6 = .ok (.aload_n 0, 1) by decide +kernel) ?_
  refine hg_rgr (pc := 7) (r := (some o)) hC fl_SignalEngine_Reactor_9 (show decode prog_12_method_15_code 7 = .ok (.getfield 9, 3) by decide +kernel) h ?_
  intro e10 h
  refine hg_rgr (pc := 10) (r := e10) hC fl_SignalEngine_Reactor_85 (show decode prog_12_method_15_code 10 = .ok (.getfield 85, 3) by decide +kernel) h ?_
  intro e11 h
  refine hg_iloadn (pc := 13) (j := 1) (i := 1) hC 1 rfl rfl (show decode prog_12_method_15_code 13 = .ok (.iload_n 1, 1) by decide +kernel) ?_
  refine hg_riald (pc := 14) (r := e11) hC (show decode prog_12_method_15_code 14 = .ok (.iaload, 1) by decide +kernel) h ?_
  intro e12 h
  obtain ⟨b13, hb14, h⟩ := dc_bind h
  obtain ⟨hb14, hv15⟩ := hg_chk_of (C := R_RE) rfl hb14
  refine hg_kVi (pc := 15) (b := b13) (r := (some o)) (As := [.int e12]) (rest := [.int p1, va_rf e9]) (vo := fun q => q.2) (so := fun q => q.1) hC cw_SignalEngine_Reactor_185 (fun q hq => hm_RE_valueOf_ok l D G Z b13 e12 q hq) (Nat.le_of_ble_eq_true rfl) (Nat.le_of_ble_eq_true rfl) hb14 hv15 rfl (by simp only [List.map, va_rf_cat]; exact Nat.le_of_ble_eq_true rfl) (show decode prog_12_method_15_code 15 = .ok (.invokevirtual 185, 3) by decide +kernel) h ?_
  intro q16 h
  refine hg_riast (pc := 18) (r := e9) hC (show decode prog_12_method_15_code 18 = .ok (.iastore, 1) by decide +kernel) h ?_
  intro S17 h
  refine hg_aloadn (pc := 19) (j := 0) (i := 0) (r := (some o)) hC 0 rfl rfl (show decode prog_12_method_15_code 19 = .ok (.aload_n 0, 1) by decide +kernel) ?_
  refine hg_rgr (pc := 20) (r := (some o)) hC fl_SignalEngine_Reactor_57 (show decode prog_12_method_15_code 20 = .ok (.getfield 57, 3) by decide +kernel) h ?_
  intro e18 h
  refine hg_iloadn (pc := 23) (j := 1) (i := 1) hC 1 rfl rfl (show decode prog_12_method_15_code 23 = .ok (.iload_n 1, 1) by decide +kernel) ?_
  refine hg_riald (pc := 24) (r := e18) hC (show decode prog_12_method_15_code 24 = .ok (.iaload, 1) by decide +kernel) h ?_
  intro e19 h
  refine hg_if_ne (pc := 25) (tgt := 40) hC (show decode prog_12_method_15_code 25 = .ok (.ifCond .ne 15, 3) by decide +kernel) (by decide +kernel) h ?_ ?_
  · intro h
    refine hg_aloadn (pc := 28) (j := 0) (i := 0) (r := (some o)) hC 0 rfl rfl (show decode prog_12_method_15_code 28 = .ok (.aload_n 0, 1) by decide +kernel) ?_
    refine hg_rgr (pc := 29) (r := (some o)) hC fl_SignalEngine_Reactor_9 (show decode prog_12_method_15_code 29 = .ok (.getfield 9, 3) by decide +kernel) h ?_
    intro e20 h
    refine hg_rgr (pc := 32) (r := e20) hC fl_SignalEngine_Reactor_188 (show decode prog_12_method_15_code 32 = .ok (.getfield 188, 3) by decide +kernel) h ?_
    intro e21 h
    refine hg_iloadn (pc := 35) (j := 1) (i := 1) hC 1 rfl rfl (show decode prog_12_method_15_code 35 = .ok (.iload_n 1, 1) by decide +kernel) ?_
    refine hg_riald (pc := 36) (r := e21) hC (show decode prog_12_method_15_code 36 = .ok (.iaload, 1) by decide +kernel) h ?_
    intro e22 h
    refine hg_goto (pc := 37) (tgt := 49) hC (show decode prog_12_method_15_code 37 = .ok (.goto 12, 3) by decide +kernel) (by decide +kernel) ?_
    exact lab_49 S17 p1 e22 h
  · intro h
    refine hg_aloadn (pc := 40) (j := 0) (i := 0) (r := (some o)) hC 0 rfl rfl (show decode prog_12_method_15_code 40 = .ok (.aload_n 0, 1) by decide +kernel) ?_
    refine hg_rgr (pc := 41) (r := (some o)) hC fl_SignalEngine_Reactor_9 (show decode prog_12_method_15_code 41 = .ok (.getfield 9, 3) by decide +kernel) h ?_
    intro e23 h
    refine hg_rgr (pc := 44) (r := e23) hC fl_SignalEngine_Reactor_182 (show decode prog_12_method_15_code 44 = .ok (.getfield 182, 3) by decide +kernel) h ?_
    intro e24 h
    refine hg_iloadn (pc := 47) (j := 1) (i := 1) hC 1 rfl rfl (show decode prog_12_method_15_code 47 = .ok (.iload_n 1, 1) by decide +kernel) ?_
    refine hg_riald (pc := 48) (r := e24) hC (show decode prog_12_method_15_code 48 = .ok (.iaload, 1) by decide +kernel) h ?_
    intro e25 h
    exact lab_49 S17 p1 e25 h
noncomputable def hm_RE_beginStart (G : hg_E) (S : hg_S) (o : Nat) (p1 : Int32) : Option (hg_S × Int32) :=
  (hg_gr S (some o) 10 0).bind fun e1 => (hg_gr S e1 9 11).bind fun e2 => (hg_ld S e2 (G.1 0) p1).bind fun e3 => (hg_gr S (some o) 10 0).bind fun e4 => (hg_gr S e4 9 7).bind fun e5 => (hg_ld S e5 (G.1 0) p1).bind fun e6 => dc_let (e6 : Int32) fun v7 => if v7 = 0 then ((hg_chk S (some o) 10).bind fun b8 => (hm_RE_answer G S b8 p1 (1 : Int32) (0 : Int32)).bind fun q11 => some (q11, (-1))) else if v7 = 1 then ((hg_chk S (some o) 10).bind fun b13 => (hm_RE_answer G S b13 p1 (2 : Int32) (1 : Int32)).bind fun q16 => (hg_gr q16 (some o) 10 11).bind fun e17 => (hg_gr q16 (some o) 10 9).bind fun e18 => (hg_ld q16 e18 (G.1 2) p1).bind fun e19 => (dc_zb e19).bind fun _ => (hg_st q16 e17 (G.1 2) e3 e19).bind fun S21 => some (S21, (-1))) else if v7 = 2 then ((hg_chk S (some o) 10).bind fun b23 => (hm_RE_answer G S b23 p1 (1 : Int32) (0 : Int32)).bind fun q26 => (hg_gr q26 (some o) 10 4).bind fun e27 => (hg_ld q26 e27 (G.1 0) e3).bind fun e28 => (hg_gr q26 (some o) 10 9).bind fun e29 => (hg_ld q26 e29 (G.1 2) p1).bind fun e30 => (hg_chk q26 (some o) 10).bind fun b31 => (hm_RE_emit G q26 b31 e28 e30).bind fun q34 => some (q34, (-1))) else if v7 = 3 then ((hg_chk S (some o) 10).bind fun b36 => (hm_RE_beginPresent G S b36 p1).bind fun q39 => some (q39.1, q39.2)) else if v7 = 4 then ((hg_gr S (some o) 10 0).bind fun e41 => (hg_gr S e41 9 8).bind fun e42 => (hg_ld S e42 (G.1 0) p1).bind fun e43 => (hg_gr S (some o) 10 9).bind fun e44 => (hg_ld S e44 (G.1 2) p1).bind fun e45 => (hg_chk S (some o) 10).bind fun b46 => (hm_RE_within G S b46 e43 e45).bind fun q49 => some (q49.1, q49.2)) else if v7 = 5 then ((hg_gr S (some o) 10 0).bind fun e51 => (hg_gr S e51 9 8).bind fun e52 => (hg_ld S e52 (G.1 0) p1).bind fun e53 => (hg_gr S (some o) 10 9).bind fun e54 => (hg_ld S e54 (G.1 2) p1).bind fun e55 => (hg_chk S (some o) 10).bind fun b56 => (hm_RE_within G S b56 e53 e55).bind fun q59 => some (q59.1, q59.2)) else if v7 = 6 then ((hg_gr S (some o) 10 0).bind fun e61 => (hg_gr S e61 9 8).bind fun e62 => (hg_ld S e62 (G.1 0) p1).bind fun e63 => (hg_gr S (some o) 10 9).bind fun e64 => (hg_ld S e64 (G.1 2) p1).bind fun e65 => (hg_chk S (some o) 10).bind fun b66 => (hm_RE_within G S b66 e63 e65).bind fun q69 => some (q69.1, q69.2)) else if v7 = 7 then ((hg_gr S (some o) 10 0).bind fun e71 => (hg_gr S e71 9 8).bind fun e72 => (hg_ld S e72 (G.1 0) p1).bind fun e73 => (hg_gr S (some o) 10 9).bind fun e74 => (hg_ld S e74 (G.1 2) p1).bind fun e75 => (hg_chk S (some o) 10).bind fun b76 => (hm_RE_within G S b76 e73 e75).bind fun q79 => some (q79.1, q79.2)) else if v7 = 8 then ((hg_gr S (some o) 10 0).bind fun e81 => (hg_gr S e81 9 8).bind fun e82 => (hg_ld S e82 (G.1 0) p1).bind fun e83 => (hg_gr S (some o) 10 9).bind fun e84 => (hg_ld S e84 (G.1 2) p1).bind fun e85 => (hg_chk S (some o) 10).bind fun b86 => (hm_RE_within G S b86 e83 e85).bind fun q89 => some (q89.1, q89.2)) else if v7 = 9 then ((hg_chk S (some o) 10).bind fun b91 => (hm_RE_answer G S b91 p1 (((1 : Int32) <<< (e3 &&& (31 : Int32)))) e3).bind fun q94 => some (q94, (-1))) else if v7 = 10 then ((hg_gr S (some o) 10 4).bind fun e96 => (hg_gr S (some o) 10 3).bind fun e97 => (hg_ld S e97 (G.1 0) e3).bind fun e98 => (hg_gi S (some o) 10 17).bind fun e99 => (hg_st S e96 (G.1 0) e3 (e98 + e99)).bind fun S100 => (hg_gr S100 (some o) 10 0).bind fun e101 => (hg_gr S100 e101 9 8).bind fun e102 => (hg_ld S100 e102 (G.1 0) p1).bind fun e103 => (hg_gr S100 (some o) 10 9).bind fun e104 => (hg_ld S100 e104 (G.1 2) p1).bind fun e105 => (hg_chk S100 (some o) 10).bind fun b106 => (hm_RE_within G S100 b106 e103 e105).bind fun q109 => some (q109.1, q109.2)) else ((hg_gr S (some o) 10 0).bind fun e111 => (hg_gr S e111 9 8).bind fun e112 => (hg_ld S e112 (G.1 0) p1).bind fun e113 => (hg_gr S (some o) 10 9).bind fun e114 => (hg_ld S e114 (G.1 2) p1).bind fun e115 => (hg_chk S (some o) 10).bind fun b116 => (hm_RE_within G S b116 e113 e115).bind fun q119 => some (q119.1, q119.2))
set_option maxHeartbeats 4000000 in
set_option maxRecDepth 100000 in
/-- SignalEngine$Reactor.beginStart(I)I -/
theorem hm_RE_beginStart_ok (l : Launch) (D : va_G) (G : hg_E) (Z : hg_S) (o : Nat) (p1 : Int32) (q : hg_S × Int32) (hq : hm_RE_beginStart G Z o p1 = some q) : hg_C l ⟨"SignalEngine$Reactor", "beginStart", "(I)I"⟩ prog_12_method_13_code 3 (some (.int)) 2 46 D G [.ref o, .int p1] Z (.inl (some (.int q.2), q.1) : hg_O) := by
  refine hg_start (cv := fun q => (.inl (some (.int q.2), q.1) : hg_O)) hq ?_
  intro F hF h
  refine hg_enter (lv := [(0, va_rf (some o)), (1, .int p1)]) (by decide +kernel) (by simp [lg_sl, va_rf_cat, hg_cti, hg_ctr]) (by simp [lv_args, va_rf_cat, va_rf_some, hg_cti, hg_ctr]) ?_
  intro X hC hR
  show hg_G X l (hg_rm 2 46 Z) D 3 Z 0 [(0, va_rf (some o)), (1, .int p1)] []
  have h : dc_wp (hm_RE_beginStart G Z o p1) F := h
  delta hm_RE_beginStart at h
  refine hg_aloadn (pc := 0) (j := 0) (i := 0) (r := (some o)) hC 0 rfl rfl (show decode prog_12_method_13_code 0 = .ok (.aload_n 0, 1) by decide +kernel) ?_
  refine hg_rgr (pc := 1) (r := (some o)) hC fl_SignalEngine_Reactor_9 (show decode prog_12_method_13_code 1 = .ok (.getfield 9, 3) by decide +kernel) h ?_
  intro e1 h
  refine hg_rgr (pc := 4) (r := e1) hC fl_SignalEngine_Reactor_85 (show decode prog_12_method_13_code 4 = .ok (.getfield 85, 3) by decide +kernel) h ?_
  intro e2 h
  refine hg_iloadn (pc := 7) (j := 1) (i := 1) hC 1 rfl rfl (show decode prog_12_method_13_code 7 = .ok (.iload_n 1, 1) by decide +kernel) ?_
  refine hg_riald (pc := 8) (r := e2) hC (show decode prog_12_method_13_code 8 = .ok (.iaload, 1) by decide +kernel) h ?_
  intro e3 h
  refine hg_istoren (pc := 9) (j := 2) (i := 2) (lv' := [(2, .int e3), (0, va_rf (some o)), (1, .int p1)]) hC rfl (Nat.le_of_ble_eq_true rfl) rfl (show decode prog_12_method_13_code 9 = .ok (.istore_n 2, 1) by decide +kernel) ?_
  refine hg_aloadn (pc := 10) (j := 0) (i := 0) (r := (some o)) hC 1 rfl rfl (show decode prog_12_method_13_code 10 = .ok (.aload_n 0, 1) by decide +kernel) ?_
  refine hg_rgr (pc := 11) (r := (some o)) hC fl_SignalEngine_Reactor_9 (show decode prog_12_method_13_code 11 = .ok (.getfield 9, 3) by decide +kernel) h ?_
  intro e4 h
  refine hg_rgr (pc := 14) (r := e4) hC fl_SignalEngine_Reactor_15 (show decode prog_12_method_13_code 14 = .ok (.getfield 15, 3) by decide +kernel) h ?_
  intro e5 h
  refine hg_iloadn (pc := 17) (j := 1) (i := 1) hC 2 rfl rfl (show decode prog_12_method_13_code 17 = .ok (.iload_n 1, 1) by decide +kernel) ?_
  refine hg_riald (pc := 18) (r := e5) hC (show decode prog_12_method_13_code 18 = .ok (.iaload, 1) by decide +kernel) h ?_
  intro e6 h
  refine hg_letI h ?_
  intro v7 h
  rcases dc_ite h with ⟨hk12, h2⟩ | ⟨hk12, h2⟩
  · subst hk12; clear h; have h := h2; clear h2
    refine hg_tabIn (pc := 19) (off := 57) (tgt := 76) hC dsw_prog_12_method_13_code_19 (by decide +kernel) (by decide +kernel) (by decide +kernel) (by decide +kernel) ?_
    refine hg_aloadn (pc := 76) (j := 0) (i := 0) (r := (some o)) hC 1 rfl rfl (show decode prog_12_method_13_code 76 = .ok (.aload_n 0, 1) by decide +kernel) ?_
    refine hg_iloadn (pc := 77) (j := 1) (i := 1) hC 2 rfl rfl (show decode prog_12_method_13_code 77 = .ok (.iload_n 1, 1) by decide +kernel) ?_
    refine hg_iconst (pc := 78) (v := 1) hC (show decode prog_12_method_13_code 78 = .ok (.iconst 1, 1) by decide +kernel) (by decide +kernel) ?_
    refine hg_iconst (pc := 79) (v := 0) hC (show decode prog_12_method_13_code 79 = .ok (.iconst 0, 1) by decide +kernel) (by decide +kernel) ?_
    obtain ⟨b8, hb9, h⟩ := dc_bind h
    obtain ⟨hb9, hv10⟩ := hg_chk_of (C := R_RE) rfl hb9
    refine hg_kVv (pc := 80) (b := b8) (r := (some o)) (As := [.int p1, .int 1, .int 0]) (rest := []) (so := fun q => q) hC cw_SignalEngine_Reactor_171 (fun q hq => hm_RE_answer_ok l D G Z b8 p1 (1 : Int32) (0 : Int32) q hq) (Nat.le_of_ble_eq_true rfl) (Nat.le_of_ble_eq_true rfl) hb9 hv10 rfl (Nat.le_of_ble_eq_true rfl) (show decode prog_12_method_13_code 80 = .ok (.invokevirtual 171, 3) by decide +kernel) h ?_
    intro q11 h
    refine hg_iconst (pc := 83) (v := (-1)) hC (show decode prog_12_method_13_code 83 = .ok (.iconst (-1), 1) by decide +kernel) (by decide +kernel) ?_
    exact hg_iret (pc := 84) hC hR (hF _ (dc_some h)) (show decode prog_12_method_13_code 84 = .ok (.ireturn, 1) by decide +kernel)
  clear h; have h := h2; clear h2
  rcases dc_ite h with ⟨hk22, h2⟩ | ⟨hk22, h2⟩
  · subst hk22; clear h; have h := h2; clear h2
    refine hg_tabIn (pc := 19) (off := 66) (tgt := 85) hC dsw_prog_12_method_13_code_19 (by decide +kernel) (by decide +kernel) (by decide +kernel) (by decide +kernel) ?_
    refine hg_aloadn (pc := 85) (j := 0) (i := 0) (r := (some o)) hC 1 rfl rfl (show decode prog_12_method_13_code 85 = .ok (.aload_n 0, 1) by decide +kernel) ?_
    refine hg_iloadn (pc := 86) (j := 1) (i := 1) hC 2 rfl rfl (show decode prog_12_method_13_code 86 = .ok (.iload_n 1, 1) by decide +kernel) ?_
    refine hg_iconst (pc := 87) (v := 2) hC (show decode prog_12_method_13_code 87 = .ok (.iconst 2, 1) by decide +kernel) (by decide +kernel) ?_
    refine hg_iconst (pc := 88) (v := 1) hC (show decode prog_12_method_13_code 88 = .ok (.iconst 1, 1) by decide +kernel) (by decide +kernel) ?_
    obtain ⟨b13, hb14, h⟩ := dc_bind h
    obtain ⟨hb14, hv15⟩ := hg_chk_of (C := R_RE) rfl hb14
    refine hg_kVv (pc := 89) (b := b13) (r := (some o)) (As := [.int p1, .int 2, .int 1]) (rest := []) (so := fun q => q) hC cw_SignalEngine_Reactor_171 (fun q hq => hm_RE_answer_ok l D G Z b13 p1 (2 : Int32) (1 : Int32) q hq) (Nat.le_of_ble_eq_true rfl) (Nat.le_of_ble_eq_true rfl) hb14 hv15 rfl (Nat.le_of_ble_eq_true rfl) (show decode prog_12_method_13_code 89 = .ok (.invokevirtual 171, 3) by decide +kernel) h ?_
    intro q16 h
    refine hg_aloadn (pc := 92) (j := 0) (i := 0) (r := (some o)) hC 1 rfl rfl (show decode prog_12_method_13_code 92 = .ok (.aload_n 0, 1) by decide +kernel) ?_
    refine hg_rgr (pc := 93) (r := (some o)) hC fl_SignalEngine_Reactor_76 (show decode prog_12_method_13_code 93 = .ok (.getfield 76, 3) by decide +kernel) h ?_
    intro e17 h
    refine hg_iloadn (pc := 96) (j := 2) (i := 2) hC 0 rfl rfl (show decode prog_12_method_13_code 96 = .ok (.iload_n 2, 1) by decide +kernel) ?_
    refine hg_aloadn (pc := 97) (j := 0) (i := 0) (r := (some o)) hC 1 rfl rfl (show decode prog_12_method_13_code 97 = .ok (.aload_n 0, 1) by decide +kernel) ?_
    refine hg_rgr (pc := 98) (r := (some o)) hC fl_SignalEngine_Reactor_66 (show decode prog_12_method_13_code 98 = .ok (.getfield 66, 3) by decide +kernel) h ?_
    intro e18 h
    refine hg_iloadn (pc := 101) (j := 1) (i := 1) hC 2 rfl rfl (show decode prog_12_method_13_code 101 = .ok (.iload_n 1, 1) by decide +kernel) ?_
    refine hg_rzald (pc := 102) (r := e18) hC (show decode prog_12_method_13_code 102 = .ok (.baload, 1) by decide +kernel) h ?_
    intro e19 h
    obtain ⟨hz20, h⟩ := dc_zb_wp (dc_bind h)
    refine hg_rzast (pc := 103) (r := e17) hC hz20 (show decode prog_12_method_13_code 103 = .ok (.bastore, 1) by decide +kernel) h ?_
    intro S21 h
    refine hg_iconst (pc := 104) (v := (-1)) hC (show decode prog_12_method_13_code 104 = .ok (.iconst (-1), 1) by decide +kernel) (by decide +kernel) ?_
    exact hg_iret (pc := 105) hC hR (hF _ (dc_some h)) (show decode prog_12_method_13_code 105 = .ok (.ireturn, 1) by decide +kernel)
  clear h; have h := h2; clear h2
  rcases dc_ite h with ⟨hk35, h2⟩ | ⟨hk35, h2⟩
  · subst hk35; clear h; have h := h2; clear h2
    refine hg_tabIn (pc := 19) (off := 87) (tgt := 106) hC dsw_prog_12_method_13_code_19 (by decide +kernel) (by decide +kernel) (by decide +kernel) (by decide +kernel) ?_
    refine hg_aloadn (pc := 106) (j := 0) (i := 0) (r := (some o)) hC 1 rfl rfl (show decode prog_12_method_13_code 106 = .ok (.aload_n 0, 1) by decide +kernel) ?_
    refine hg_iloadn (pc := 107) (j := 1) (i := 1) hC 2 rfl rfl (show decode prog_12_method_13_code 107 = .ok (.iload_n 1, 1) by decide +kernel) ?_
    refine hg_iconst (pc := 108) (v := 1) hC (show decode prog_12_method_13_code 108 = .ok (.iconst 1, 1) by decide +kernel) (by decide +kernel) ?_
    refine hg_iconst (pc := 109) (v := 0) hC (show decode prog_12_method_13_code 109 = .ok (.iconst 0, 1) by decide +kernel) (by decide +kernel) ?_
    obtain ⟨b23, hb24, h⟩ := dc_bind h
    obtain ⟨hb24, hv25⟩ := hg_chk_of (C := R_RE) rfl hb24
    refine hg_kVv (pc := 110) (b := b23) (r := (some o)) (As := [.int p1, .int 1, .int 0]) (rest := []) (so := fun q => q) hC cw_SignalEngine_Reactor_171 (fun q hq => hm_RE_answer_ok l D G Z b23 p1 (1 : Int32) (0 : Int32) q hq) (Nat.le_of_ble_eq_true rfl) (Nat.le_of_ble_eq_true rfl) hb24 hv25 rfl (Nat.le_of_ble_eq_true rfl) (show decode prog_12_method_13_code 110 = .ok (.invokevirtual 171, 3) by decide +kernel) h ?_
    intro q26 h
    refine hg_aloadn (pc := 113) (j := 0) (i := 0) (r := (some o)) hC 1 rfl rfl (show decode prog_12_method_13_code 113 = .ok (.aload_n 0, 1) by decide +kernel) ?_
    refine hg_aloadn (pc := 114) (j := 0) (i := 0) (r := (some o)) hC 1 rfl rfl (show decode prog_12_method_13_code 114 = .ok (.aload_n 0, 1) by decide +kernel) ?_
    refine hg_rgr (pc := 115) (r := (some o)) hC fl_SignalEngine_Reactor_34 (show decode prog_12_method_13_code 115 = .ok (.getfield 34, 3) by decide +kernel) h ?_
    intro e27 h
    refine hg_iloadn (pc := 118) (j := 2) (i := 2) hC 0 rfl rfl (show decode prog_12_method_13_code 118 = .ok (.iload_n 2, 1) by decide +kernel) ?_
    refine hg_riald (pc := 119) (r := e27) hC (show decode prog_12_method_13_code 119 = .ok (.iaload, 1) by decide +kernel) h ?_
    intro e28 h
    refine hg_aloadn (pc := 120) (j := 0) (i := 0) (r := (some o)) hC 1 rfl rfl (show decode prog_12_method_13_code 120 = .ok (.aload_n 0, 1) by decide +kernel) ?_
    refine hg_rgr (pc := 121) (r := (some o)) hC fl_SignalEngine_Reactor_66 (show decode prog_12_method_13_code 121 = .ok (.getfield 66, 3) by decide +kernel) h ?_
    intro e29 h
    refine hg_iloadn (pc := 124) (j := 1) (i := 1) hC 2 rfl rfl (show decode prog_12_method_13_code 124 = .ok (.iload_n 1, 1) by decide +kernel) ?_
    refine hg_rzald (pc := 125) (r := e29) hC (show decode prog_12_method_13_code 125 = .ok (.baload, 1) by decide +kernel) h ?_
    intro e30 h
    obtain ⟨b31, hb32, h⟩ := dc_bind h
    obtain ⟨hb32, hv33⟩ := hg_chk_of (C := R_RE) rfl hb32
    refine hg_kVv (pc := 126) (b := b31) (r := (some o)) (As := [.int e28, .int e30]) (rest := []) (so := fun q => q) hC cw_SignalEngine_Reactor_175 (fun q hq => hm_RE_emit_ok l D G q26 b31 e28 e30 q hq) (Nat.le_of_ble_eq_true rfl) (Nat.le_of_ble_eq_true rfl) hb32 hv33 rfl (Nat.le_of_ble_eq_true rfl) (show decode prog_12_method_13_code 126 = .ok (.invokevirtual 175, 3) by decide +kernel) h ?_
    intro q34 h
    refine hg_iconst (pc := 129) (v := (-1)) hC (show decode prog_12_method_13_code 129 = .ok (.iconst (-1), 1) by decide +kernel) (by decide +kernel) ?_
    exact hg_iret (pc := 130) hC hR (hF _ (dc_some h)) (show decode prog_12_method_13_code 130 = .ok (.ireturn, 1) by decide +kernel)
  clear h; have h := h2; clear h2
  rcases dc_ite h with ⟨hk40, h2⟩ | ⟨hk40, h2⟩
  · subst hk40; clear h; have h := h2; clear h2
    refine hg_tabIn (pc := 19) (off := 123) (tgt := 142) hC dsw_prog_12_method_13_code_19 (by decide +kernel) (by decide +kernel) (by decide +kernel) (by decide +kernel) ?_
    refine hg_aloadn (pc := 142) (j := 0) (i := 0) (r := (some o)) hC 1 rfl rfl (show decode prog_12_method_13_code 142 = .ok (.aload_n 0, 1) by decide +kernel) ?_
    refine hg_iloadn (pc := 143) (j := 1) (i := 1) hC 2 rfl rfl (show decode prog_12_method_13_code 143 = .ok (.iload_n 1, 1) by decide +kernel) ?_
    obtain ⟨b36, hb37, h⟩ := dc_bind h
    obtain ⟨hb37, hv38⟩ := hg_chk_of (C := R_RE) rfl hb37
    refine hg_kVi (pc := 144) (b := b36) (r := (some o)) (As := [.int p1]) (rest := []) (vo := fun q => q.2) (so := fun q => q.1) hC cw_SignalEngine_Reactor_179 (fun q hq => hm_RE_beginPresent_ok l D G Z b36 p1 q hq) (Nat.le_of_ble_eq_true rfl) (Nat.le_of_ble_eq_true rfl) hb37 hv38 rfl (Nat.le_of_ble_eq_true rfl) (show decode prog_12_method_13_code 144 = .ok (.invokevirtual 179, 3) by decide +kernel) h ?_
    intro q39 h
    exact hg_iret (pc := 147) hC hR (hF _ (dc_some h)) (show decode prog_12_method_13_code 147 = .ok (.ireturn, 1) by decide +kernel)
  clear h; have h := h2; clear h2
  rcases dc_ite h with ⟨hk50, h2⟩ | ⟨hk50, h2⟩
  · subst hk50; clear h; have h := h2; clear h2
    refine hg_tabIn (pc := 19) (off := 166) (tgt := 185) hC dsw_prog_12_method_13_code_19 (by decide +kernel) (by decide +kernel) (by decide +kernel) (by decide +kernel) ?_
    refine hg_aloadn (pc := 185) (j := 0) (i := 0) (r := (some o)) hC 1 rfl rfl (show decode prog_12_method_13_code 185 = .ok (.aload_n 0, 1) by decide +kernel) ?_
    refine hg_aloadn (pc := 186) (j := 0) (i := 0) (r := (some o)) hC 1 rfl rfl (show decode prog_12_method_13_code 186 = .ok (.aload_n 0, 1) by decide +kernel) ?_
    refine hg_rgr (pc := 187) (r := (some o)) hC fl_SignalEngine_Reactor_9 (show decode prog_12_method_13_code 187 = .ok (.getfield 9, 3) by decide +kernel) h ?_
    intro e41 h
    refine hg_rgr (pc := 190) (r := e41) hC fl_SignalEngine_Reactor_182 (show decode prog_12_method_13_code 190 = .ok (.getfield 182, 3) by decide +kernel) h ?_
    intro e42 h
    refine hg_iloadn (pc := 193) (j := 1) (i := 1) hC 2 rfl rfl (show decode prog_12_method_13_code 193 = .ok (.iload_n 1, 1) by decide +kernel) ?_
    refine hg_riald (pc := 194) (r := e42) hC (show decode prog_12_method_13_code 194 = .ok (.iaload, 1) by decide +kernel) h ?_
    intro e43 h
    refine hg_aloadn (pc := 195) (j := 0) (i := 0) (r := (some o)) hC 1 rfl rfl (show decode prog_12_method_13_code 195 = .ok (.aload_n 0, 1) by decide +kernel) ?_
    refine hg_rgr (pc := 196) (r := (some o)) hC fl_SignalEngine_Reactor_66 (show decode prog_12_method_13_code 196 = .ok (.getfield 66, 3) by decide +kernel) h ?_
    intro e44 h
    refine hg_iloadn (pc := 199) (j := 1) (i := 1) hC 2 rfl rfl (show decode prog_12_method_13_code 199 = .ok (.iload_n 1, 1) by decide +kernel) ?_
    refine hg_rzald (pc := 200) (r := e44) hC (show decode prog_12_method_13_code 200 = .ok (.baload, 1) by decide +kernel) h ?_
    intro e45 h
    obtain ⟨b46, hb47, h⟩ := dc_bind h
    obtain ⟨hb47, hv48⟩ := hg_chk_of (C := R_RE) rfl hb47
    refine hg_kVi (pc := 201) (b := b46) (r := (some o)) (As := [.int e43, .int e45]) (rest := []) (vo := fun q => q.2) (so := fun q => q.1) hC cw_SignalEngine_Reactor_135 (fun q hq => hm_RE_within_ok l D G Z b46 e43 e45 q hq) (Nat.le_of_ble_eq_true rfl) (Nat.le_of_ble_eq_true rfl) hb47 hv48 rfl (Nat.le_of_ble_eq_true rfl) (show decode prog_12_method_13_code 201 = .ok (.invokevirtual 135, 3) by decide +kernel) h ?_
    intro q49 h
    exact hg_iret (pc := 204) hC hR (hF _ (dc_some h)) (show decode prog_12_method_13_code 204 = .ok (.ireturn, 1) by decide +kernel)
  clear h; have h := h2; clear h2
  rcases dc_ite h with ⟨hk60, h2⟩ | ⟨hk60, h2⟩
  · subst hk60; clear h; have h := h2; clear h2
    refine hg_tabIn (pc := 19) (off := 166) (tgt := 185) hC dsw_prog_12_method_13_code_19 (by decide +kernel) (by decide +kernel) (by decide +kernel) (by decide +kernel) ?_
    refine hg_aloadn (pc := 185) (j := 0) (i := 0) (r := (some o)) hC 1 rfl rfl (show decode prog_12_method_13_code 185 = .ok (.aload_n 0, 1) by decide +kernel) ?_
    refine hg_aloadn (pc := 186) (j := 0) (i := 0) (r := (some o)) hC 1 rfl rfl (show decode prog_12_method_13_code 186 = .ok (.aload_n 0, 1) by decide +kernel) ?_
    refine hg_rgr (pc := 187) (r := (some o)) hC fl_SignalEngine_Reactor_9 (show decode prog_12_method_13_code 187 = .ok (.getfield 9, 3) by decide +kernel) h ?_
    intro e51 h
    refine hg_rgr (pc := 190) (r := e51) hC fl_SignalEngine_Reactor_182 (show decode prog_12_method_13_code 190 = .ok (.getfield 182, 3) by decide +kernel) h ?_
    intro e52 h
    refine hg_iloadn (pc := 193) (j := 1) (i := 1) hC 2 rfl rfl (show decode prog_12_method_13_code 193 = .ok (.iload_n 1, 1) by decide +kernel) ?_
    refine hg_riald (pc := 194) (r := e52) hC (show decode prog_12_method_13_code 194 = .ok (.iaload, 1) by decide +kernel) h ?_
    intro e53 h
    refine hg_aloadn (pc := 195) (j := 0) (i := 0) (r := (some o)) hC 1 rfl rfl (show decode prog_12_method_13_code 195 = .ok (.aload_n 0, 1) by decide +kernel) ?_
    refine hg_rgr (pc := 196) (r := (some o)) hC fl_SignalEngine_Reactor_66 (show decode prog_12_method_13_code 196 = .ok (.getfield 66, 3) by decide +kernel) h ?_
    intro e54 h
    refine hg_iloadn (pc := 199) (j := 1) (i := 1) hC 2 rfl rfl (show decode prog_12_method_13_code 199 = .ok (.iload_n 1, 1) by decide +kernel) ?_
    refine hg_rzald (pc := 200) (r := e54) hC (show decode prog_12_method_13_code 200 = .ok (.baload, 1) by decide +kernel) h ?_
    intro e55 h
    obtain ⟨b56, hb57, h⟩ := dc_bind h
    obtain ⟨hb57, hv58⟩ := hg_chk_of (C := R_RE) rfl hb57
    refine hg_kVi (pc := 201) (b := b56) (r := (some o)) (As := [.int e53, .int e55]) (rest := []) (vo := fun q => q.2) (so := fun q => q.1) hC cw_SignalEngine_Reactor_135 (fun q hq => hm_RE_within_ok l D G Z b56 e53 e55 q hq) (Nat.le_of_ble_eq_true rfl) (Nat.le_of_ble_eq_true rfl) hb57 hv58 rfl (Nat.le_of_ble_eq_true rfl) (show decode prog_12_method_13_code 201 = .ok (.invokevirtual 135, 3) by decide +kernel) h ?_
    intro q59 h
    exact hg_iret (pc := 204) hC hR (hF _ (dc_some h)) (show decode prog_12_method_13_code 204 = .ok (.ireturn, 1) by decide +kernel)
  clear h; have h := h2; clear h2
  rcases dc_ite h with ⟨hk70, h2⟩ | ⟨hk70, h2⟩
  · subst hk70; clear h; have h := h2; clear h2
    refine hg_tabIn (pc := 19) (off := 166) (tgt := 185) hC dsw_prog_12_method_13_code_19 (by decide +kernel) (by decide +kernel) (by decide +kernel) (by decide +kernel) ?_
    refine hg_aloadn (pc := 185) (j := 0) (i := 0) (r := (some o)) hC 1 rfl rfl (show decode prog_12_method_13_code 185 = .ok (.aload_n 0, 1) by decide +kernel) ?_
    refine hg_aloadn (pc := 186) (j := 0) (i := 0) (r := (some o)) hC 1 rfl rfl (show decode prog_12_method_13_code 186 = .ok (.aload_n 0, 1) by decide +kernel) ?_
    refine hg_rgr (pc := 187) (r := (some o)) hC fl_SignalEngine_Reactor_9 (show decode prog_12_method_13_code 187 = .ok (.getfield 9, 3) by decide +kernel) h ?_
    intro e61 h
    refine hg_rgr (pc := 190) (r := e61) hC fl_SignalEngine_Reactor_182 (show decode prog_12_method_13_code 190 = .ok (.getfield 182, 3) by decide +kernel) h ?_
    intro e62 h
    refine hg_iloadn (pc := 193) (j := 1) (i := 1) hC 2 rfl rfl (show decode prog_12_method_13_code 193 = .ok (.iload_n 1, 1) by decide +kernel) ?_
    refine hg_riald (pc := 194) (r := e62) hC (show decode prog_12_method_13_code 194 = .ok (.iaload, 1) by decide +kernel) h ?_
    intro e63 h
    refine hg_aloadn (pc := 195) (j := 0) (i := 0) (r := (some o)) hC 1 rfl rfl (show decode prog_12_method_13_code 195 = .ok (.aload_n 0, 1) by decide +kernel) ?_
    refine hg_rgr (pc := 196) (r := (some o)) hC fl_SignalEngine_Reactor_66 (show decode prog_12_method_13_code 196 = .ok (.getfield 66, 3) by decide +kernel) h ?_
    intro e64 h
    refine hg_iloadn (pc := 199) (j := 1) (i := 1) hC 2 rfl rfl (show decode prog_12_method_13_code 199 = .ok (.iload_n 1, 1) by decide +kernel) ?_
    refine hg_rzald (pc := 200) (r := e64) hC (show decode prog_12_method_13_code 200 = .ok (.baload, 1) by decide +kernel) h ?_
    intro e65 h
    obtain ⟨b66, hb67, h⟩ := dc_bind h
    obtain ⟨hb67, hv68⟩ := hg_chk_of (C := R_RE) rfl hb67
    refine hg_kVi (pc := 201) (b := b66) (r := (some o)) (As := [.int e63, .int e65]) (rest := []) (vo := fun q => q.2) (so := fun q => q.1) hC cw_SignalEngine_Reactor_135 (fun q hq => hm_RE_within_ok l D G Z b66 e63 e65 q hq) (Nat.le_of_ble_eq_true rfl) (Nat.le_of_ble_eq_true rfl) hb67 hv68 rfl (Nat.le_of_ble_eq_true rfl) (show decode prog_12_method_13_code 201 = .ok (.invokevirtual 135, 3) by decide +kernel) h ?_
    intro q69 h
    exact hg_iret (pc := 204) hC hR (hF _ (dc_some h)) (show decode prog_12_method_13_code 204 = .ok (.ireturn, 1) by decide +kernel)
  clear h; have h := h2; clear h2
  rcases dc_ite h with ⟨hk80, h2⟩ | ⟨hk80, h2⟩
  · subst hk80; clear h; have h := h2; clear h2
    refine hg_tabIn (pc := 19) (off := 166) (tgt := 185) hC dsw_prog_12_method_13_code_19 (by decide +kernel) (by decide +kernel) (by decide +kernel) (by decide +kernel) ?_
    refine hg_aloadn (pc := 185) (j := 0) (i := 0) (r := (some o)) hC 1 rfl rfl (show decode prog_12_method_13_code 185 = .ok (.aload_n 0, 1) by decide +kernel) ?_
    refine hg_aloadn (pc := 186) (j := 0) (i := 0) (r := (some o)) hC 1 rfl rfl (show decode prog_12_method_13_code 186 = .ok (.aload_n 0, 1) by decide +kernel) ?_
    refine hg_rgr (pc := 187) (r := (some o)) hC fl_SignalEngine_Reactor_9 (show decode prog_12_method_13_code 187 = .ok (.getfield 9, 3) by decide +kernel) h ?_
    intro e71 h
    refine hg_rgr (pc := 190) (r := e71) hC fl_SignalEngine_Reactor_182 (show decode prog_12_method_13_code 190 = .ok (.getfield 182, 3) by decide +kernel) h ?_
    intro e72 h
    refine hg_iloadn (pc := 193) (j := 1) (i := 1) hC 2 rfl rfl (show decode prog_12_method_13_code 193 = .ok (.iload_n 1, 1) by decide +kernel) ?_
    refine hg_riald (pc := 194) (r := e72) hC (show decode prog_12_method_13_code 194 = .ok (.iaload, 1) by decide +kernel) h ?_
    intro e73 h
    refine hg_aloadn (pc := 195) (j := 0) (i := 0) (r := (some o)) hC 1 rfl rfl (show decode prog_12_method_13_code 195 = .ok (.aload_n 0, 1) by decide +kernel) ?_
    refine hg_rgr (pc := 196) (r := (some o)) hC fl_SignalEngine_Reactor_66 (show decode prog_12_method_13_code 196 = .ok (.getfield 66, 3) by decide +kernel) h ?_
    intro e74 h
    refine hg_iloadn (pc := 199) (j := 1) (i := 1) hC 2 rfl rfl (show decode prog_12_method_13_code 199 = .ok (.iload_n 1, 1) by decide +kernel) ?_
    refine hg_rzald (pc := 200) (r := e74) hC (show decode prog_12_method_13_code 200 = .ok (.baload, 1) by decide +kernel) h ?_
    intro e75 h
    obtain ⟨b76, hb77, h⟩ := dc_bind h
    obtain ⟨hb77, hv78⟩ := hg_chk_of (C := R_RE) rfl hb77
    refine hg_kVi (pc := 201) (b := b76) (r := (some o)) (As := [.int e73, .int e75]) (rest := []) (vo := fun q => q.2) (so := fun q => q.1) hC cw_SignalEngine_Reactor_135 (fun q hq => hm_RE_within_ok l D G Z b76 e73 e75 q hq) (Nat.le_of_ble_eq_true rfl) (Nat.le_of_ble_eq_true rfl) hb77 hv78 rfl (Nat.le_of_ble_eq_true rfl) (show decode prog_12_method_13_code 201 = .ok (.invokevirtual 135, 3) by decide +kernel) h ?_
    intro q79 h
    exact hg_iret (pc := 204) hC hR (hF _ (dc_some h)) (show decode prog_12_method_13_code 204 = .ok (.ireturn, 1) by decide +kernel)
  clear h; have h := h2; clear h2
  rcases dc_ite h with ⟨hk90, h2⟩ | ⟨hk90, h2⟩
  · subst hk90; clear h; have h := h2; clear h2
    refine hg_tabIn (pc := 19) (off := 166) (tgt := 185) hC dsw_prog_12_method_13_code_19 (by decide +kernel) (by decide +kernel) (by decide +kernel) (by decide +kernel) ?_
    refine hg_aloadn (pc := 185) (j := 0) (i := 0) (r := (some o)) hC 1 rfl rfl (show decode prog_12_method_13_code 185 = .ok (.aload_n 0, 1) by decide +kernel) ?_
    refine hg_aloadn (pc := 186) (j := 0) (i := 0) (r := (some o)) hC 1 rfl rfl (show decode prog_12_method_13_code 186 = .ok (.aload_n 0, 1) by decide +kernel) ?_
    refine hg_rgr (pc := 187) (r := (some o)) hC fl_SignalEngine_Reactor_9 (show decode prog_12_method_13_code 187 = .ok (.getfield 9, 3) by decide +kernel) h ?_
    intro e81 h
    refine hg_rgr (pc := 190) (r := e81) hC fl_SignalEngine_Reactor_182 (show decode prog_12_method_13_code 190 = .ok (.getfield 182, 3) by decide +kernel) h ?_
    intro e82 h
    refine hg_iloadn (pc := 193) (j := 1) (i := 1) hC 2 rfl rfl (show decode prog_12_method_13_code 193 = .ok (.iload_n 1, 1) by decide +kernel) ?_
    refine hg_riald (pc := 194) (r := e82) hC (show decode prog_12_method_13_code 194 = .ok (.iaload, 1) by decide +kernel) h ?_
    intro e83 h
    refine hg_aloadn (pc := 195) (j := 0) (i := 0) (r := (some o)) hC 1 rfl rfl (show decode prog_12_method_13_code 195 = .ok (.aload_n 0, 1) by decide +kernel) ?_
    refine hg_rgr (pc := 196) (r := (some o)) hC fl_SignalEngine_Reactor_66 (show decode prog_12_method_13_code 196 = .ok (.getfield 66, 3) by decide +kernel) h ?_
    intro e84 h
    refine hg_iloadn (pc := 199) (j := 1) (i := 1) hC 2 rfl rfl (show decode prog_12_method_13_code 199 = .ok (.iload_n 1, 1) by decide +kernel) ?_
    refine hg_rzald (pc := 200) (r := e84) hC (show decode prog_12_method_13_code 200 = .ok (.baload, 1) by decide +kernel) h ?_
    intro e85 h
    obtain ⟨b86, hb87, h⟩ := dc_bind h
    obtain ⟨hb87, hv88⟩ := hg_chk_of (C := R_RE) rfl hb87
    refine hg_kVi (pc := 201) (b := b86) (r := (some o)) (As := [.int e83, .int e85]) (rest := []) (vo := fun q => q.2) (so := fun q => q.1) hC cw_SignalEngine_Reactor_135 (fun q hq => hm_RE_within_ok l D G Z b86 e83 e85 q hq) (Nat.le_of_ble_eq_true rfl) (Nat.le_of_ble_eq_true rfl) hb87 hv88 rfl (Nat.le_of_ble_eq_true rfl) (show decode prog_12_method_13_code 201 = .ok (.invokevirtual 135, 3) by decide +kernel) h ?_
    intro q89 h
    exact hg_iret (pc := 204) hC hR (hF _ (dc_some h)) (show decode prog_12_method_13_code 204 = .ok (.ireturn, 1) by decide +kernel)
  clear h; have h := h2; clear h2
  rcases dc_ite h with ⟨hk95, h2⟩ | ⟨hk95, h2⟩
  · subst hk95; clear h; have h := h2; clear h2
    refine hg_tabIn (pc := 19) (off := 112) (tgt := 131) hC dsw_prog_12_method_13_code_19 (by decide +kernel) (by decide +kernel) (by decide +kernel) (by decide +kernel) ?_
    refine hg_aloadn (pc := 131) (j := 0) (i := 0) (r := (some o)) hC 1 rfl rfl (show decode prog_12_method_13_code 131 = .ok (.aload_n 0, 1) by decide +kernel) ?_
    refine hg_iloadn (pc := 132) (j := 1) (i := 1) hC 2 rfl rfl (show decode prog_12_method_13_code 132 = .ok (.iload_n 1, 1) by decide +kernel) ?_
    refine hg_iconst (pc := 133) (v := 1) hC (show decode prog_12_method_13_code 133 = .ok (.iconst 1, 1) by decide +kernel) (by decide +kernel) ?_
    refine hg_iloadn (pc := 134) (j := 2) (i := 2) hC 0 rfl rfl (show decode prog_12_method_13_code 134 = .ok (.iload_n 2, 1) by decide +kernel) ?_
    refine hg_ishl (pc := 135) hC (show decode prog_12_method_13_code 135 = .ok (.ishl, 1) by decide +kernel) ?_
    refine hg_iloadn (pc := 136) (j := 2) (i := 2) hC 0 rfl rfl (show decode prog_12_method_13_code 136 = .ok (.iload_n 2, 1) by decide +kernel) ?_
    obtain ⟨b91, hb92, h⟩ := dc_bind h
    obtain ⟨hb92, hv93⟩ := hg_chk_of (C := R_RE) rfl hb92
    refine hg_kVv (pc := 137) (b := b91) (r := (some o)) (As := [.int p1, .int (((1 : Int32) <<< (e3 &&& (31 : Int32)))), .int e3]) (rest := []) (so := fun q => q) hC cw_SignalEngine_Reactor_171 (fun q hq => hm_RE_answer_ok l D G Z b91 p1 (((1 : Int32) <<< (e3 &&& (31 : Int32)))) e3 q hq) (Nat.le_of_ble_eq_true rfl) (Nat.le_of_ble_eq_true rfl) hb92 hv93 rfl (Nat.le_of_ble_eq_true rfl) (show decode prog_12_method_13_code 137 = .ok (.invokevirtual 171, 3) by decide +kernel) h ?_
    intro q94 h
    refine hg_iconst (pc := 140) (v := (-1)) hC (show decode prog_12_method_13_code 140 = .ok (.iconst (-1), 1) by decide +kernel) (by decide +kernel) ?_
    exact hg_iret (pc := 141) hC hR (hF _ (dc_some h)) (show decode prog_12_method_13_code 141 = .ok (.ireturn, 1) by decide +kernel)
  clear h; have h := h2; clear h2
  rcases dc_ite h with ⟨hk110, h2⟩ | ⟨hk110, h2⟩
  · subst hk110; clear h; have h := h2; clear h2
    refine hg_tabIn (pc := 19) (off := 129) (tgt := 148) hC dsw_prog_12_method_13_code_19 (by decide +kernel) (by decide +kernel) (by decide +kernel) (by decide +kernel) ?_
    refine hg_aloadn (pc := 148) (j := 0) (i := 0) (r := (some o)) hC 1 rfl rfl (show decode prog_12_method_13_code 148 = .ok (.aload_n 0, 1) by decide +kernel) ?_
    refine hg_rgr (pc := 149) (r := (some o)) hC fl_SignalEngine_Reactor_34 (show decode prog_12_method_13_code 149 = .ok (.getfield 34, 3) by decide +kernel) h ?_
    intro e96 h
    refine hg_iloadn (pc := 152) (j := 2) (i := 2) hC 0 rfl rfl (show decode prog_12_method_13_code 152 = .ok (.iload_n 2, 1) by decide +kernel) ?_
    refine hg_aloadn (pc := 153) (j := 0) (i := 0) (r := (some o)) hC 1 rfl rfl (show decode prog_12_method_13_code 153 = .ok (.aload_n 0, 1) by decide +kernel) ?_
    refine hg_rgr (pc := 154) (r := (some o)) hC fl_SignalEngine_Reactor_31 (show decode prog_12_method_13_code 154 = .ok (.getfield 31, 3) by decide +kernel) h ?_
    intro e97 h
    refine hg_iloadn (pc := 157) (j := 2) (i := 2) hC 0 rfl rfl (show decode prog_12_method_13_code 157 = .ok (.iload_n 2, 1) by decide +kernel) ?_
    refine hg_riald (pc := 158) (r := e97) hC (show decode prog_12_method_13_code 158 = .ok (.iaload, 1) by decide +kernel) h ?_
    intro e98 h
    refine hg_aloadn (pc := 159) (j := 0) (i := 0) (r := (some o)) hC 1 rfl rfl (show decode prog_12_method_13_code 159 = .ok (.aload_n 0, 1) by decide +kernel) ?_
    refine hg_rgi (pc := 160) (r := (some o)) hC fl_SignalEngine_Reactor_132 (show decode prog_12_method_13_code 160 = .ok (.getfield 132, 3) by decide +kernel) h ?_
    intro e99 h
    refine hg_iadd (pc := 163) hC (show decode prog_12_method_13_code 163 = .ok (.iadd, 1) by decide +kernel) ?_
    refine hg_riast (pc := 164) (r := e96) hC (show decode prog_12_method_13_code 164 = .ok (.iastore, 1) by decide +kernel) h ?_
    intro S100 h
    refine hg_aloadn (pc := 165) (j := 0) (i := 0) (r := (some o)) hC 1 rfl rfl (show decode prog_12_method_13_code 165 = .ok (.aload_n 0, 1) by decide +kernel) ?_
    refine hg_aloadn (pc := 166) (j := 0) (i := 0) (r := (some o)) hC 1 rfl rfl (show decode prog_12_method_13_code 166 = .ok (.aload_n 0, 1) by decide +kernel) ?_
    refine hg_rgr (pc := 167) (r := (some o)) hC fl_SignalEngine_Reactor_9 (show decode prog_12_method_13_code 167 = .ok (.getfield 9, 3) by decide +kernel) h ?_
    intro e101 h
    refine hg_rgr (pc := 170) (r := e101) hC fl_SignalEngine_Reactor_182 (show decode prog_12_method_13_code 170 = .ok (.getfield 182, 3) by decide +kernel) h ?_
    intro e102 h
    refine hg_iloadn (pc := 173) (j := 1) (i := 1) hC 2 rfl rfl (show decode prog_12_method_13_code 173 = .ok (.iload_n 1, 1) by decide +kernel) ?_
    refine hg_riald (pc := 174) (r := e102) hC (show decode prog_12_method_13_code 174 = .ok (.iaload, 1) by decide +kernel) h ?_
    intro e103 h
    refine hg_aloadn (pc := 175) (j := 0) (i := 0) (r := (some o)) hC 1 rfl rfl (show decode prog_12_method_13_code 175 = .ok (.aload_n 0, 1) by decide +kernel) ?_
    refine hg_rgr (pc := 176) (r := (some o)) hC fl_SignalEngine_Reactor_66 (show decode prog_12_method_13_code 176 = .ok (.getfield 66, 3) by decide +kernel) h ?_
    intro e104 h
    refine hg_iloadn (pc := 179) (j := 1) (i := 1) hC 2 rfl rfl (show decode prog_12_method_13_code 179 = .ok (.iload_n 1, 1) by decide +kernel) ?_
    refine hg_rzald (pc := 180) (r := e104) hC (show decode prog_12_method_13_code 180 = .ok (.baload, 1) by decide +kernel) h ?_
    intro e105 h
    obtain ⟨b106, hb107, h⟩ := dc_bind h
    obtain ⟨hb107, hv108⟩ := hg_chk_of (C := R_RE) rfl hb107
    refine hg_kVi (pc := 181) (b := b106) (r := (some o)) (As := [.int e103, .int e105]) (rest := []) (vo := fun q => q.2) (so := fun q => q.1) hC cw_SignalEngine_Reactor_135 (fun q hq => hm_RE_within_ok l D G S100 b106 e103 e105 q hq) (Nat.le_of_ble_eq_true rfl) (Nat.le_of_ble_eq_true rfl) hb107 hv108 rfl (Nat.le_of_ble_eq_true rfl) (show decode prog_12_method_13_code 181 = .ok (.invokevirtual 135, 3) by decide +kernel) h ?_
    intro q109 h
    exact hg_iret (pc := 184) hC hR (hF _ (dc_some h)) (show decode prog_12_method_13_code 184 = .ok (.ireturn, 1) by decide +kernel)
  clear h; have h := h2; clear h2
  refine hg_tabOut (pc := 19) (tgt := 185) hC dsw_prog_12_method_13_code_19 (by have := dc_swc hk12 (show (0 : Int32).toInt = 0 by decide +kernel); have := dc_swc hk22 (show (1 : Int32).toInt = 1 by decide +kernel); have := dc_swc hk35 (show (2 : Int32).toInt = 2 by decide +kernel); have := dc_swc hk40 (show (3 : Int32).toInt = 3 by decide +kernel); have := dc_swc hk50 (show (4 : Int32).toInt = 4 by decide +kernel); have := dc_swc hk60 (show (5 : Int32).toInt = 5 by decide +kernel); have := dc_swc hk70 (show (6 : Int32).toInt = 6 by decide +kernel); have := dc_swc hk80 (show (7 : Int32).toInt = 7 by decide +kernel); have := dc_swc hk90 (show (8 : Int32).toInt = 8 by decide +kernel); have := dc_swc hk95 (show (9 : Int32).toInt = 9 by decide +kernel); have := dc_swc hk110 (show (10 : Int32).toInt = 10 by decide +kernel); omega) (by decide +kernel) ?_
  refine hg_aloadn (pc := 185) (j := 0) (i := 0) (r := (some o)) hC 1 rfl rfl (show decode prog_12_method_13_code 185 = .ok (.aload_n 0, 1) by decide +kernel) ?_
  refine hg_aloadn (pc := 186) (j := 0) (i := 0) (r := (some o)) hC 1 rfl rfl (show decode prog_12_method_13_code 186 = .ok (.aload_n 0, 1) by decide +kernel) ?_
  refine hg_rgr (pc := 187) (r := (some o)) hC fl_SignalEngine_Reactor_9 (show decode prog_12_method_13_code 187 = .ok (.getfield 9, 3) by decide +kernel) h ?_
  intro e111 h
  refine hg_rgr (pc := 190) (r := e111) hC fl_SignalEngine_Reactor_182 (show decode prog_12_method_13_code 190 = .ok (.getfield 182, 3) by decide +kernel) h ?_
  intro e112 h
  refine hg_iloadn (pc := 193) (j := 1) (i := 1) hC 2 rfl rfl (show decode prog_12_method_13_code 193 = .ok (.iload_n 1, 1) by decide +kernel) ?_
  refine hg_riald (pc := 194) (r := e112) hC (show decode prog_12_method_13_code 194 = .ok (.iaload, 1) by decide +kernel) h ?_
  intro e113 h
  refine hg_aloadn (pc := 195) (j := 0) (i := 0) (r := (some o)) hC 1 rfl rfl (show decode prog_12_method_13_code 195 = .ok (.aload_n 0, 1) by decide +kernel) ?_
  refine hg_rgr (pc := 196) (r := (some o)) hC fl_SignalEngine_Reactor_66 (show decode prog_12_method_13_code 196 = .ok (.getfield 66, 3) by decide +kernel) h ?_
  intro e114 h
  refine hg_iloadn (pc := 199) (j := 1) (i := 1) hC 2 rfl rfl (show decode prog_12_method_13_code 199 = .ok (.iload_n 1, 1) by decide +kernel) ?_
  refine hg_rzald (pc := 200) (r := e114) hC (show decode prog_12_method_13_code 200 = .ok (.baload, 1) by decide +kernel) h ?_
  intro e115 h
  obtain ⟨b116, hb117, h⟩ := dc_bind h
  obtain ⟨hb117, hv118⟩ := hg_chk_of (C := R_RE) rfl hb117
  refine hg_kVi (pc := 201) (b := b116) (r := (some o)) (As := [.int e113, .int e115]) (rest := []) (vo := fun q => q.2) (so := fun q => q.1) hC cw_SignalEngine_Reactor_135 (fun q hq => hm_RE_within_ok l D G Z b116 e113 e115 q hq) (Nat.le_of_ble_eq_true rfl) (Nat.le_of_ble_eq_true rfl) hb117 hv118 rfl (Nat.le_of_ble_eq_true rfl) (show decode prog_12_method_13_code 201 = .ok (.invokevirtual 135, 3) by decide +kernel) h ?_
  intro q119 h
  exact hg_iret (pc := 204) hC hR (hF _ (dc_some h)) (show decode prog_12_method_13_code 204 = .ok (.ireturn, 1) by decide +kernel)
