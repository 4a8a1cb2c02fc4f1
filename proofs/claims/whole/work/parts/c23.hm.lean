noncomputable def hm_PA_takeProgram_L125 (G : hg_E) (S : hg_S) (o : Nat) (y0 : Int32) (y1 : Option Nat) : Option ((hg_S) ⊕ hg_X) :=
  (hg_chk S y1 2).bind fun b1 => (hm_LX_require G S b1 y0).bind (Sum.elim (fun q4 => some (.inl q4)) (fun z => some (Sum.inr z)))
noncomputable def hm_PA_takeProgram_L82 (G : hg_E) (S : hg_S) (o : Nat) : Option ((hg_S) ⊕ hg_X) :=
  (hg_gr S (some o) 4 1).bind fun e5 => (hg_gi S e5 3 4).bind fun e6 => (hg_gi S (some o) 4 4).bind fun e7 => (hg_pf S (some o) 4 5 (.int (e6 - e7))).bind fun S8 => (hg_chk S8 (some o) 4).bind fun b9 => (hm_PA_takeBody_r G S8 b9).bind (Sum.elim (fun q12 => (hg_gr q12.1 (some o) 4 0).bind fun e13 => (hg_gr q12.1 (some o) 4 0).bind fun e14 => (hg_gr q12.1 e14 2 1).bind fun e15 => if e15 = (some (G.2.1 32)) then (hm_PA_takeProgram_L125 G q12.1 o 1 e13) else (hm_PA_takeProgram_L125 G q12.1 o 0 e13)) (fun z => some (Sum.inr z)))
noncomputable def hm_PA_takeProgram_L39 (G : hg_E) (S : hg_S) (o : Nat) : Option ((hg_S) ⊕ hg_X) :=
  (hg_gr S (some o) 4 1).bind fun e16 => (hg_gi S e16 3 4).bind fun e17 => (hg_pf S (some o) 4 4 (.int e17)).bind fun S18 => (hg_gr S18 (some o) 4 0).bind fun e19 => (hg_gr S18 e19 2 1).bind fun e20 => if e20 = (some (G.2.1 1)) then ((hg_gr S18 (some o) 4 0).bind fun e21 => (hg_chk S18 e21 2).bind fun b22 => (hm_LX_advance G S18 b22).bind (Sum.elim (fun q25 => (hg_chk q25 (some o) 4).bind fun b26 => (hm_PA_takeNames G q25 b26 (0 : Int32)).bind (Sum.elim (fun q29 => (hg_chk q29 (some o) 4).bind fun b30 => (hm_PA_take G q29 b30 (some (G.2.1 26))).bind (Sum.elim (fun q33 => hm_PA_takeProgram_L82 G q33 o) (fun z => some (Sum.inr z)))) (fun z => some (Sum.inr z)))) (fun z => some (Sum.inr z)))) else (hm_PA_takeProgram_L82 G S18 o)
noncomputable def hm_PA_takeProgram (G : hg_E) (S : hg_S) (o : Nat) : Option ((hg_S) ⊕ hg_X) :=
  (hg_gr S (some o) 4 0).bind fun e34 => (hg_chk S e34 2).bind fun b35 => (hm_LX_open G S b35).bind (Sum.elim (fun q38 => (hg_gr q38 (some o) 4 0).bind fun e39 => (hg_gr q38 e39 2 1).bind fun e40 => if e40 = (some (G.2.1 0)) then ((hg_gr q38 (some o) 4 0).bind fun e41 => (hg_chk q38 e41 2).bind fun b42 => (hm_LX_advance G q38 b42).bind (Sum.elim (fun q45 => (hg_chk q45 (some o) 4).bind fun b46 => (hm_PA_takeNames G q45 b46 (0 : Int32)).bind (Sum.elim (fun q49 => (hg_chk q49 (some o) 4).bind fun b50 => (hm_PA_take G q49 b50 (some (G.2.1 26))).bind (Sum.elim (fun q53 => hm_PA_takeProgram_L39 G q53 o) (fun z => some (Sum.inr z)))) (fun z => some (Sum.inr z)))) (fun z => some (Sum.inr z)))) else (hm_PA_takeProgram_L39 G q38 o)) (fun z => some (Sum.inr z)))
set_option maxHeartbeats 4000000 in
set_option maxRecDepth 100000 in
/-- SignalEngine$Parser.takeProgram()V -/
theorem hm_PA_takeProgram_ok (l : Launch) (hlt : l.stackTraces = false) (D : va_G) (G : hg_E) (Z : hg_S) (o : Nat) (q : (hg_S) ⊕ hg_X) (hq : hm_PA_takeProgram G Z o = some q) : hg_C l ⟨"SignalEngine$Parser", "takeProgram", "()V"⟩ prog_9_method_4_code 1 none 811 19409 D G [.ref o] Z (Sum.elim (fun q => (.inl (none, q) : hg_O)) hg_ox q) := by
  refine hg_start (cv := fun q => (Sum.elim (fun q => (.inl (none, q) : hg_O)) hg_ox q)) hq ?_
  intro F hF h
  refine hg_enter (lv := [(0, va_rf (some o))]) (by decide +kernel) (by simp [lg_sl, va_rf_cat, hg_cti, hg_ctr]) (by simp [lv_args, va_rf_cat, va_rf_some, hg_cti, hg_ctr]) ?_
  intro X hC hR
  have lab_125 : ∀ (S : hg_S) (y0 : Int32) (y1 : Option Nat), dc_wp (hm_PA_takeProgram_L125 G S o y0 y1) F → hg_G X l (hg_rm 811 19409 Z) D 1 S 125 [(0, va_rf (some o))] [.int y0, va_rf y1] := by
    intro S y0 y1 h
    delta hm_PA_takeProgram_L125 at h
    obtain ⟨b1, hb2, h⟩ := dc_bind h
    obtain ⟨hb2, hv3⟩ := hg_chk_of (C := R_LX) rfl hb2
    refine hg_kVTv (pc := 125) (b := b1) (r := y1) (As := [.int y0]) (rest := []) (so := fun q => q) hC hR cw_SignalEngine_Parser_102 (fun q hq => hm_LX_require_ok l hlt D G S b1 y0 q hq) (Nat.le_of_ble_eq_true rfl) (Nat.le_of_ble_eq_true rfl) hb2 hv3 rfl (Nat.le_of_ble_eq_true rfl) (show decode prog_9_method_4_code 125 = .ok (.invokevirtual 102, 3) by decide +kernel) h (fun z h => hF (.inr z) (dc_some h)) ?_
    intro q4 h
    exact hg_vret (pc := 128) hC hR (hF _ (dc_some h)) (show decode prog_9_method_4_code 128 = .ok (.return_, 1) by decide +kernel)
  have lab_82 : ∀ (S : hg_S), dc_wp (hm_PA_takeProgram_L82 G S o) F → hg_G X l (hg_rm 811 19409 Z) D 1 S 82 [(0, va_rf (some o))] [] := by
    intro S  h
    delta hm_PA_takeProgram_L82 at h
    refine hg_aloadn (pc := 82) (j := 0) (i := 0) (r := (some o)) hC 0 rfl rfl (show decode prog_9_method_4_code 82 = .ok (.aload_n 0, 1) by decide +kernel) ?_
    refine hg_aloadn (pc := 83) (j := 0) (i := 0) (r := (some o)) hC 0 rfl rfl (show decode prog_9_method_4_code 83 = .ok (.aload_n 0, 1) by decide +kernel) ?_
    refine hg_rgr (pc := 84) (r := (some o)) hC fl_SignalEngine_Parser_30 (show decode prog_9_method_4_code 84 = .ok (.getfield 30, 3) by decide +kernel) h ?_
    intro e5 h
    refine hg_rgi (pc := 87) (r := e5) hC fl_SignalEngine_Parser_46 (show decode prog_9_method_4_code 87 = .ok (.getfield 46, 3) by decide +kernel) h ?_
    intro e6 h
    refine hg_aloadn (pc := 90) (j := 0) (i := 0) (r := (some o)) hC 0 rfl rfl (show decode prog_9_method_4_code 90 = .ok (.aload_n 0, 1) by decide +kernel) ?_
    refine hg_rgi (pc := 91) (r := (some o)) hC fl_SignalEngine_Parser_57 (show decode prog_9_method_4_code 91 = .ok (.getfield 57, 3) by decide +kernel) h ?_
    intro e7 h
    refine hg_isub (pc := 94) hC (show decode prog_9_method_4_code 94 = .ok (.isub, 1) by decide +kernel) ?_
    refine hg_rput (pc := 95) (r := (some o)) (v := .int (e6 - e7)) hC fp_SignalEngine_Parser_60 rfl rfl (show decode prog_9_method_4_code 95 = .ok (.putfield 60, 3) by decide +kernel) h ?_
    intro S8 h
    refine hg_aloadn (pc := 98) (j := 0) (i := 0) (r := (some o)) hC 0 rfl rfl (show decode prog_9_method_4_code 98 = .ok (.aload_n 0, 1) by decide +kernel) ?_
    obtain ⟨b9, hb10, h⟩ := dc_bind h
    obtain ⟨hb10, hv11⟩ := hg_chk_of (C := R_PA) rfl hb10
    refine hg_kVTr (pc := 99) (b := b9) (r := (some o)) (As := []) (rest := []) (vo := fun q => q.2) (so := fun q => q.1) hC hR cw_SignalEngine_Parser_95 (fun q hq => hm_PA_takeBody_r_ok l hlt D G S8 b9 q hq) (Nat.le_of_ble_eq_true rfl) (Nat.le_of_ble_eq_true rfl) hb10 hv11 rfl (Nat.le_of_ble_eq_true rfl) (show decode prog_9_method_4_code 99 = .ok (.invokevirtual 95, 3) by decide +kernel) h (fun z h => hF (.inr z) (dc_some h)) ?_
    intro q12 h
    refine hg_pop (pc := 102) hC (show decode prog_9_method_4_code 102 = .ok (.pop, 1) by decide +kernel) (va_rf_cat _) ?_
    refine hg_aloadn (pc := 103) (j := 0) (i := 0) (r := (some o)) hC 0 rfl rfl (show decode prog_9_method_4_code 103 = .ok (.aload_n 0, 1) by decide +kernel) ?_
    refine hg_rgr (pc := 104) (r := (some o)) hC fl_SignalEngine_Parser_23 (show decode prog_9_method_4_code 104 = .ok (.getfield 23, 3) by decide +kernel) h ?_
    intro e13 h
    refine hg_aloadn (pc := 107) (j := 0) (i := 0) (r := (some o)) hC 0 rfl rfl (show decode prog_9_method_4_code 107 = .ok (.aload_n 0, 1) by decide +kernel) ?_
    refine hg_rgr (pc := 108) (r := (some o)) hC fl_SignalEngine_Parser_23 (show decode prog_9_method_4_code 108 = .ok (.getfield 23, 3) by decide +kernel) h ?_
    intro e14 h
    refine hg_rgr (pc := 111) (r := e14) hC fl_SignalEngine_Parser_70 (show decode prog_9_method_4_code 111 = .ok (.getfield 70, 3) by decide +kernel) h ?_
    intro e15 h
    refine hg_tok (pc := 114) (j := 32) hC (by decide) rfl w_803 (show decode prog_9_method_4_code 114 = .ok (.getstatic 99, 3) by decide +kernel) ?_
    refine hg_acmp_ne (pc := 117) (tgt := 124) (x := e15) (y := (some (G.2.1 32))) hC (show decode prog_9_method_4_code 117 = .ok (.if_acmp .ne 7, 3) by decide +kernel) (by decide +kernel) h ?_ ?_
    · intro h
      refine hg_iconst (pc := 120) (v := 1) hC (show decode prog_9_method_4_code 120 = .ok (.iconst 1, 1) by decide +kernel) (by decide +kernel) ?_
      refine hg_goto (pc := 121) (tgt := 125) hC (show decode prog_9_method_4_code 121 = .ok (.goto 4, 3) by decide +kernel) (by decide +kernel) ?_
      exact lab_125 q12.1 1 e13 h
    · intro h
      refine hg_iconst (pc := 124) (v := 0) hC (show decode prog_9_method_4_code 124 = .ok (.iconst 0, 1) by decide +kernel) (by decide +kernel) ?_
      exact lab_125 q12.1 0 e13 h
  have lab_39 : ∀ (S : hg_S), dc_wp (hm_PA_takeProgram_L39 G S o) F → hg_G X l (hg_rm 811 19409 Z) D 1 S 39 [(0, va_rf (some o))] [] := by
    intro S  h
    delta hm_PA_takeProgram_L39 at h
    refine hg_aloadn (pc := 39) (j := 0) (i := 0) (r := (some o)) hC 0 rfl rfl (show decode prog_9_method_4_code 39 = .ok (.aload_n 0, 1) by decide +kernel) ?_
    refine hg_aloadn (pc := 40) (j := 0) (i := 0) (r := (some o)) hC 0 rfl rfl (show decode prog_9_method_4_code 40 = .ok (.aload_n 0, 1) by decide +kernel) ?_
    refine hg_rgr (pc := 41) (r := (some o)) hC fl_SignalEngine_Parser_30 (show decode prog_9_method_4_code 41 = .ok (.getfield 30, 3) by decide +kernel) h ?_
    intro e16 h
    refine hg_rgi (pc := 44) (r := e16) hC fl_SignalEngine_Parser_46 (show decode prog_9_method_4_code 44 = .ok (.getfield 46, 3) by decide +kernel) h ?_
    intro e17 h
    refine hg_rput (pc := 47) (r := (some o)) (v := .int e17) hC fp_SignalEngine_Parser_57 rfl rfl (show decode prog_9_method_4_code 47 = .ok (.putfield 57, 3) by decide +kernel) h ?_
    intro S18 h
    refine hg_aloadn (pc := 50) (j := 0) (i := 0) (r := (some o)) hC 0 rfl rfl (show decode prog_9_method_4_code 50 = .ok (.aload_n 0, 1) by decide +kernel) ?_
    refine hg_rgr (pc := 51) (r := (some o)) hC fl_SignalEngine_Parser_23 (show decode prog_9_method_4_code 51 = .ok (.getfield 23, 3) by decide +kernel) h ?_
    intro e19 h
    refine hg_rgr (pc := 54) (r := e19) hC fl_SignalEngine_Parser_70 (show decode prog_9_method_4_code 54 = .ok (.getfield 70, 3) by decide +kernel) h ?_
    intro e20 h
    refine hg_tok (pc := 57) (j := 1) hC (by decide) rfl w_512 (show decode prog_9_method_4_code 57 = .ok (.getstatic 92, 3) by decide +kernel) ?_
    refine hg_acmp_ne (pc := 60) (tgt := 82) (x := e20) (y := (some (G.2.1 1))) hC (show decode prog_9_method_4_code 60 = .ok (.if_acmp .ne 22, 3) by decide +kernel) (by decide +kernel) h ?_ ?_
    · intro h
      refine hg_aloadn (pc := 63) (j := 0) (i := 0) (r := (some o)) hC 0 rfl rfl (show decode prog_9_method_4_code 63 = .ok (.aload_n 0, 1) by decide +kernel) ?_
      refine hg_rgr (pc := 64) (r := (some o)) hC fl_SignalEngine_Parser_23 (show decode prog_9_method_4_code 64 = .ok (.getfield 23, 3) by decide +kernel) h ?_
      intro e21 h
      obtain ⟨b22, hb23, h⟩ := dc_bind h
      obtain ⟨hb23, hv24⟩ := hg_chk_of (C := R_LX) rfl hb23
      refine hg_kVTv (pc := 67) (b := b22) (r := e21) (As := []) (rest := []) (so := fun q => q) hC hR cw_SignalEngine_Parser_79 (fun q hq => hm_LX_advance_ok l hlt D G S18 b22 q hq) (Nat.le_of_ble_eq_true rfl) (Nat.le_of_ble_eq_true rfl) hb23 hv24 rfl (Nat.le_of_ble_eq_true rfl) (show decode prog_9_method_4_code 67 = .ok (.invokevirtual 79, 3) by decide +kernel) h (fun z h => hF (.inr z) (dc_some h)) ?_
      intro q25 h
      refine hg_aloadn (pc := 70) (j := 0) (i := 0) (r := (some o)) hC 0 rfl rfl (show decode prog_9_method_4_code 70 = .ok (.aload_n 0, 1) by decide +kernel) ?_
      refine hg_iconst (pc := 71) (v := 0) hC (show decode prog_9_method_4_code 71 = .ok (.iconst 0, 1) by decide +kernel) (by decide +kernel) ?_
      obtain ⟨b26, hb27, h⟩ := dc_bind h
      obtain ⟨hb27, hv28⟩ := hg_chk_of (C := R_PA) rfl hb27
      refine hg_kVTv (pc := 72) (b := b26) (r := (some o)) (As := [.int 0]) (rest := []) (so := fun q => q) hC hR cw_SignalEngine_Parser_82 (fun q hq => hm_PA_takeNames_ok l hlt D G q25 b26 (0 : Int32) q hq) (Nat.le_of_ble_eq_true rfl) (Nat.le_of_ble_eq_true rfl) hb27 hv28 rfl (Nat.le_of_ble_eq_true rfl) (show decode prog_9_method_4_code 72 = .ok (.invokevirtual 82, 3) by decide +kernel) h (fun z h => hF (.inr z) (dc_some h)) ?_
      intro q29 h
      refine hg_aloadn (pc := 75) (j := 0) (i := 0) (r := (some o)) hC 0 rfl rfl (show decode prog_9_method_4_code 75 = .ok (.aload_n 0, 1) by decide +kernel) ?_
      refine hg_tok (pc := 76) (j := 26) hC (by decide) rfl w_506 (show decode prog_9_method_4_code 76 = .ok (.getstatic 85, 3) by decide +kernel) ?_
      obtain ⟨b30, hb31, h⟩ := dc_bind h
      obtain ⟨hb31, hv32⟩ := hg_chk_of (C := R_PA) rfl hb31
      refine hg_kVTv (pc := 79) (b := b30) (r := (some o)) (As := [va_rf (some (G.2.1 26))]) (rest := []) (so := fun q => q) hC hR cw_SignalEngine_Parser_88 (fun q hq => hm_PA_take_ok l hlt D G q29 b30 (some (G.2.1 26)) q hq) (Nat.le_of_ble_eq_true rfl) (Nat.le_of_ble_eq_true rfl) hb31 hv32 rfl (Nat.le_of_ble_eq_true rfl) (show decode prog_9_method_4_code 79 = .ok (.invokevirtual 88, 3) by decide +kernel) h (fun z h => hF (.inr z) (dc_some h)) ?_
      intro q33 h
      exact lab_82 q33 h
    · intro h
      exact lab_82 S18 h
  show hg_G X l (hg_rm 811 19409 Z) D 1 Z 0 [(0, va_rf (some o))] []
  have h : dc_wp (hm_PA_takeProgram G Z o) F := h
  delta hm_PA_takeProgram at h
  refine hg_aloadn (pc := 0) (j := 0) (i := 0) (r := (some o)) hC 0 rfl rfl (show decode prog_9_method_4_code 0 = .ok (.aload_n 0, 1) by decide +kernel) ?_
  refine hg_rgr (pc := 1) (r := (some o)) hC fl_SignalEngine_Parser_23 (show decode prog_9_method_4_code 1 = .ok (.getfield 23, 3) by decide +kernel) h ?_
  intro e34 h
  obtain ⟨b35, hb36, h⟩ := dc_bind h
  obtain ⟨hb36, hv37⟩ := hg_chk_of (C := R_LX) rfl hb36
  refine hg_kVTv (pc := 4) (b := b35) (r := e34) (As := []) (rest := []) (so := fun q => q) hC hR cw_SignalEngine_Parser_67 (fun q hq => hm_LX_open_ok l hlt D G Z b35 q hq) (Nat.le_of_ble_eq_true rfl) (Nat.le_of_ble_eq_true rfl) hb36 hv37 rfl (Nat.le_of_ble_eq_true rfl) (show decode prog_9_method_4_code 4 = .ok (.invokevirtual 67, 3) by decide +kernel) h (fun z h => hF (.inr z) (dc_some h)) ?_
  intro q38 h
  refine hg_aloadn (pc := 7) (j := 0) (i := 0) (r := (some o)) hC 0 rfl rfl (show decode prog_9_method_4_code 7 = .ok (.aload_n 0, 1) by decide +kernel) ?_
  refine hg_rgr (pc := 8) (r := (some o)) hC fl_SignalEngine_Parser_23 (show decode prog_9_method_4_code 8 = .ok (.getfield 23, 3) by decide +kernel) h ?_
  intro e39 h
  refine hg_rgr (pc := 11) (r := e39) hC fl_SignalEngine_Parser_70 (show decode prog_9_method_4_code 11 = .ok (.getfield 70, 3) by decide +kernel) h ?_
  intro e40 h
  refine hg_tok (pc := 14) (j := 0) hC (by decide) rfl w_470 (show decode prog_9_method_4_code 14 = .ok (.getstatic 74, 3) by decide +kernel) ?_
  refine hg_acmp_ne (pc := 17) (tgt := 39) (x := e40) (y := (some (G.2.1 0))) hC (show decode prog_9_method_4_code 17 = .ok (.if_acmp .ne 22, 3) by decide +kernel) (by decide +kernel) h ?_ ?_
  · intro h
    refine hg_aloadn (pc := 20) (j := 0) (i := 0) (r := (some o)) hC 0 rfl rfl (show decode prog_9_method_4_code 20 = .ok (.aload_n 0, 1) by decide +kernel) ?_
    refine hg_rgr (pc := 21) (r := (some o)) hC fl_SignalEngine_Parser_23 (show decode prog_9_method_4_code 21 = .ok (.getfield 23, 3) by decide +kernel) h ?_
    intro e41 h
    obtain ⟨b42, hb43, h⟩ := dc_bind h
    obtain ⟨hb43, hv44⟩ := hg_chk_of (C := R_LX) rfl hb43
    refine hg_kVTv (pc := 24) (b := b42) (r := e41) (As := []) (rest := []) (so := fun q => q) hC hR cw_SignalEngine_Parser_79 (fun q hq => hm_LX_advance_ok l hlt D G q38 b42 q hq) (Nat.le_of_ble_eq_true rfl) (Nat.le_of_ble_eq_true rfl) hb43 hv44 rfl (Nat.le_of_ble_eq_true rfl) (show decode prog_9_method_4_code 24 = .ok (.invokevirtual 79, 3) by decide +kernel) h (fun z h => hF (.inr z) (dc_some h)) ?_
    intro q45 h
    refine hg_aloadn (pc := 27) (j := 0) (i := 0) (r := (some o)) hC 0 rfl rfl (show decode prog_9_method_4_code 27 = .ok (.aload_n 0, 1) by decide +kernel) ?_
    refine hg_iconst (pc := 28) (v := 0) hC (show decode prog_9_method_4_code 28 = .ok (.iconst 0, 1) by decide +kernel) (by decide +kernel) ?_
    obtain ⟨b46, hb47, h⟩ := dc_bind h
    obtain ⟨hb47, hv48⟩ := hg_chk_of (C := R_PA) rfl hb47
    refine hg_kVTv (pc := 29) (b := b46) (r := (some o)) (As := [.int 0]) (rest := []) (so := fun q => q) hC hR cw_SignalEngine_Parser_82 (fun q hq => hm_PA_takeNames_ok l hlt D G q45 b46 (0 : Int32) q hq) (Nat.le_of_ble_eq_true rfl) (Nat.le_of_ble_eq_true rfl) hb47 hv48 rfl (Nat.le_of_ble_eq_true rfl) (show decode prog_9_method_4_code 29 = .ok (.invokevirtual 82, 3) by decide +kernel) h (fun z h => hF (.inr z) (dc_some h)) ?_
    intro q49 h
    refine hg_aloadn (pc := 32) (j := 0) (i := 0) (r := (some o)) hC 0 rfl rfl (show decode prog_9_method_4_code 32 = .ok (.aload_n 0, 1) by decide +kernel) ?_
    refine hg_tok (pc := 33) (j := 26) hC (by decide) rfl w_506 (show decode prog_9_method_4_code 33 = .ok (.getstatic 85, 3) by decide +kernel) ?_
    obtain ⟨b50, hb51, h⟩ := dc_bind h
    obtain ⟨hb51, hv52⟩ := hg_chk_of (C := R_PA) rfl hb51
    refine hg_kVTv (pc := 36) (b := b50) (r := (some o)) (As := [va_rf (some (G.2.1 26))]) (rest := []) (so := fun q => q) hC hR cw_SignalEngine_Parser_88 (fun q hq => hm_PA_take_ok l hlt D G q49 b50 (some (G.2.1 26)) q hq) (Nat.le_of_ble_eq_true rfl) (Nat.le_of_ble_eq_true rfl) hb51 hv52 rfl (Nat.le_of_ble_eq_true rfl) (show decode prog_9_method_4_code 36 = .ok (.invokevirtual 88, 3) by decide +kernel) h (fun z h => hF (.inr z) (dc_some h)) ?_
    intro q53 h
    exact lab_39 q53 h
  · intro h
    exact lab_39 q38 h
noncomputable def hm_DR_settle_L134 (G : hg_E) (S : hg_S) (o : Nat) : Option (hg_S) :=
  some S
noncomputable def hm_DR_settle_b94 (G : hg_E) (S : hg_S) (o : Nat) (x3 : Int32) : Option ((hg_S × Int32) ⊕ ((hg_S))) :=
  (hg_gr S (some o) 6 0).bind fun e1 => (hg_chk S e1 7).bind fun b2 => (hm_AL_size G S b2).bind fun q5 => if x3 < q5 then ((hg_gr S (some o) 6 0).bind fun e6 => (hg_chk S e6 7).bind fun b7 => (hm_AL_get G S b7 x3).bind fun q10 => (hg_chk S q10 8).bind fun e11 => (hm_DR_codesOf G S q10).bind fun q12 => (hg_pf S q10 8 12 (.int q12)).bind fun S13 => some (.inl (S13, (x3 + 1)))) else (some (.inr S))
noncomputable def hm_DR_settle_s94 (G : hg_E) (o : Nat) (q : hg_S × Int32) : Option ((hg_S × Int32) ⊕ ((hg_S))) :=
  hm_DR_settle_b94 G q.1 o q.2
noncomputable def hm_DR_settle_L94 (G : hg_E) (S : hg_S) (o : Nat) (x3 : Int32) : Option (hg_S) :=
  (dc_it (hm_DR_settle_s94 G o) (S, x3)).bind (fun (z : hg_S) => hm_DR_settle_L134 G z o)
noncomputable def hm_DR_settle_L92 (G : hg_E) (S : hg_S) (o : Nat) : Option (hg_S) :=
  hm_DR_settle_L94 G S o 0
noncomputable def hm_DR_settle_b66 (G : hg_E) (S : hg_S) (o : Nat) (x2 : Option Nat) (x3 : Int32) : Option ((hg_S × Int32) ⊕ ((hg_S))) :=
  if x3 < 0 then (some (.inr S)) else ((hg_gr S (some o) 6 0).bind fun e14 => (hg_chk S e14 7).bind fun b15 => (hm_AL_get G S b15 x3).bind fun q18 => (hg_chk S q18 8).bind fun e19 => (hg_chk S (some o) 6).bind fun b20 => (hm_DR_spread G S b20 q18 x2).bind fun q23 => some (.inl (q23, (x3 + (-1)))))
noncomputable def hm_DR_settle_s66 (G : hg_E) (o : Nat) (x2 : Option Nat) (q : hg_S × Int32) : Option ((hg_S × Int32) ⊕ ((hg_S))) :=
  hm_DR_settle_b66 G q.1 o x2 q.2
noncomputable def hm_DR_settle_L66 (G : hg_E) (S : hg_S) (o : Nat) (x2 : Option Nat) (x3 : Int32) : Option (hg_S) :=
  (dc_it (hm_DR_settle_s66 G o x2) (S, x3)).bind (fun (z : hg_S) => hm_DR_settle_L92 G z o)
noncomputable def hm_DR_settle_L52 (G : hg_E) (S : hg_S) (o : Nat) (x1 : Int32) : Option (hg_S) :=
  (hg_newa G S 0 x1).bind fun S24 => dc_let ((some S.2.1) : Option Nat) fun v25 => (hg_gr S24 (some o) 6 0).bind fun e26 => (hg_chk S24 e26 7).bind fun b27 => (hm_AL_size G S24 b27).bind fun q30 => dc_let ((q30 - 1) : Int32) fun v31 => hm_DR_settle_L66 G S24 o v25 v31
noncomputable def hm_DR_settle_b2 (G : hg_E) (S : hg_S) (o : Nat) (x1 : Int32) (x2 : Int32) : Option ((hg_S × Int32) ⊕ ((hg_S))) :=
  (hg_gr S (some o) 6 0).bind fun e32 => (hg_chk S e32 7).bind fun b33 => (hm_AL_size G S b33).bind fun q36 => if x2 < q36 then ((hg_gr S (some o) 6 0).bind fun e37 => (hg_chk S e37 7).bind fun b38 => (hm_AL_get G S b38 x2).bind fun q41 => (hg_chk S q41 8).bind fun e42 => (hg_gr S q41 8 2).bind fun e43 => (hm_DR_extentOf G S e43).bind fun q44 => (hg_gr S q41 8 3).bind fun e45 => (hm_DR_extentOf G S e45).bind fun q46 => (hg_pf S q41 8 7 (.int ((1 + q44) + q46))).bind fun S47 => some (.inl (S47, (x2 + 1)))) else (some (.inr S))
noncomputable def hm_DR_settle_s2 (G : hg_E) (o : Nat) (x1 : Int32) (q : hg_S × Int32) : Option ((hg_S × Int32) ⊕ ((hg_S))) :=
  hm_DR_settle_b2 G q.1 o x1 q.2
noncomputable def hm_DR_settle_L2 (G : hg_E) (S : hg_S) (o : Nat) (x1 : Int32) (x2 : Int32) : Option (hg_S) :=
  (dc_it (hm_DR_settle_s2 G o x1) (S, x2)).bind (fun (z : hg_S) => hm_DR_settle_L52 G z o x1)
noncomputable def hm_DR_settle (G : hg_E) (S : hg_S) (o : Nat) (p1 : Int32) : Option (hg_S) :=
  hm_DR_settle_L2 G S o p1 0
set_option maxHeartbeats 4000000 in
set_option maxRecDepth 100000 in
/-- SignalEngine$Draft.settle(I)V -/
theorem hm_DR_settle_ok (l : Launch) (D : va_G) (G : hg_E) (Z : hg_S) (o : Nat) (p1 : Int32) (q : hg_S) (hq : hm_DR_settle G Z o p1 = some q) : hg_C l ⟨"SignalEngine$Draft", "settle", "(I)V"⟩ prog_4_method_13_code 5 none 3 64 D G [.ref o, .int p1] Z (.inl (none, q) : hg_O) := by
  refine hg_start (cv := fun q => (.inl (none, q) : hg_O)) hq ?_
  intro F hF h
  refine hg_enter (lv := [(0, va_rf (some o)), (1, .int p1)]) (by decide +kernel) (by simp [lg_sl, va_rf_cat, hg_cti, hg_ctr]) (by simp [lv_args, va_rf_cat, va_rf_some, hg_cti, hg_ctr]) ?_
  intro X hC hR
  have lab_134 : ∀ (S : hg_S), dc_wp (hm_DR_settle_L134 G S o) F → hg_G X l (hg_rm 3 64 Z) D 5 S 134 [(0, va_rf (some o))] [] := by
    intro S  h
    delta hm_DR_settle_L134 at h
    exact hg_vret (pc := 134) hC hR (hF _ (dc_some h)) (show decode prog_4_method_13_code 134 = .ok (.return_, 1) by decide +kernel)
  have loop_94 : ∀ (q : hg_S × Int32), dc_wp (dc_it (hm_DR_settle_s94 G o) q) (fun z => dc_wp ((fun (z : hg_S) => hm_DR_settle_L134 G z o) z) F) → hg_G X l (hg_rm 3 64 Z) D 5 q.1 94 [(0, va_rf (some o)), (3, .int q.2)] [] := by
    refine dc_loopF ?_
    intro F_94 hl_94 hr_94
    rintro ⟨S, x3⟩ h
    have h : dc_wp (hm_DR_settle_b94 G S o x3) F_94 := h
    delta hm_DR_settle_b94 at h
    refine hg_iloadn (pc := 94) (j := 3) (i := 3) hC 1 rfl rfl (show decode prog_4_method_13_code 94 = .ok (.iload_n 3, 1) by decide +kernel) ?_
    refine hg_aloadn (pc := 95) (j := 0) (i := 0) (r := (some o)) hC 0 rfl rfl (show decode prog_4_method_13_code 95 = .ok (.aload_n 0, 1) by decide +kernel) ?_
    refine hg_rgr (pc := 96) (r := (some o)) hC fl_SignalEngine_Draft_12 (show decode prog_4_method_13_code 96 = .ok (.getfield 12, 3) by decide +kernel) h ?_
    intro e1 h
    obtain ⟨b2, hb3, h⟩ := dc_bind h
    obtain ⟨hb3, hv4⟩ := hg_chk_of (C := R_AL) rfl hb3
    refine hg_kVi (pc := 99) (b := b2) (r := e1) (As := []) (rest := [.int x3]) (vo := fun q => q) (so := fun q => S) hC cw_SignalEngine_Draft_70 (fun q hq => hm_AL_size_ok l D G S b2 q hq) (Nat.le_of_ble_eq_true rfl) (Nat.le_of_ble_eq_true rfl) hb3 hv4 rfl (Nat.le_of_ble_eq_true rfl) (show decode prog_4_method_13_code 99 = .ok (.invokevirtual 70, 3) by decide +kernel) h ?_
    intro q5 h
    refine hg_icmp_ge (pc := 102) (tgt := 134) hC (show decode prog_4_method_13_code 102 = .ok (.if_icmp .ge 32, 3) by decide +kernel) (by decide +kernel) h ?_ ?_
    · intro h
      refine hg_aloadn (pc := 105) (j := 0) (i := 0) (r := (some o)) hC 0 rfl rfl (show decode prog_4_method_13_code 105 = .ok (.aload_n 0, 1) by decide +kernel) ?_
      refine hg_rgr (pc := 106) (r := (some o)) hC fl_SignalEngine_Draft_12 (show decode prog_4_method_13_code 106 = .ok (.getfield 12, 3) by decide +kernel) h ?_
      intro e6 h
      refine hg_iloadn (pc := 109) (j := 3) (i := 3) hC 1 rfl rfl (show decode prog_4_method_13_code 109 = .ok (.iload_n 3, 1) by decide +kernel) ?_
      obtain ⟨b7, hb8, h⟩ := dc_bind h
      obtain ⟨hb8, hv9⟩ := hg_chk_of (C := R_AL) rfl hb8
      refine hg_kVr (pc := 110) (b := b7) (r := e6) (As := [.int x3]) (rest := []) (vo := fun q => q) (so := fun q => S) hC cw_SignalEngine_Draft_74 (fun q hq => hm_AL_get_ok l D G S b7 x3 q hq) (Nat.le_of_ble_eq_true rfl) (Nat.le_of_ble_eq_true rfl) hb8 hv9 rfl (Nat.le_of_ble_eq_true rfl) (show decode prog_4_method_13_code 110 = .ok (.invokevirtual 74, 3) by decide +kernel) h ?_
      intro q10 h
      refine hg_rcast (pc := 113) (r := q10) hC (ci := 8) (C := R_ND) rfl w_546 wn_2351 (show decode prog_4_method_13_code 113 = .ok (.checkcast 27, 3) by decide +kernel) h ?_
      intro e11 h
      refine hg_astore (pc := 116) (i := 4) (r := q10) (lv' := [(4, va_rf q10), (0, va_rf (some o)), (3, .int x3)]) hC (Nat.le_of_ble_eq_true rfl) rfl (show decode prog_4_method_13_code 116 = .ok (.astore 4, 2) by decide +kernel) ?_
      refine hg_aload (pc := 118) (i := 4) (r := q10) hC 0 rfl (show decode prog_4_method_13_code 118 = .ok (.aload 4, 2) by decide +kernel) ?_
      refine hg_aload (pc := 120) (i := 4) (r := q10) hC 0 rfl (show decode prog_4_method_13_code 120 = .ok (.aload 4, 2) by decide +kernel) ?_
      refine hg_kSi (pc := 122) (As := [va_rf q10]) (rest := [va_rf q10]) (vo := fun q => q) (so := fun q => S) hC cw_SignalEngine_Draft_96 (fun q hq => hm_DR_codesOf_ok l D G S q10 q hq) (Nat.le_of_ble_eq_true rfl) (Nat.le_of_ble_eq_true rfl) rfl (by simp only [List.map, va_rf_cat]; exact Nat.le_of_ble_eq_true rfl) (show decode prog_4_method_13_code 122 = .ok (.invokestatic 96, 3) by decide +kernel) h ?_
      intro q12 h
      refine hg_rput (pc := 125) (r := q10) (v := .int q12) hC fp_SignalEngine_Draft_99 rfl rfl (show decode prog_4_method_13_code 125 = .ok (.putfield 99, 3) by decide +kernel) h ?_
      intro S13 h
      refine hg_iinc (pc := 128) (i := 3) (v := (x3 + 1)) (lv' := [(3, .int (x3 + 1)), (4, va_rf q10), (0, va_rf (some o))]) hC 2 rfl rfl (Nat.le_of_ble_eq_true rfl) rfl (show decode prog_4_method_13_code 128 = .ok (.iinc 3 1, 3) by decide +kernel) ?_
      refine hg_goto (pc := 131) (tgt := 94) hC (show decode prog_4_method_13_code 131 = .ok (.goto (-37), 3) by decide +kernel) (by decide +kernel) ?_
      exact hg_sub [2, 0] rfl (hl_94 (S13, (x3 + 1)) (dc_some h))
    · intro h
      have h : dc_wp (hm_DR_settle_L134 G S o) F := hr_94 S (dc_some h)
      exact hg_sub [0] rfl (lab_134 S h)
  have lab_94 : ∀ (S : hg_S) (x3 : Int32), dc_wp (hm_DR_settle_L94 G S o x3) F → hg_G X l (hg_rm 3 64 Z) D 5 S 94 [(0, va_rf (some o)), (3, .int x3)] [] := fun S x3 h => loop_94  (S, x3) (dc_bind h)
  have lab_92 : ∀ (S : hg_S), dc_wp (hm_DR_settle_L92 G S o) F → hg_G X l (hg_rm 3 64 Z) D 5 S 92 [(0, va_rf (some o))] [] := by
    intro S  h
    delta hm_DR_settle_L92 at h
    refine hg_iconst (pc := 92) (v := 0) hC (show decode prog_4_method_13_code 92 = .ok (.iconst 0, 1) by decide +kernel) (by decide +kernel) ?_
    refine hg_istoren (pc := 93) (j := 3) (i := 3) (lv' := [(3, .int 0), (0, va_rf (some o))]) hC rfl (Nat.le_of_ble_eq_true rfl) rfl (show decode prog_4_method_13_code 93 = .ok (.istore_n 3, 1) by decide +kernel) ?_
    exact hg_sub [1, 0] rfl (lab_94 S 0 h)
  have loop_66 : ∀ (x2 : Option Nat) (q : hg_S × Int32), dc_wp (dc_it (hm_DR_settle_s66 G o x2) q) (fun z => dc_wp ((fun (z : hg_S) => hm_DR_settle_L92 G z o) z) F) → hg_G X l (hg_rm 3 64 Z) D 5 q.1 66 [(0, va_rf (some o)), (2, va_rf x2), (3, .int q.2)] [] := by
    intro x2
    refine dc_loopF ?_
    intro F_66 hl_66 hr_66
    rintro ⟨S, x3⟩ h
    have h : dc_wp (hm_DR_settle_b66 G S o x2 x3) F_66 := h
    delta hm_DR_settle_b66 at h
    refine hg_iloadn (pc := 66) (j := 3) (i := 3) hC 2 rfl rfl (show decode prog_4_method_13_code 66 = .ok (.iload_n 3, 1) by decide +kernel) ?_
    refine hg_if_lt (pc := 67) (tgt := 92) hC (show decode prog_4_method_13_code 67 = .ok (.ifCond .lt 25, 3) by decide +kernel) (by decide +kernel) h ?_ ?_
    · intro h
      have h : dc_wp (hm_DR_settle_L92 G S o) F := hr_66 S (dc_some h)
      exact hg_sub [0] rfl (lab_92 S h)
    · intro h
      refine hg_aloadn (pc := 70) (j := 0) (i := 0) (r := (some o)) hC 0 rfl rfl (show decode prog_4_method_13_code 70 = .ok (.aload_n 0, 1) by decide +kernel) ?_
      refine hg_aloadn (pc := 71) (j := 0) (i := 0) (r := (some o)) hC 0 rfl rfl (show decode prog_4_method_13_code 71 = .ok (.aload_n 0, 1) by decide +kernel) ?_
      refine hg_rgr (pc := 72) (r := (some o)) hC fl_SignalEngine_Draft_12 (show decode prog_4_method_13_code 72 = .ok (.getfield 12, 3) by decide +kernel) h ?_
      intro e14 h
      refine hg_iloadn (pc := 75) (j := 3) (i := 3) hC 2 rfl rfl (show decode prog_4_method_13_code 75 = .ok (.iload_n 3, 1) by decide +kernel) ?_
      obtain ⟨b15, hb16, h⟩ := dc_bind h
      obtain ⟨hb16, hv17⟩ := hg_chk_of (C := R_AL) rfl hb16
      refine hg_kVr (pc := 76) (b := b15) (r := e14) (As := [.int x3]) (rest := [va_rf (some o)]) (vo := fun q => q) (so := fun q => S) hC cw_SignalEngine_Draft_74 (fun q hq => hm_AL_get_ok l D G S b15 x3 q hq) (Nat.le_of_ble_eq_true rfl) (Nat.le_of_ble_eq_true rfl) hb16 hv17 rfl (Nat.le_of_ble_eq_true rfl) (show decode prog_4_method_13_code 76 = .ok (.invokevirtual 74, 3) by decide +kernel) h ?_
      intro q18 h
      refine hg_rcast (pc := 79) (r := q18) hC (ci := 8) (C := R_ND) rfl w_546 wn_2351 (show decode prog_4_method_13_code 79 = .ok (.checkcast 27, 3) by decide +kernel) h ?_
      intro e19 h
      refine hg_aloadn (pc := 82) (j := 2) (i := 2) (r := x2) hC 1 rfl rfl (show decode prog_4_method_13_code 82 = .ok (.aload_n 2, 1) by decide +kernel) ?_
      obtain ⟨b20, hb21, h⟩ := dc_bind h
      obtain ⟨hb21, hv22⟩ := hg_chk_of (C := R_DR) rfl hb21
      refine hg_kVv (pc := 83) (b := b20) (r := (some o)) (As := [va_rf q18, va_rf x2]) (rest := []) (so := fun q => q) hC cw_SignalEngine_Draft_92 (fun q hq => hm_DR_spread_ok l D G S b20 q18 x2 q hq) (Nat.le_of_ble_eq_true rfl) (Nat.le_of_ble_eq_true rfl) hb21 hv22 rfl (Nat.le_of_ble_eq_true rfl) (show decode prog_4_method_13_code 83 = .ok (.invokevirtual 92, 3) by decide +kernel) h ?_
      intro q23 h
      refine hg_iinc (pc := 86) (i := 3) (v := (x3 + (-1))) (lv' := [(3, .int (x3 + (-1))), (0, va_rf (some o)), (2, va_rf x2)]) hC 2 rfl (congrArg (fun z => x3 + z) (show Int32.ofInt (-1) = (-1 : Int32) by decide +kernel)) (Nat.le_of_ble_eq_true rfl) (by simp [va_rf_cat, hg_cti]) (show decode prog_4_method_13_code 86 = .ok (.iinc 3 (-1), 3) by decide +kernel) ?_
      refine hg_goto (pc := 89) (tgt := 66) hC (show decode prog_4_method_13_code 89 = .ok (.goto (-23), 3) by decide +kernel) (by decide +kernel) ?_
      exact hg_sub [1, 2, 0] rfl (hl_66 ((q23, (x3 + (-1)))) (dc_some h))
  have lab_66 : ∀ (S : hg_S) (x2 : Option Nat) (x3 : Int32), dc_wp (hm_DR_settle_L66 G S o x2 x3) F → hg_G X l (hg_rm 3 64 Z) D 5 S 66 [(0, va_rf (some o)), (2, va_rf x2), (3, .int x3)] [] := fun S x2 x3 h => loop_66 x2 (S, x3) (dc_bind h)
  have lab_52 : ∀ (S : hg_S) (x1 : Int32), dc_wp (hm_DR_settle_L52 G S o x1) F → hg_G X l (hg_rm 3 64 Z) D 5 S 52 [(0, va_rf (some o)), (1, .int x1)] [] := by
    intro S x1 h
    delta hm_DR_settle_L52 at h
    refine hg_iloadn (pc := 52) (j := 1) (i := 1) hC 1 rfl rfl (show decode prog_4_method_13_code 52 = .ok (.iload_n 1, 1) by decide +kernel) ?_
    refine hg_rnewa (pc := 53) (t := 0) (atype := .int) hC rfl rfl (fun _ h9 => h9) rfl (by decide) w_197 (show decode prog_4_method_13_code 53 = .ok (.newarray .int, 2) by decide +kernel) h ?_
    intro S24 h
    refine hg_letR h ?_
    intro v25 h
    refine hg_astoren (pc := 55) (j := 2) (i := 2) (r := v25) (lv' := [(2, va_rf v25), (0, va_rf (some o)), (1, .int x1)]) hC rfl (Nat.le_of_ble_eq_true rfl) rfl (show decode prog_4_method_13_code 55 = .ok (.astore_n 2, 1) by decide +kernel) ?_
    refine hg_aloadn (pc := 56) (j := 0) (i := 0) (r := (some o)) hC 1 rfl rfl (show decode prog_4_method_13_code 56 = .ok (.aload_n 0, 1) by decide +kernel) ?_
    refine hg_rgr (pc := 57) (r := (some o)) hC fl_SignalEngine_Draft_12 (show decode prog_4_method_13_code 57 = .ok (.getfield 12, 3) by decide +kernel) h ?_
    intro e26 h
    obtain ⟨b27, hb28, h⟩ := dc_bind h
    obtain ⟨hb28, hv29⟩ := hg_chk_of (C := R_AL) rfl hb28
    refine hg_kVi (pc := 60) (b := b27) (r := e26) (As := []) (rest := []) (vo := fun q => q) (so := fun q => S24) hC cw_SignalEngine_Draft_70 (fun q hq => hm_AL_size_ok l D G S24 b27 q hq) (Nat.le_of_ble_eq_true rfl) (Nat.le_of_ble_eq_true rfl) hb28 hv29 rfl (Nat.le_of_ble_eq_true rfl) (show decode prog_4_method_13_code 60 = .ok (.invokevirtual 70, 3) by decide +kernel) h ?_
    intro q30 h
    refine hg_iconst (pc := 63) (v := 1) hC (show decode prog_4_method_13_code 63 = .ok (.iconst 1, 1) by decide +kernel) (by decide +kernel) ?_
    refine hg_isub (pc := 64) hC (show decode prog_4_method_13_code 64 = .ok (.isub, 1) by decide +kernel) ?_
    refine hg_letI h ?_
    intro v31 h
    refine hg_istoren (pc := 65) (j := 3) (i := 3) (lv' := [(3, .int v31), (2, va_rf v25), (0, va_rf (some o)), (1, .int x1)]) hC rfl (Nat.le_of_ble_eq_true rfl) (by simp [va_rf_cat, hg_cti]) (show decode prog_4_method_13_code 65 = .ok (.istore_n 3, 1) by decide +kernel) ?_
    exact hg_sub [2, 1, 0] rfl (lab_66 S24 v25 v31 h)
  have loop_2 : ∀ (x1 : Int32) (q : hg_S × Int32), dc_wp (dc_it (hm_DR_settle_s2 G o x1) q) (fun z => dc_wp ((fun (z : hg_S) => hm_DR_settle_L52 G z o x1) z) F) → hg_G X l (hg_rm 3 64 Z) D 5 q.1 2 [(0, va_rf (some o)), (1, .int x1), (2, .int q.2)] [] := by
    intro x1
    refine dc_loopF ?_
    intro F_2 hl_2 hr_2
    rintro ⟨S, x2⟩ h
    have h : dc_wp (hm_DR_settle_b2 G S o x1 x2) F_2 := h
    delta hm_DR_settle_b2 at h
    refine hg_iloadn (pc := 2) (j := 2) (i := 2) hC 2 rfl rfl (show decode prog_4_method_13_code 2 = .ok (.iload_n 2, 1) by decide +kernel) ?_
    refine hg_aloadn (pc := 3) (j := 0) (i := 0) (r := (some o)) hC 0 rfl rfl (show decode prog_4_method_13_code 3 = .ok (.aload_n 0, 1) by decide +kernel) ?_
    refine hg_rgr (pc := 4) (r := (some o)) hC fl_SignalEngine_Draft_12 (show decode prog_4_method_13_code 4 = .ok (.getfield 12, 3) by decide +kernel) h ?_
    intro e32 h
    obtain ⟨b33, hb34, h⟩ := dc_bind h
    obtain ⟨hb34, hv35⟩ := hg_chk_of (C := R_AL) rfl hb34
    refine hg_kVi (pc := 7) (b := b33) (r := e32) (As := []) (rest := [.int x2]) (vo := fun q => q) (so := fun q => S) hC cw_SignalEngine_Draft_70 (fun q hq => hm_AL_size_ok l D G S b33 q hq) (Nat.le_of_ble_eq_true rfl) (Nat.le_of_ble_eq_true rfl) hb34 hv35 rfl (Nat.le_of_ble_eq_true rfl) (show decode prog_4_method_13_code 7 = .ok (.invokevirtual 70, 3) by decide +kernel) h ?_
    intro q36 h
    refine hg_icmp_ge (pc := 10) (tgt := 52) hC (show decode prog_4_method_13_code 10 = .ok (.if_icmp .ge 42, 3) by decide +kernel) (by decide +kernel) h ?_ ?_
    · intro h
      refine hg_aloadn (pc := 13) (j := 0) (i := 0) (r := (some o)) hC 0 rfl rfl (show decode prog_4_method_13_code 13 = .ok (.aload_n 0, 1) by decide +kernel) ?_
      refine hg_rgr (pc := 14) (r := (some o)) hC fl_SignalEngine_Draft_12 (show decode prog_4_method_13_code 14 = .ok (.getfield 12, 3) by decide +kernel) h ?_
      intro e37 h
      refine hg_iloadn (pc := 17) (j := 2) (i := 2) hC 2 rfl rfl (show decode prog_4_method_13_code 17 = .ok (.iload_n 2, 1) by decide +kernel) ?_
      obtain ⟨b38, hb39, h⟩ := dc_bind h
      obtain ⟨hb39, hv40⟩ := hg_chk_of (C := R_AL) rfl hb39
      refine hg_kVr (pc := 18) (b := b38) (r := e37) (As := [.int x2]) (rest := []) (vo := fun q => q) (so := fun q => S) hC cw_SignalEngine_Draft_74 (fun q hq => hm_AL_get_ok l D G S b38 x2 q hq) (Nat.le_of_ble_eq_true rfl) (Nat.le_of_ble_eq_true rfl) hb39 hv40 rfl (Nat.le_of_ble_eq_true rfl) (show decode prog_4_method_13_code 18 = .ok (.invokevirtual 74, 3) by decide +kernel) h ?_
      intro q41 h
      refine hg_rcast (pc := 21) (r := q41) hC (ci := 8) (C := R_ND) rfl w_546 wn_2351 (show decode prog_4_method_13_code 21 = .ok (.checkcast 27, 3) by decide +kernel) h ?_
      intro e42 h
      refine hg_astoren (pc := 24) (j := 3) (i := 3) (r := q41) (lv' := [(3, va_rf q41), (0, va_rf (some o)), (1, .int x1), (2, .int x2)]) hC rfl (Nat.le_of_ble_eq_true rfl) rfl (show decode prog_4_method_13_code 24 = .ok (.astore_n 3, 1) by decide +kernel) ?_
      refine hg_aloadn (pc := 25) (j := 3) (i := 3) (r := q41) hC 0 rfl rfl (show decode prog_4_method_13_code 25 = .ok (.aload_n 3, 1) by decide +kernel) ?_
      refine hg_iconst (pc := 26) (v := 1) hC (show decode prog_4_method_13_code 26 = .ok (.iconst 1, 1) by decide +kernel) (by decide +kernel) ?_
      refine hg_aloadn (pc := 27) (j := 3) (i := 3) (r := q41) hC 0 rfl rfl (show decode prog_4_method_13_code 27 = .ok (.aload_n 3, 1) by decide +kernel) ?_
      refine hg_rgr (pc := 28) (r := q41) hC fl_SignalEngine_Draft_78 (show decode prog_4_method_13_code 28 = .ok (.getfield 78, 3) by decide +kernel) h ?_
      intro e43 h
      refine hg_kSi (pc := 31) (As := [va_rf e43]) (rest := [.int 1, va_rf q41]) (vo := fun q => q) (so := fun q => S) hC cw_SignalEngine_Draft_82 (fun q hq => hm_DR_extentOf_ok l D G S e43 q hq) (Nat.le_of_ble_eq_true rfl) (Nat.le_of_ble_eq_true rfl) rfl (by simp only [List.map, va_rf_cat]; exact Nat.le_of_ble_eq_true rfl) (show decode prog_4_method_13_code 31 = .ok (.invokestatic 82, 3) by decide +kernel) h ?_
      intro q44 h
      refine hg_iadd (pc := 34) hC (show decode prog_4_method_13_code 34 = .ok (.iadd, 1) by decide +kernel) ?_
      refine hg_aloadn (pc := 35) (j := 3) (i := 3) (r := q41) hC 0 rfl rfl (show decode prog_4_method_13_code 35 = .ok (.aload_n 3, 1) by decide +kernel) ?_
      refine hg_rgr (pc := 36) (r := q41) hC fl_SignalEngine_Draft_86 (show decode prog_4_method_13_code 36 = .ok (.getfield 86, 3) by decide +kernel) h ?_
      intro e45 h
      refine hg_kSi (pc := 39) (As := [va_rf e45]) (rest := [.int (1 + q44), va_rf q41]) (vo := fun q => q) (so := fun q => S) hC cw_SignalEngine_Draft_82 (fun q hq => hm_DR_extentOf_ok l D G S e45 q hq) (Nat.le_of_ble_eq_true rfl) (Nat.le_of_ble_eq_true rfl) rfl (by simp only [List.map, va_rf_cat]; exact Nat.le_of_ble_eq_true rfl) (show decode prog_4_method_13_code 39 = .ok (.invokestatic 82, 3) by decide +kernel) h ?_
      intro q46 h
      refine hg_iadd (pc := 42) hC (show decode prog_4_method_13_code 42 = .ok (.iadd, 1) by decide +kernel) ?_
      refine hg_rput (pc := 43) (r := q41) (v := .int ((1 + q44) + q46)) hC fp_SignalEngine_Draft_89 rfl rfl (show decode prog_4_method_13_code 43 = .ok (.putfield 89, 3) by decide +kernel) h ?_
      intro S47 h
      refine hg_iinc (pc := 46) (i := 2) (v := (x2 + 1)) (lv' := [(2, .int (x2 + 1)), (3, va_rf q41), (0, va_rf (some o)), (1, .int x1)]) hC 3 rfl rfl (Nat.le_of_ble_eq_true rfl) rfl (show decode prog_4_method_13_code 46 = .ok (.iinc 2 1, 3) by decide +kernel) ?_
      refine hg_goto (pc := 49) (tgt := 2) hC (show decode prog_4_method_13_code 49 = .ok (.goto (-47), 3) by decide +kernel) (by decide +kernel) ?_
      exact hg_sub [2, 3, 0] rfl (hl_2 (S47, (x2 + 1)) (dc_some h))
    · intro h
      have h : dc_wp (hm_DR_settle_L52 G S o x1) F := hr_2 S (dc_some h)
      exact hg_sub [0, 1] rfl (lab_52 S x1 h)
  have lab_2 : ∀ (S : hg_S) (x1 : Int32) (x2 : Int32), dc_wp (hm_DR_settle_L2 G S o x1 x2) F → hg_G X l (hg_rm 3 64 Z) D 5 S 2 [(0, va_rf (some o)), (1, .int x1), (2, .int x2)] [] := fun S x1 x2 h => loop_2 x1 (S, x2) (dc_bind h)
  show hg_G X l (hg_rm 3 64 Z) D 5 Z 0 [(0, va_rf (some o)), (1, .int p1)] []
  have h : dc_wp (hm_DR_settle G Z o p1) F := h
  delta hm_DR_settle at h
  refine hg_iconst (pc := 0) (v := 0) hC (show decode prog_4_method_13_code 0 = .ok (.iconst 0, 1) by decide +kernel) (by decide +kernel) ?_
  refine hg_istoren (pc := 1) (j := 2) (i := 2) (lv' := [(2, .int 0), (0, va_rf (some o)), (1, .int p1)]) hC rfl (Nat.le_of_ble_eq_true rfl) rfl (show decode prog_4_method_13_code 1 = .ok (.istore_n 2, 1) by decide +kernel) ?_
  exact hg_sub [1, 2, 0] rfl (lab_2 Z p1 0 h)
noncomputable def hm_DR_lineOfEmptyLoop_L92 (G : hg_E) (S : hg_S) (o : Nat) (y0 : Int32) : Option (Int32) :=
  some y0
noncomputable def hm_DR_lineOfEmptyLoop_L80 (G : hg_E) (S : hg_S) (o : Nat) (x1 : Option Nat) : Option (Int32) :=
  if x1 = none then (hm_DR_lineOfEmptyLoop_L92 G S o (-1)) else ((hg_gi S x1 8 1).bind fun e1 => hm_DR_lineOfEmptyLoop_L92 G S o e1)
noncomputable def hm_DR_lineOfEmptyLoop_L74 (G : hg_E) (S : hg_S) (o : Nat) (x1 : Option Nat) (x2 : Int32) : Option (((Option Nat) × Int32) ⊕ (((Option Nat)))) :=
  some (.inl (x1, (x2 + 1)))
noncomputable def hm_DR_lineOfEmptyLoop_L72 (G : hg_E) (S : hg_S) (o : Nat) (x2 : Int32) (x3 : Option Nat) : Option (((Option Nat) × Int32) ⊕ (((Option Nat)))) :=
  hm_DR_lineOfEmptyLoop_L74 G S o x3 x2
noncomputable def hm_DR_lineOfEmptyLoop_L50 (G : hg_E) (S : hg_S) (o : Nat) (x1 : Option Nat) (x2 : Int32) (x3 : Option Nat) (y0 : Int32) : Option (((Option Nat) × Int32) ⊕ (((Option Nat)))) :=
  if y0 = 0 then (hm_DR_lineOfEmptyLoop_L74 G S o x1 x2) else (if x1 = none then (hm_DR_lineOfEmptyLoop_L72 G S o x2 x3) else ((hg_gi S x3 8 8).bind fun e2 => (hg_gi S x1 8 8).bind fun e3 => if e2 < e3 then (hm_DR_lineOfEmptyLoop_L72 G S o x2 x3) else (hm_DR_lineOfEmptyLoop_L74 G S o x1 x2)))
noncomputable def hm_DR_lineOfEmptyLoop_L49 (G : hg_E) (S : hg_S) (o : Nat) (x1 : Option Nat) (x2 : Int32) (x3 : Option Nat) : Option (((Option Nat) × Int32) ⊕ (((Option Nat)))) :=
  hm_DR_lineOfEmptyLoop_L50 G S o x1 x2 x3 0
noncomputable def hm_DR_lineOfEmptyLoop_b4 (G : hg_E) (S : hg_S) (o : Nat) (x1 : Option Nat) (x2 : Int32) : Option (((Option Nat) × Int32) ⊕ (((Option Nat)))) :=
  (hg_gr S (some o) 6 0).bind fun e4 => (hg_chk S e4 7).bind fun b5 => (hm_AL_size G S b5).bind fun q8 => if x2 < q8 then ((hg_gr S (some o) 6 0).bind fun e9 => (hg_chk S e9 7).bind fun b10 => (hm_AL_get G S b10 x2).bind fun q13 => (hg_chk S q13 8).bind fun e14 => (hg_gi S q13 8 0).bind fun e15 => if e15 = 6 then ((hg_gi S q13 8 12).bind fun e16 => if (e16 &&& 1) = 0 then (hm_DR_lineOfEmptyLoop_L49 G S o x1 x2 q13) else (hm_DR_lineOfEmptyLoop_L50 G S o x1 x2 q13 1)) else (hm_DR_lineOfEmptyLoop_L49 G S o x1 x2 q13)) else (some (.inr x1))
noncomputable def hm_DR_lineOfEmptyLoop_s4 (G : hg_E) (S : hg_S) (o : Nat) (q : (Option Nat) × Int32) : Option (((Option Nat) × Int32) ⊕ (((Option Nat)))) :=
  hm_DR_lineOfEmptyLoop_b4 G S o q.1 q.2
noncomputable def hm_DR_lineOfEmptyLoop_L4 (G : hg_E) (S : hg_S) (o : Nat) (x1 : Option Nat) (x2 : Int32) : Option (Int32) :=
  (dc_it (hm_DR_lineOfEmptyLoop_s4 G S o) (x1, x2)).bind (fun (z : (Option Nat)) => hm_DR_lineOfEmptyLoop_L80 G S o z)
noncomputable def hm_DR_lineOfEmptyLoop (G : hg_E) (S : hg_S) (o : Nat) : Option (Int32) :=
  dc_let (none : Option Nat) fun v17 => hm_DR_lineOfEmptyLoop_L4 G S o v17 0
set_option maxHeartbeats 4000000 in
set_option maxRecDepth 100000 in
/-- SignalEngine$Draft.lineOfEmptyLoop()I -/
theorem hm_DR_lineOfEmptyLoop_ok (l : Launch) (D : va_G) (G : hg_E) (Z : hg_S) (o : Nat) (q : Int32) (hq : hm_DR_lineOfEmptyLoop G Z o = some q) : hg_C l ⟨"SignalEngine$Draft", "lineOfEmptyLoop", "()I"⟩ prog_4_method_18_code 5 (some (.int)) 3 64 D G [.ref o] Z (.inl (some (.int q), Z) : hg_O) := by
  refine hg_start (cv := fun q => (.inl (some (.int q), Z) : hg_O)) hq ?_
  intro F hF h
  refine hg_enter (lv := [(0, va_rf (some o))]) (by decide +kernel) (by simp [lg_sl, va_rf_cat, hg_cti, hg_ctr]) (by simp [lv_args, va_rf_cat, va_rf_some, hg_cti, hg_ctr]) ?_
  intro X hC hR
  have lab_92 : ∀ (y0 : Int32), dc_wp (hm_DR_lineOfEmptyLoop_L92 G Z o y0) F → hg_G X l (hg_rm 3 64 Z) D 5 Z 92 [(0, va_rf (some o))] [.int y0] := by
    intro y0 h
    delta hm_DR_lineOfEmptyLoop_L92 at h
    exact hg_iret (pc := 92) hC hR (hF _ (dc_some h)) (show decode prog_4_method_18_code 92 = .ok (.ireturn, 1) by decide +kernel)
  have lab_80 : ∀ (x1 : Option Nat), dc_wp (hm_DR_lineOfEmptyLoop_L80 G Z o x1) F → hg_G X l (hg_rm 3 64 Z) D 5 Z 80 [(0, va_rf (some o)), (1, va_rf x1)] [] := by
    intro x1 h
    delta hm_DR_lineOfEmptyLoop_L80 at h
    refine hg_aloadn (pc := 80) (j := 1) (i := 1) (r := x1) hC 1 rfl rfl (show decode prog_4_method_18_code 80 = .ok (.aload_n 1, 1) by decide +kernel) ?_
    refine hg_ifnonnull (pc := 81) (tgt := 88) (r := x1) hC (show decode prog_4_method_18_code 81 = .ok (.ifnonnull 7, 3) by decide +kernel) (by decide +kernel) h ?_ ?_
    · intro h
      refine hg_iconst (pc := 84) (v := (-1)) hC (show decode prog_4_method_18_code 84 = .ok (.iconst (-1), 1) by decide +kernel) (by decide +kernel) ?_
      refine hg_goto (pc := 85) (tgt := 92) hC (show decode prog_4_method_18_code 85 = .ok (.goto 7, 3) by decide +kernel) (by decide +kernel) ?_
      exact hg_sub [0] rfl (lab_92 (-1) h)
    · intro h
      refine hg_aloadn (pc := 88) (j := 1) (i := 1) (r := x1) hC 1 rfl rfl (show decode prog_4_method_18_code 88 = .ok (.aload_n 1, 1) by decide +kernel) ?_
      refine hg_rgi (pc := 89) (r := x1) hC fl_SignalEngine_Draft_149 (show decode prog_4_method_18_code 89 = .ok (.getfield 149, 3) by decide +kernel) h ?_
      intro e1 h
      exact hg_sub [0] rfl (lab_92 e1 h)
  have loop_4 : ∀ (q : (Option Nat) × Int32), dc_wp (dc_it (hm_DR_lineOfEmptyLoop_s4 G Z o) q) (fun z => dc_wp ((fun (z : (Option Nat)) => hm_DR_lineOfEmptyLoop_L80 G Z o z) z) F) → hg_G X l (hg_rm 3 64 Z) D 5 Z 4 [(0, va_rf (some o)), (1, va_rf q.1), (2, .int q.2)] [] := by
    refine dc_loopF ?_
    intro F_4 hl_4 hr_4
    have lab_74 : ∀ (x1 : Option Nat) (x2 : Int32), dc_wp (hm_DR_lineOfEmptyLoop_L74 G Z o x1 x2) F_4 → hg_G X l (hg_rm 3 64 Z) D 5 Z 74 [(0, va_rf (some o)), (1, va_rf x1), (2, .int x2)] [] := by
      intro x1 x2 h
      delta hm_DR_lineOfEmptyLoop_L74 at h
      refine hg_iinc (pc := 74) (i := 2) (v := (x2 + 1)) (lv' := [(2, .int (x2 + 1)), (0, va_rf (some o)), (1, va_rf x1)]) hC 2 rfl rfl (Nat.le_of_ble_eq_true rfl) (by simp [va_rf_cat, hg_cti]) (show decode prog_4_method_18_code 74 = .ok (.iinc 2 1, 3) by decide +kernel) ?_
      refine hg_goto (pc := 77) (tgt := 4) hC (show decode prog_4_method_18_code 77 = .ok (.goto (-73), 3) by decide +kernel) (by decide +kernel) ?_
      exact hg_sub [1, 2, 0] rfl (hl_4 (x1, (x2 + 1)) (dc_some h))
    have lab_72 : ∀ (x2 : Int32) (x3 : Option Nat), dc_wp (hm_DR_lineOfEmptyLoop_L72 G Z o x2 x3) F_4 → hg_G X l (hg_rm 3 64 Z) D 5 Z 72 [(0, va_rf (some o)), (2, .int x2), (3, va_rf x3)] [] := by
      intro x2 x3 h
      delta hm_DR_lineOfEmptyLoop_L72 at h
      refine hg_aloadn (pc := 72) (j := 3) (i := 3) (r := x3) hC 2 rfl rfl (show decode prog_4_method_18_code 72 = .ok (.aload_n 3, 1) by decide +kernel) ?_
      refine hg_astoren (pc := 73) (j := 1) (i := 1) (r := x3) (lv' := [(1, va_rf x3), (0, va_rf (some o)), (2, .int x2), (3, va_rf x3)]) hC rfl (Nat.le_of_ble_eq_true rfl) rfl (show decode prog_4_method_18_code 73 = .ok (.astore_n 1, 1) by decide +kernel) ?_
      exact hg_sub [1, 0, 2] rfl (lab_74 x3 x2 h)
    have lab_50 : ∀ (x1 : Option Nat) (x2 : Int32) (x3 : Option Nat) (y0 : Int32), dc_wp (hm_DR_lineOfEmptyLoop_L50 G Z o x1 x2 x3 y0) F_4 → hg_G X l (hg_rm 3 64 Z) D 5 Z 50 [(0, va_rf (some o)), (1, va_rf x1), (2, .int x2), (3, va_rf x3)] [.int y0] := by
      intro x1 x2 x3 y0 h
      delta hm_DR_lineOfEmptyLoop_L50 at h
      refine hg_istore (pc := 50) (i := 4) (lv' := [(4, .int y0), (0, va_rf (some o)), (1, va_rf x1), (2, .int x2), (3, va_rf x3)]) hC (Nat.le_of_ble_eq_true rfl) (by simp [va_rf_cat, hg_cti]) (show decode prog_4_method_18_code 50 = .ok (.istore 4, 2) by decide +kernel) ?_
      refine hg_iload (pc := 52) (i := 4) hC 0 rfl (show decode prog_4_method_18_code 52 = .ok (.iload 4, 2) by decide +kernel) ?_
      refine hg_if_eq (pc := 54) (tgt := 74) hC (show decode prog_4_method_18_code 54 = .ok (.ifCond .eq 20, 3) by decide +kernel) (by decide +kernel) h ?_ ?_
      · intro h
        exact hg_sub [1, 2, 3] rfl (lab_74 x1 x2 h)
      · intro h
        refine hg_aloadn (pc := 57) (j := 1) (i := 1) (r := x1) hC 2 rfl rfl (show decode prog_4_method_18_code 57 = .ok (.aload_n 1, 1) by decide +kernel) ?_
        refine hg_ifnull (pc := 58) (tgt := 72) (r := x1) hC (show decode prog_4_method_18_code 58 = .ok (.ifnull 14, 3) by decide +kernel) (by decide +kernel) h ?_ ?_
        · intro h
          exact hg_sub [1, 3, 4] rfl (lab_72 x2 x3 h)
        · intro h
          refine hg_aloadn (pc := 61) (j := 3) (i := 3) (r := x3) hC 4 rfl rfl (show decode prog_4_method_18_code 61 = .ok (.aload_n 3, 1) by decide +kernel) ?_
          refine hg_rgi (pc := 62) (r := x3) hC fl_SignalEngine_Draft_132 (show decode prog_4_method_18_code 62 = .ok (.getfield 132, 3) by decide +kernel) h ?_
          intro e2 h
          refine hg_aloadn (pc := 65) (j := 1) (i := 1) (r := x1) hC 2 rfl rfl (show decode prog_4_method_18_code 65 = .ok (.aload_n 1, 1) by decide +kernel) ?_
          refine hg_rgi (pc := 66) (r := x1) hC fl_SignalEngine_Draft_132 (show decode prog_4_method_18_code 66 = .ok (.getfield 132, 3) by decide +kernel) h ?_
          intro e3 h
          refine hg_icmp_ge (pc := 69) (tgt := 74) hC (show decode prog_4_method_18_code 69 = .ok (.if_icmp .ge 5, 3) by decide +kernel) (by decide +kernel) h ?_ ?_
          · intro h
            exact hg_sub [1, 3, 4] rfl (lab_72 x2 x3 h)
          · intro h
            exact hg_sub [1, 2, 3] rfl (lab_74 x1 x2 h)
    have lab_49 : ∀ (x1 : Option Nat) (x2 : Int32) (x3 : Option Nat), dc_wp (hm_DR_lineOfEmptyLoop_L49 G Z o x1 x2 x3) F_4 → hg_G X l (hg_rm 3 64 Z) D 5 Z 49 [(0, va_rf (some o)), (1, va_rf x1), (2, .int x2), (3, va_rf x3)] [] := by
      intro x1 x2 x3 h
      delta hm_DR_lineOfEmptyLoop_L49 at h
      refine hg_iconst (pc := 49) (v := 0) hC (show decode prog_4_method_18_code 49 = .ok (.iconst 0, 1) by decide +kernel) (by decide +kernel) ?_
      exact lab_50 x1 x2 x3 0 h
    rintro ⟨x1, x2⟩ h
    have h : dc_wp (hm_DR_lineOfEmptyLoop_b4 G Z o x1 x2) F_4 := h
    delta hm_DR_lineOfEmptyLoop_b4 at h
    refine hg_iloadn (pc := 4) (j := 2) (i := 2) hC 2 rfl rfl (show decode prog_4_method_18_code 4 = .ok (.iload_n 2, 1) by decide +kernel) ?_
    refine hg_aloadn (pc := 5) (j := 0) (i := 0) (r := (some o)) hC 0 rfl rfl (show decode prog_4_method_18_code 5 = .ok (.aload_n 0, 1) by decide +kernel) ?_
    refine hg_rgr (pc := 6) (r := (some o)) hC fl_SignalEngine_Draft_12 (show decode prog_4_method_18_code 6 = .ok (.getfield 12, 3) by decide +kernel) h ?_
    intro e4 h
    obtain ⟨b5, hb6, h⟩ := dc_bind h
    obtain ⟨hb6, hv7⟩ := hg_chk_of (C := R_AL) rfl hb6
    refine hg_kVi (pc := 9) (b := b5) (r := e4) (As := []) (rest := [.int x2]) (vo := fun q => q) (so := fun q => Z) hC cw_SignalEngine_Draft_70 (fun q hq => hm_AL_size_ok l D G Z b5 q hq) (Nat.le_of_ble_eq_true rfl) (Nat.le_of_ble_eq_true rfl) hb6 hv7 rfl (Nat.le_of_ble_eq_true rfl) (show decode prog_4_method_18_code 9 = .ok (.invokevirtual 70, 3) by decide +kernel) h ?_
    intro q8 h
    refine hg_icmp_ge (pc := 12) (tgt := 80) hC (show decode prog_4_method_18_code 12 = .ok (.if_icmp .ge 68, 3) by decide +kernel) (by decide +kernel) h ?_ ?_
    · intro h
      refine hg_aloadn (pc := 15) (j := 0) (i := 0) (r := (some o)) hC 0 rfl rfl (show decode prog_4_method_18_code 15 = .ok (.aload_n 0, 1) by decide +kernel) ?_
      refine hg_rgr (pc := 16) (r := (some o)) hC fl_SignalEngine_Draft_12 (show decode prog_4_method_18_code 16 = .ok (.getfield 12, 3) by decide +kernel) h ?_
      intro e9 h
      refine hg_iloadn (pc := 19) (j := 2) (i := 2) hC 2 rfl rfl (show decode prog_4_method_18_code 19 = .ok (.iload_n 2, 1) by decide +kernel) ?_
      obtain ⟨b10, hb11, h⟩ := dc_bind h
      obtain ⟨hb11, hv12⟩ := hg_chk_of (C := R_AL) rfl hb11
      refine hg_kVr (pc := 20) (b := b10) (r := e9) (As := [.int x2]) (rest := []) (vo := fun q => q) (so := fun q => Z) hC cw_SignalEngine_Draft_74 (fun q hq => hm_AL_get_ok l D G Z b10 x2 q hq) (Nat.le_of_ble_eq_true rfl) (Nat.le_of_ble_eq_true rfl) hb11 hv12 rfl (Nat.le_of_ble_eq_true rfl) (show decode prog_4_method_18_code 20 = .ok (.invokevirtual 74, 3) by decide +kernel) h ?_
      intro q13 h
      refine hg_rcast (pc := 23) (r := q13) hC (ci := 8) (C := R_ND) rfl w_546 wn_2351 (show decode prog_4_method_18_code 23 = .ok (.checkcast 27, 3) by decide +kernel) h ?_
      intro e14 h
      refine hg_astoren (pc := 26) (j := 3) (i := 3) (r := q13) (lv' := [(3, va_rf q13), (0, va_rf (some o)), (1, va_rf x1), (2, .int x2)]) hC rfl (Nat.le_of_ble_eq_true rfl) rfl (show decode prog_4_method_18_code 26 = .ok (.astore_n 3, 1) by decide +kernel) ?_
      refine hg_aloadn (pc := 27) (j := 3) (i := 3) (r := q13) hC 0 rfl rfl (show decode prog_4_method_18_code 27 = .ok (.aload_n 3, 1) by decide +kernel) ?_
      refine hg_rgi (pc := 28) (r := q13) hC fl_SignalEngine_Draft_120 (show decode prog_4_method_18_code 28 = .ok (.getfield 120, 3) by decide +kernel) h ?_
      intro e15 h
      refine hg_bipush (pc := 31) (v := 6) hC (show decode prog_4_method_18_code 31 = .ok (.bipush 6, 2) by decide +kernel) (by decide +kernel) ?_
      refine hg_icmp_ne (pc := 33) (tgt := 49) hC (show decode prog_4_method_18_code 33 = .ok (.if_icmp .ne 16, 3) by decide +kernel) (by decide +kernel) h ?_ ?_
      · intro h
        refine hg_aloadn (pc := 36) (j := 3) (i := 3) (r := q13) hC 0 rfl rfl (show decode prog_4_method_18_code 36 = .ok (.aload_n 3, 1) by decide +kernel) ?_
        refine hg_rgi (pc := 37) (r := q13) hC fl_SignalEngine_Draft_99 (show decode prog_4_method_18_code 37 = .ok (.getfield 99, 3) by decide +kernel) h ?_
        intro e16 h
        refine hg_iconst (pc := 40) (v := 1) hC (show decode prog_4_method_18_code 40 = .ok (.iconst 1, 1) by decide +kernel) (by decide +kernel) ?_
        refine hg_iand (pc := 41) hC (show decode prog_4_method_18_code 41 = .ok (.iand, 1) by decide +kernel) ?_
        refine hg_if_eq (pc := 42) (tgt := 49) hC (show decode prog_4_method_18_code 42 = .ok (.ifCond .eq 7, 3) by decide +kernel) (by decide +kernel) h ?_ ?_
        · intro h
          exact hg_sub [1, 2, 3, 0] rfl (lab_49 x1 x2 q13 h)
        · intro h
          refine hg_iconst (pc := 45) (v := 1) hC (show decode prog_4_method_18_code 45 = .ok (.iconst 1, 1) by decide +kernel) (by decide +kernel) ?_
          refine hg_goto (pc := 46) (tgt := 50) hC (show decode prog_4_method_18_code 46 = .ok (.goto 4, 3) by decide +kernel) (by decide +kernel) ?_
          exact hg_sub [1, 2, 3, 0] rfl (lab_50 x1 x2 q13 1 h)
      · intro h
        exact hg_sub [1, 2, 3, 0] rfl (lab_49 x1 x2 q13 h)
    · intro h
      have h : dc_wp (hm_DR_lineOfEmptyLoop_L80 G Z o x1) F := hr_4 x1 (dc_some h)
      exact hg_sub [0, 1] rfl (lab_80 x1 h)
  have lab_4 : ∀ (x1 : Option Nat) (x2 : Int32), dc_wp (hm_DR_lineOfEmptyLoop_L4 G Z o x1 x2) F → hg_G X l (hg_rm 3 64 Z) D 5 Z 4 [(0, va_rf (some o)), (1, va_rf x1), (2, .int x2)] [] := fun x1 x2 h => loop_4  (x1, x2) (dc_bind h)
  show hg_G X l (hg_rm 3 64 Z) D 5 Z 0 [(0, va_rf (some o))] []
  have h : dc_wp (hm_DR_lineOfEmptyLoop G Z o) F := h
  delta hm_DR_lineOfEmptyLoop at h
  refine hg_null (pc := 0) hC (show decode prog_4_method_18_code 0 = .ok (.aconst_null, 1) by decide +kernel) ?_
  refine hg_letR h ?_
  intro v17 h
  refine hg_astoren (pc := 1) (j := 1) (i := 1) (r := v17) (lv' := [(1, va_rf v17), (0, va_rf (some o))]) hC rfl (Nat.le_of_ble_eq_true rfl) rfl (show decode prog_4_method_18_code 1 = .ok (.astore_n 1, 1) by decide +kernel) ?_
  refine hg_iconst (pc := 2) (v := 0) hC (show decode prog_4_method_18_code 2 = .ok (.iconst 0, 1) by decide +kernel) (by decide +kernel) ?_
  refine hg_istoren (pc := 3) (j := 2) (i := 2) (lv' := [(2, .int 0), (1, va_rf v17), (0, va_rf (some o))]) hC rfl (Nat.le_of_ble_eq_true rfl) (by simp [va_rf_cat, hg_cti]) (show decode prog_4_method_18_code 3 = .ok (.istore_n 2, 1) by decide +kernel) ?_
  exact hg_sub [2, 1, 0] rfl (lab_4 v17 0 h)
noncomputable def hm_PA_judge_L91 (G : hg_E) (S : hg_S) (o : Nat) (y0 : Int32) : Option (hg_S × Int32) :=
  some (S, y0)
noncomputable def hm_PA_judge_L80 (G : hg_E) (S : hg_S) (o : Nat) (y0 : Int32) : Option (hg_S × Int32) :=
  if y0 = 0 then (hm_PA_judge_L91 G S o 0) else (hm_PA_judge_L91 G S o 6)
noncomputable def hm_PA_judge_L75 (G : hg_E) (S : hg_S) (o : Nat) : Option (hg_S × Int32) :=
  hm_PA_judge_L80 G S o 1
noncomputable def hm_PA_judge (G : hg_E) (S : hg_S) (o : Nat) : Option (hg_S × Int32) :=
  (hg_gr S (some o) 4 3).bind fun e1 => (hg_gr S (some o) 4 2).bind fun e2 => (hg_gi S e2 3 4).bind fun e3 => (hg_chk S e1 6).bind fun b4 => (hm_DR_settle G S b4 e3).bind fun q7 => (hg_gr q7 (some o) 4 3).bind fun e8 => (hg_chk q7 e8 6).bind fun b9 => (hm_DR_lineOfEmptyLoop G q7 b9).bind fun q12 => if q12 = (-1) then ((hg_gi q7 (some o) 4 4).bind fun e13 => if (31 : Int32) < e13 then (hm_PA_judge_L75 G q7 o) else ((hg_gi q7 (some o) 4 5).bind fun e14 => if (31 : Int32) < e14 then (hm_PA_judge_L75 G q7 o) else ((hg_gr q7 (some o) 4 1).bind fun e15 => (hg_gi q7 e15 3 4).bind fun e16 => if (400 : Int32) < e16 then (hm_PA_judge_L75 G q7 o) else ((hg_gr q7 (some o) 4 3).bind fun e17 => (hg_chk q7 e17 6).bind fun b18 => (hm_DR_isLarge G q7 b18).bind fun q21 => if q21 = 0 then (hm_PA_judge_L80 G q7 o 0) else (hm_PA_judge_L75 G q7 o))))) else (some ((q7, (4 + (8 * q12)))))
set_option maxHeartbeats 4000000 in
set_option maxRecDepth 100000 in
/-- SignalEngine$Parser.judge()I -/
theorem hm_PA_judge_ok (l : Launch) (D : va_G) (G : hg_E) (Z : hg_S) (o : Nat) (q : hg_S × Int32) (hq : hm_PA_judge G Z o = some q) : hg_C l ⟨"SignalEngine$Parser", "judge", "()I"⟩ prog_9_method_3_code 3 (some (.int)) 4 88 D G [.ref o] Z (.inl (some (.int q.2), q.1) : hg_O) := by
  refine hg_start (cv := fun q => (.inl (some (.int q.2), q.1) : hg_O)) hq ?_
  intro F hF h
  refine hg_enter (lv := [(0, va_rf (some o))]) (by decide +kernel) (by simp [lg_sl, va_rf_cat, hg_cti, hg_ctr]) (by simp [lv_args, va_rf_cat, va_rf_some, hg_cti, hg_ctr]) ?_
  intro X hC hR
  have lab_91 : ∀ (S : hg_S) (y0 : Int32), dc_wp (hm_PA_judge_L91 G S o y0) F → hg_G X l (hg_rm 4 88 Z) D 3 S 91 [(0, va_rf (some o))] [.int y0] := by
    intro S y0 h
    delta hm_PA_judge_L91 at h
    exact hg_iret (pc := 91) hC hR (hF _ (dc_some h)) (show decode prog_9_method_3_code 91 = .ok (.ireturn, 1) by decide +kernel)
  have lab_80 : ∀ (S : hg_S) (y0 : Int32), dc_wp (hm_PA_judge_L80 G S o y0) F → hg_G X l (hg_rm 4 88 Z) D 3 S 80 [(0, va_rf (some o))] [.int y0] := by
    intro S y0 h
    delta hm_PA_judge_L80 at h
    refine hg_istoren (pc := 80) (j := 2) (i := 2) (lv' := [(2, .int y0), (0, va_rf (some o))]) hC rfl (Nat.le_of_ble_eq_true rfl) rfl (show decode prog_9_method_3_code 80 = .ok (.istore_n 2, 1) by decide +kernel) ?_
    refine hg_iloadn (pc := 81) (j := 2) (i := 2) hC 0 rfl rfl (show decode prog_9_method_3_code 81 = .ok (.iload_n 2, 1) by decide +kernel) ?_
    refine hg_if_eq (pc := 82) (tgt := 90) hC (show decode prog_9_method_3_code 82 = .ok (.ifCond .eq 8, 3) by decide +kernel) (by decide +kernel) h ?_ ?_
    · intro h
      refine hg_iconst (pc := 90) (v := 0) hC (show decode prog_9_method_3_code 90 = .ok (.iconst 0, 1) by decide +kernel) (by decide +kernel) ?_
      exact hg_sub [1] rfl (lab_91 S 0 h)
    · intro h
      refine hg_bipush (pc := 85) (v := 6) hC (show decode prog_9_method_3_code 85 = .ok (.bipush 6, 2) by decide +kernel) (by decide +kernel) ?_
      refine hg_goto (pc := 87) (tgt := 91) hC (show decode prog_9_method_3_code 87 = .ok (.goto 4, 3) by decide +kernel) (by decide +kernel) ?_
      exact hg_sub [1] rfl (lab_91 S 6 h)
  have lab_75 : ∀ (S : hg_S), dc_wp (hm_PA_judge_L75 G S o) F → hg_G X l (hg_rm 4 88 Z) D 3 S 75 [(0, va_rf (some o))] [] := by
    intro S  h
    delta hm_PA_judge_L75 at h
    refine hg_iconst (pc := 75) (v := 1) hC (show decode prog_9_method_3_code 75 = .ok (.iconst 1, 1) by decide +kernel) (by decide +kernel) ?_
    refine hg_goto (pc := 76) (tgt := 80) hC (show decode prog_9_method_3_code 76 = .ok (.goto 4, 3) by decide +kernel) (by decide +kernel) ?_
    exact lab_80 S 1 h
  show hg_G X l (hg_rm 4 88 Z) D 3 Z 0 [(0, va_rf (some o))] []
  have h : dc_wp (hm_PA_judge G Z o) F := h
  delta hm_PA_judge at h
  refine hg_aloadn (pc := 0) (j := 0) (i := 0) (r := (some o)) hC 0 rfl rfl (show decode prog_9_method_3_code 0 = .ok (.aload_n 0, 1) by decide +kernel) ?_
  refine hg_rgr (pc := 1) (r := (some o)) hC fl_SignalEngine_Parser_12 (show decode prog_9_method_3_code 1 = .ok (.getfield 12, 3) by decide +kernel) h ?_
  intro e1 h
  refine hg_aloadn (pc := 4) (j := 0) (i := 0) (r := (some o)) hC 0 rfl rfl (show decode prog_9_method_3_code 4 = .ok (.aload_n 0, 1) by decide +kernel) ?_
  refine hg_rgr (pc := 5) (r := (some o)) hC fl_SignalEngine_Parser_34 (show decode prog_9_method_3_code 5 = .ok (.getfield 34, 3) by decide +kernel) h ?_
  intro e2 h
  refine hg_rgi (pc := 8) (r := e2) hC fl_SignalEngine_Parser_46 (show decode prog_9_method_3_code 8 = .ok (.getfield 46, 3) by decide +kernel) h ?_
  intro e3 h
  obtain ⟨b4, hb5, h⟩ := dc_bind h
  obtain ⟨hb5, hv6⟩ := hg_chk_of (C := R_DR) rfl hb5
  refine hg_kVv (pc := 11) (b := b4) (r := e1) (As := [.int e3]) (rest := []) (so := fun q => q) hC cw_SignalEngine_Parser_49 (fun q hq => hm_DR_settle_ok l D G Z b4 e3 q hq) (Nat.le_of_ble_eq_true rfl) (Nat.le_of_ble_eq_true rfl) hb5 hv6 rfl (Nat.le_of_ble_eq_true rfl) (show decode prog_9_method_3_code 11 = .ok (.invokevirtual 49, 3) by decide +kernel) h ?_
  intro q7 h
  refine hg_aloadn (pc := 14) (j := 0) (i := 0) (r := (some o)) hC 0 rfl rfl (show decode prog_9_method_3_code 14 = .ok (.aload_n 0, 1) by decide +kernel) ?_
  refine hg_rgr (pc := 15) (r := (some o)) hC fl_SignalEngine_Parser_12 (show decode prog_9_method_3_code 15 = .ok (.getfield 12, 3) by decide +kernel) h ?_
  intro e8 h
  obtain ⟨b9, hb10, h⟩ := dc_bind h
  obtain ⟨hb10, hv11⟩ := hg_chk_of (C := R_DR) rfl hb10
  refine hg_kVi (pc := 18) (b := b9) (r := e8) (As := []) (rest := []) (vo := fun q => q) (so := fun q => q7) hC cw_SignalEngine_Parser_53 (fun q hq => hm_DR_lineOfEmptyLoop_ok l D G q7 b9 q hq) (Nat.le_of_ble_eq_true rfl) (Nat.le_of_ble_eq_true rfl) hb10 hv11 rfl (Nat.le_of_ble_eq_true rfl) (show decode prog_9_method_3_code 18 = .ok (.invokevirtual 53, 3) by decide +kernel) h ?_
  intro q12 h
  refine hg_istoren (pc := 21) (j := 1) (i := 1) (lv' := [(1, .int q12), (0, va_rf (some o))]) hC rfl (Nat.le_of_ble_eq_true rfl) rfl (show decode prog_9_method_3_code 21 = .ok (.istore_n 1, 1) by decide +kernel) ?_
  refine hg_iloadn (pc := 22) (j := 1) (i := 1) hC 0 rfl rfl (show decode prog_9_method_3_code 22 = .ok (.iload_n 1, 1) by decide +kernel) ?_
  refine hg_iconst (pc := 23) (v := (-1)) hC (show decode prog_9_method_3_code 23 = .ok (.iconst (-1), 1) by decide +kernel) (by decide +kernel) ?_
  refine hg_icmp_eq (pc := 24) (tgt := 34) hC (show decode prog_9_method_3_code 24 = .ok (.if_icmp .eq 10, 3) by decide +kernel) (by decide +kernel) h ?_ ?_
  · intro h
    refine hg_aloadn (pc := 34) (j := 0) (i := 0) (r := (some o)) hC 1 rfl rfl (show decode prog_9_method_3_code 34 = .ok (.aload_n 0, 1) by decide +kernel) ?_
    refine hg_rgi (pc := 35) (r := (some o)) hC fl_SignalEngine_Parser_57 (show decode prog_9_method_3_code 35 = .ok (.getfield 57, 3) by decide +kernel) h ?_
    intro e13 h
    refine hg_bipush (pc := 38) (v := 31) hC (show decode prog_9_method_3_code 38 = .ok (.bipush 31, 2) by decide +kernel) (by decide +kernel) ?_
    refine hg_icmp_gt (pc := 40) (tgt := 75) hC (show decode prog_9_method_3_code 40 = .ok (.if_icmp .gt 35, 3) by decide +kernel) (by decide +kernel) h ?_ ?_
    · intro h
      exact hg_sub [1] rfl (lab_75 q7 h)
    · intro h
      refine hg_aloadn (pc := 43) (j := 0) (i := 0) (r := (some o)) hC 1 rfl rfl (show decode prog_9_method_3_code 43 = .ok (.aload_n 0, 1) by decide +kernel) ?_
      refine hg_rgi (pc := 44) (r := (some o)) hC fl_SignalEngine_Parser_60 (show decode prog_9_method_3_code 44 = .ok (.getfield 60, 3) by decide +kernel) h ?_
      intro e14 h
      refine hg_bipush (pc := 47) (v := 31) hC (show decode prog_9_method_3_code 47 = .ok (.bipush 31, 2) by decide +kernel) (by decide +kernel) ?_
      refine hg_icmp_gt (pc := 49) (tgt := 75) hC (show decode prog_9_method_3_code 49 = .ok (.if_icmp .gt 26, 3) by decide +kernel) (by decide +kernel) h ?_ ?_
      · intro h
        exact hg_sub [1] rfl (lab_75 q7 h)
      · intro h
        refine hg_aloadn (pc := 52) (j := 0) (i := 0) (r := (some o)) hC 1 rfl rfl (show decode prog_9_method_3_code 52 = .ok (.aload_n 0, 1) by decide +kernel) ?_
        refine hg_rgr (pc := 53) (r := (some o)) hC fl_SignalEngine_Parser_30 (show decode prog_9_method_3_code 53 = .ok (.getfield 30, 3) by decide +kernel) h ?_
        intro e15 h
        refine hg_rgi (pc := 56) (r := e15) hC fl_SignalEngine_Parser_46 (show decode prog_9_method_3_code 56 = .ok (.getfield 46, 3) by decide +kernel) h ?_
        intro e16 h
        refine hg_sipush (pc := 59) (v := 400) hC (show decode prog_9_method_3_code 59 = .ok (.sipush 400, 3) by decide +kernel) (by decide +kernel) ?_
        refine hg_icmp_gt (pc := 62) (tgt := 75) hC (show decode prog_9_method_3_code 62 = .ok (.if_icmp .gt 13, 3) by decide +kernel) (by decide +kernel) h ?_ ?_
        · intro h
          exact hg_sub [1] rfl (lab_75 q7 h)
        · intro h
          refine hg_aloadn (pc := 65) (j := 0) (i := 0) (r := (some o)) hC 1 rfl rfl (show decode prog_9_method_3_code 65 = .ok (.aload_n 0, 1) by decide +kernel) ?_
          refine hg_rgr (pc := 66) (r := (some o)) hC fl_SignalEngine_Parser_12 (show decode prog_9_method_3_code 66 = .ok (.getfield 12, 3) by decide +kernel) h ?_
          intro e17 h
          obtain ⟨b18, hb19, h⟩ := dc_bind h
          obtain ⟨hb19, hv20⟩ := hg_chk_of (C := R_DR) rfl hb19
          refine hg_kVi (pc := 69) (b := b18) (r := e17) (As := []) (rest := []) (vo := fun q => q) (so := fun q => q7) hC cw_SignalEngine_Parser_63 (fun q hq => hm_DR_isLarge_ok l D G q7 b18 q hq) (Nat.le_of_ble_eq_true rfl) (Nat.le_of_ble_eq_true rfl) hb19 hv20 rfl (Nat.le_of_ble_eq_true rfl) (show decode prog_9_method_3_code 69 = .ok (.invokevirtual 63, 3) by decide +kernel) h ?_
          intro q21 h
          refine hg_if_eq (pc := 72) (tgt := 79) hC (show decode prog_9_method_3_code 72 = .ok (.ifCond .eq 7, 3) by decide +kernel) (by decide +kernel) h ?_ ?_
          · intro h
            refine hg_iconst (pc := 79) (v := 0) hC (show decode prog_9_method_3_code 79 = .ok (.iconst 0, 1) by decide +kernel) (by decide +kernel) ?_
            exact hg_sub [1] rfl (lab_80 q7 0 h)
          · intro h
            exact hg_sub [1] rfl (lab_75 q7 h)
  · intro h
    refine hg_iconst (pc := 27) (v := 4) hC (show decode prog_9_method_3_code 27 = .ok (.iconst 4, 1) by decide +kernel) (by decide +kernel) ?_
    refine hg_bipush (pc := 28) (v := 8) hC (show decode prog_9_method_3_code 28 = .ok (.bipush 8, 2) by decide +kernel) (by decide +kernel) ?_
    refine hg_iloadn (pc := 30) (j := 1) (i := 1) hC 0 rfl rfl (show decode prog_9_method_3_code 30 = .ok (.iload_n 1, 1) by decide +kernel) ?_
    refine hg_imul (pc := 31) hC (show decode prog_9_method_3_code 31 = .ok (.imul, 1) by decide +kernel) ?_
    refine hg_iadd (pc := 32) hC (show decode prog_9_method_3_code 32 = .ok (.iadd, 1) by decide +kernel) ?_
    exact hg_iret (pc := 33) hC hR (hF _ (dc_some h)) (show decode prog_9_method_3_code 33 = .ok (.ireturn, 1) by decide +kernel)
noncomputable def hm_PG_init_L203 (G : hg_E) (S : hg_S) (o : Nat) (x2 : Option Nat) (x4 : Option Nat) : Option (hg_S) :=
  (hg_gr S x2 6 1).bind fun e1 => (hg_chk S (some o) 9).bind fun b2 => (hm_PG_giveNumbers G S b2 x4 e1).bind fun q5 => (hg_chk q5 (some o) 9).bind fun b6 => (hm_PG_boundPauses G q5 b6).bind fun q9 => some q9
noncomputable def hm_PG_init_b158 (G : hg_E) (S : hg_S) (o : Nat) (x2 : Option Nat) (x3 : Int32) (x4 : Option Nat) (x5 : Int32) : Option ((hg_S × Int32) ⊕ ((hg_S))) :=
  if x5 < x3 then ((hg_gr S x2 6 0).bind fun e10 => (hg_chk S e10 7).bind fun b11 => (hm_AL_get G S b11 x5).bind fun q14 => (hg_chk S q14 8).bind fun e15 => (hg_chk S (some o) 9).bind fun b16 => (hm_PG_copy G S b16 q14).bind fun q19 => (hg_gi q19 q14 8 8).bind fun e20 => (hg_gi q19 q14 8 6).bind fun e21 => (hg_st q19 x4 (G.1 0) e20 e21).bind fun S22 => some (.inl (S22, (x5 + 1)))) else (some (.inr S))
noncomputable def hm_PG_init_s158 (G : hg_E) (o : Nat) (x2 : Option Nat) (x3 : Int32) (x4 : Option Nat) (q : hg_S × Int32) : Option ((hg_S × Int32) ⊕ ((hg_S))) :=
  hm_PG_init_b158 G q.1 o x2 x3 x4 q.2
noncomputable def hm_PG_init_L158 (G : hg_E) (S : hg_S) (o : Nat) (x2 : Option Nat) (x3 : Int32) (x4 : Option Nat) (x5 : Int32) : Option (hg_S) :=
  (dc_it (hm_PG_init_s158 G o x2 x3 x4) (S, x5)).bind (fun (z : hg_S) => hm_PG_init_L203 G z o x2 x4)
noncomputable def hm_PG_init (G : hg_E) (S : hg_S) (o : Nat) (p1 : Option Nat) : Option (hg_S) :=
  (hg_gr S p1 4 3).bind fun e23 => (hg_gr S e23 6 0).bind fun e24 => (hg_chk S e24 7).bind fun b25 => (hm_AL_size G S b25).bind fun q28 => (hg_gr S p1 4 1).bind fun e29 => (hg_pf S (some o) 9 0 (va_rf e29)).bind fun S30 => (hg_gi S30 p1 4 4).bind fun e31 => (hg_pf S30 (some o) 9 1 (.int e31)).bind fun S32 => (hg_gi S32 p1 4 5).bind fun e33 => (hg_pf S32 (some o) 9 2 (.int e33)).bind fun S34 => (hg_gi S34 e23 6 3).bind fun e35 => (hg_pf S34 (some o) 9 3 (.int e35)).bind fun S36 => (hg_gi S36 e23 6 2).bind fun e37 => (hg_pf S36 (some o) 9 4 (.int e37)).bind fun S38 => (hg_gi S38 e23 6 5).bind fun e39 => (hg_pf S38 (some o) 9 5 (.int e39)).bind fun S40 => (hg_new S40 5 6 [.null, .null, .null, .null, .null, .int 0]).bind fun S41 => (hg_gi S41 e23 6 4).bind fun e42 => (hm_PI_init G S41 S40.2.1 e42).bind fun q43 => (hg_pf q43 (some o) 9 6 (va_rf (some S40.2.1))).bind fun S44 => (hg_newa G S44 0 q28).bind fun S45 => (hg_pf S45 (some o) 9 7 (va_rf (some S44.2.1))).bind fun S46 => (hg_newa G S46 0 q28).bind fun S47 => (hg_pf S47 (some o) 9 8 (va_rf (some S46.2.1))).bind fun S48 => (hg_newa G S48 0 q28).bind fun S49 => (hg_pf S49 (some o) 9 9 (va_rf (some S48.2.1))).bind fun S50 => (hg_newa G S50 0 q28).bind fun S51 => (hg_pf S51 (some o) 9 10 (va_rf (some S50.2.1))).bind fun S52 => (hg_newa G S52 0 q28).bind fun S53 => (hg_pf S53 (some o) 9 11 (va_rf (some S52.2.1))).bind fun S54 => (hg_newa G S54 0 q28).bind fun S55 => (hg_pf S55 (some o) 9 12 (va_rf (some S54.2.1))).bind fun S56 => (hg_newa G S56 0 q28).bind fun S57 => (hg_pf S57 (some o) 9 13 (va_rf (some S56.2.1))).bind fun S58 => (hg_newa G S58 0 q28).bind fun S59 => (hg_pf S59 (some o) 9 14 (va_rf (some S58.2.1))).bind fun S60 => (hg_newa G S60 0 q28).bind fun S61 => (hg_pf S61 (some o) 9 15 (va_rf (some S60.2.1))).bind fun S62 => (hg_newa G S62 0 q28).bind fun S63 => (hg_pf S63 (some o) 9 16 (va_rf (some S62.2.1))).bind fun S64 => (hg_newa G S64 0 q28).bind fun S65 => dc_let ((some S64.2.1) : Option Nat) fun v66 => hm_PG_init_L158 G S65 o e23 q28 v66 0
set_option maxHeartbeats 4000000 in
set_option maxRecDepth 100000 in
/-- SignalEngine$Program.<init>(LSignalEngine$Parser;)V -/
theorem hm_PG_init_ok (l : Launch) (D : va_G) (G : hg_E) (Z : hg_S) (o : Nat) (p1 : Option Nat) (q : hg_S) (hq : hm_PG_init G Z o p1 = some q) : hg_C l ⟨"SignalEngine$Program", "<init>", "(LSignalEngine$Parser;)V"⟩ prog_11_method_1_code 7 none 3 73 D G [.ref o, va_rf p1] Z (.inl (none, q) : hg_O) := by
  refine hg_start (cv := fun q => (.inl (none, q) : hg_O)) hq ?_
  intro F hF h
  refine hg_enter (lv := [(0, va_rf (some o)), (1, va_rf p1)]) (by decide +kernel) (by simp [lg_sl, va_rf_cat, hg_cti, hg_ctr]) (by simp [lv_args, va_rf_cat, va_rf_some, hg_cti, hg_ctr]) ?_
  intro X hC hR
  have lab_203 : ∀ (S : hg_S) (x2 : Option Nat) (x4 : Option Nat), dc_wp (hm_PG_init_L203 G S o x2 x4) F → hg_G X l (hg_rm 3 73 Z) D 7 S 203 [(0, va_rf (some o)), (2, va_rf x2), (4, va_rf x4)] [] := by
    intro S x2 x4 h
    delta hm_PG_init_L203 at h
    refine hg_aloadn (pc := 203) (j := 0) (i := 0) (r := (some o)) hC 0 rfl rfl (show decode prog_11_method_1_code 203 = .ok (.aload_n 0, 1) by decide +kernel) ?_
    refine hg_aload (pc := 204) (i := 4) (r := x4) hC 2 rfl (show decode prog_11_method_1_code 204 = .ok (.aload 4, 2) by decide +kernel) ?_
    refine hg_aloadn (pc := 206) (j := 2) (i := 2) (r := x2) hC 1 rfl rfl (show decode prog_11_method_1_code 206 = .ok (.aload_n 2, 1) by decide +kernel) ?_
    refine hg_rgr (pc := 207) (r := x2) hC fl_SignalEngine_Program_116 (show decode prog_11_method_1_code 207 = .ok (.getfield 116, 3) by decide +kernel) h ?_
    intro e1 h
    obtain ⟨b2, hb3, h⟩ := dc_bind h
    obtain ⟨hb3, hv4⟩ := hg_chk_of (C := R_PG) rfl hb3
    refine hg_kVv (pc := 210) (b := b2) (r := (some o)) (As := [va_rf x4, va_rf e1]) (rest := []) (so := fun q => q) hC cw_SignalEngine_Program_117 (fun q hq => hm_PG_giveNumbers_ok l D G S b2 x4 e1 q hq) (Nat.le_of_ble_eq_true rfl) (Nat.le_of_ble_eq_true rfl) hb3 hv4 rfl (Nat.le_of_ble_eq_true rfl) (show decode prog_11_method_1_code 210 = .ok (.invokevirtual 117, 3) by decide +kernel) h ?_
    intro q5 h
    refine hg_aloadn (pc := 213) (j := 0) (i := 0) (r := (some o)) hC 0 rfl rfl (show decode prog_11_method_1_code 213 = .ok (.aload_n 0, 1) by decide +kernel) ?_
    obtain ⟨b6, hb7, h⟩ := dc_bind h
    obtain ⟨hb7, hv8⟩ := hg_chk_of (C := R_PG) rfl hb7
    refine hg_kVv (pc := 214) (b := b6) (r := (some o)) (As := []) (rest := []) (so := fun q => q) hC cw_SignalEngine_Program_121 (fun q hq => hm_PG_boundPauses_ok l D G q5 b6 q hq) (Nat.le_of_ble_eq_true rfl) (Nat.le_of_ble_eq_true rfl) hb7 hv8 rfl (Nat.le_of_ble_eq_true rfl) (show decode prog_11_method_1_code 214 = .ok (.invokevirtual 121, 3) by decide +kernel) h ?_
    intro q9 h
    exact hg_vret (pc := 217) hC hR (hF _ (dc_some h)) (show decode prog_11_method_1_code 217 = .ok (.return_, 1) by decide +kernel)
  have loop_158 : ∀ (x2 : Option Nat) (x3 : Int32) (x4 : Option Nat) (q : hg_S × Int32), dc_wp (dc_it (hm_PG_init_s158 G o x2 x3 x4) q) (fun z => dc_wp ((fun (z : hg_S) => hm_PG_init_L203 G z o x2 x4) z) F) → hg_G X l (hg_rm 3 73 Z) D 7 q.1 158 [(0, va_rf (some o)), (2, va_rf x2), (3, .int x3), (4, va_rf x4), (5, .int q.2)] [] := by
    intro x2 x3 x4
    refine dc_loopF ?_
    intro F_158 hl_158 hr_158
    rintro ⟨S, x5⟩ h
    have h : dc_wp (hm_PG_init_b158 G S o x2 x3 x4 x5) F_158 := h
    delta hm_PG_init_b158 at h
    refine hg_iload (pc := 158) (i := 5) hC 4 rfl (show decode prog_11_method_1_code 158 = .ok (.iload 5, 2) by decide +kernel) ?_
    refine hg_iloadn (pc := 160) (j := 3) (i := 3) hC 2 rfl rfl (show decode prog_11_method_1_code 160 = .ok (.iload_n 3, 1) by decide +kernel) ?_
    refine hg_icmp_ge (pc := 161) (tgt := 203) hC (show decode prog_11_method_1_code 161 = .ok (.if_icmp .ge 42, 3) by decide +kernel) (by decide +kernel) h ?_ ?_
    · intro h
      refine hg_aloadn (pc := 164) (j := 2) (i := 2) (r := x2) hC 1 rfl rfl (show decode prog_11_method_1_code 164 = .ok (.aload_n 2, 1) by decide +kernel) ?_
      refine hg_rgr (pc := 165) (r := x2) hC fl_SignalEngine_Program_15 (show decode prog_11_method_1_code 165 = .ok (.getfield 15, 3) by decide +kernel) h ?_
      intro e10 h
      refine hg_iload (pc := 168) (i := 5) hC 4 rfl (show decode prog_11_method_1_code 168 = .ok (.iload 5, 2) by decide +kernel) ?_
      obtain ⟨b11, hb12, h⟩ := dc_bind h
      obtain ⟨hb12, hv13⟩ := hg_chk_of (C := R_AL) rfl hb12
      refine hg_kVr (pc := 170) (b := b11) (r := e10) (As := [.int x5]) (rest := []) (vo := fun q => q) (so := fun q => S) hC cw_SignalEngine_Program_100 (fun q hq => hm_AL_get_ok l D G S b11 x5 q hq) (Nat.le_of_ble_eq_true rfl) (Nat.le_of_ble_eq_true rfl) hb12 hv13 rfl (Nat.le_of_ble_eq_true rfl) (show decode prog_11_method_1_code 170 = .ok (.invokevirtual 100, 3) by decide +kernel) h ?_
      intro q14 h
      refine hg_rcast (pc := 173) (r := q14) hC (ci := 8) (C := R_ND) rfl w_869 wn_2351 (show decode prog_11_method_1_code 173 = .ok (.checkcast 104, 3) by decide +kernel) h ?_
      intro e15 h
      refine hg_astore (pc := 176) (i := 6) (r := q14) (lv' := [(6, va_rf q14), (0, va_rf (some o)), (2, va_rf x2), (3, .int x3), (4, va_rf x4), (5, .int x5)]) hC (Nat.le_of_ble_eq_true rfl) rfl (show decode prog_11_method_1_code 176 = .ok (.astore 6, 2) by decide +kernel) ?_
      refine hg_aloadn (pc := 178) (j := 0) (i := 0) (r := (some o)) hC 1 rfl rfl (show decode prog_11_method_1_code 178 = .ok (.aload_n 0, 1) by decide +kernel) ?_
      refine hg_aload (pc := 179) (i := 6) (r := q14) hC 0 rfl (show decode prog_11_method_1_code 179 = .ok (.aload 6, 2) by decide +kernel) ?_
      obtain ⟨b16, hb17, h⟩ := dc_bind h
      obtain ⟨hb17, hv18⟩ := hg_chk_of (C := R_PG) rfl hb17
      refine hg_kVv (pc := 181) (b := b16) (r := (some o)) (As := [va_rf q14]) (rest := []) (so := fun q => q) hC cw_SignalEngine_Program_106 (fun q hq => hm_PG_copy_ok l D G S b16 q14 q hq) (Nat.le_of_ble_eq_true rfl) (Nat.le_of_ble_eq_true rfl) hb17 hv18 rfl (Nat.le_of_ble_eq_true rfl) (show decode prog_11_method_1_code 181 = .ok (.invokevirtual 106, 3) by decide +kernel) h ?_
      intro q19 h
      refine hg_aload (pc := 184) (i := 4) (r := x4) hC 4 rfl (show decode prog_11_method_1_code 184 = .ok (.aload 4, 2) by decide +kernel) ?_
      refine hg_aload (pc := 186) (i := 6) (r := q14) hC 0 rfl (show decode prog_11_method_1_code 186 = .ok (.aload 6, 2) by decide +kernel) ?_
      refine hg_rgi (pc := 188) (r := q14) hC fl_SignalEngine_Program_110 (show decode prog_11_method_1_code 188 = .ok (.getfield 110, 3) by decide +kernel) h ?_
      intro e20 h
      refine hg_aload (pc := 191) (i := 6) (r := q14) hC 0 rfl (show decode prog_11_method_1_code 191 = .ok (.aload 6, 2) by decide +kernel) ?_
      refine hg_rgi (pc := 193) (r := q14) hC fl_SignalEngine_Program_113 (show decode prog_11_method_1_code 193 = .ok (.getfield 113, 3) by decide +kernel) h ?_
      intro e21 h
      refine hg_riast (pc := 196) (r := x4) hC (show decode prog_11_method_1_code 196 = .ok (.iastore, 1) by decide +kernel) h ?_
      intro S22 h
      refine hg_iinc (pc := 197) (i := 5) (v := (x5 + 1)) (lv' := [(5, .int (x5 + 1)), (6, va_rf q14), (0, va_rf (some o)), (2, va_rf x2), (3, .int x3), (4, va_rf x4)]) hC 5 rfl rfl (Nat.le_of_ble_eq_true rfl) (by simp [va_rf_cat, hg_cti]) (show decode prog_11_method_1_code 197 = .ok (.iinc 5 1, 3) by decide +kernel) ?_
      refine hg_goto (pc := 200) (tgt := 158) hC (show decode prog_11_method_1_code 200 = .ok (.goto (-42), 3) by decide +kernel) (by decide +kernel) ?_
      exact hg_sub [2, 3, 4, 5, 0] rfl (hl_158 (S22, (x5 + 1)) (dc_some h))
    · intro h
      have h : dc_wp (hm_PG_init_L203 G S o x2 x4) F := hr_158 S (dc_some h)
      exact hg_sub [0, 1, 3] rfl (lab_203 S x2 x4 h)
  have lab_158 : ∀ (S : hg_S) (x2 : Option Nat) (x3 : Int32) (x4 : Option Nat) (x5 : Int32), dc_wp (hm_PG_init_L158 G S o x2 x3 x4 x5) F → hg_G X l (hg_rm 3 73 Z) D 7 S 158 [(0, va_rf (some o)), (2, va_rf x2), (3, .int x3), (4, va_rf x4), (5, .int x5)] [] := fun S x2 x3 x4 x5 h => loop_158 x2 x3 x4 (S, x5) (dc_bind h)
  show hg_G X l (hg_rm 3 73 Z) D 7 Z 0 [(0, va_rf (some o)), (1, va_rf p1)] []
  have h : dc_wp (hm_PG_init G Z o p1) F := h
  delta hm_PG_init at h
  refine hg_aloadn (pc := 0) (j := 0) (i := 0) (r := (some o)) hC 0 rfl rfl (show decode prog_11_method_1_code 0 = .ok (.aload_n 0, 1) by decide +kernel) ?_
  refine hg_oi (pc := 1) (a := o) hC w_864 w_40 w_41 (show decode prog_11_method_1_code 1 = .ok (.invokespecial 3, 3) by decide +kernel) (Nat.le_of_ble_eq_true rfl) (Nat.le_of_ble_eq_true rfl) ?_
  refine hg_aloadn (pc := 4) (j := 1) (i := 1) (r := p1) hC 1 rfl rfl (show decode prog_11_method_1_code 4 = .ok (.aload_n 1, 1) by decide +kernel) ?_
  refine hg_rgr (pc := 5) (r := p1) hC fl_SignalEngine_Program_9 (show decode prog_11_method_1_code 5 = .ok (.getfield 9, 3) by decide +kernel) h ?_
  intro e23 h
  refine hg_astoren (pc := 8) (j := 2) (i := 2) (r := e23) (lv' := [(2, va_rf e23), (0, va_rf (some o)), (1, va_rf p1)]) hC rfl (Nat.le_of_ble_eq_true rfl) (by simp [va_rf_cat, hg_cti]) (show decode prog_11_method_1_code 8 = .ok (.astore_n 2, 1) by decide +kernel) ?_
  refine hg_aloadn (pc := 9) (j := 2) (i := 2) (r := e23) hC 0 rfl rfl (show decode prog_11_method_1_code 9 = .ok (.aload_n 2, 1) by decide +kernel) ?_
  refine hg_rgr (pc := 10) (r := e23) hC fl_SignalEngine_Program_15 (show decode prog_11_method_1_code 10 = .ok (.getfield 15, 3) by decide +kernel) h ?_
  intro e24 h
  obtain ⟨b25, hb26, h⟩ := dc_bind h
  obtain ⟨hb26, hv27⟩ := hg_chk_of (C := R_AL) rfl hb26
  refine hg_kVi (pc := 13) (b := b25) (r := e24) (As := []) (rest := []) (vo := fun q => q) (so := fun q => Z) hC cw_SignalEngine_Program_21 (fun q hq => hm_AL_size_ok l D G Z b25 q hq) (Nat.le_of_ble_eq_true rfl) (Nat.le_of_ble_eq_true rfl) hb26 hv27 rfl (Nat.le_of_ble_eq_true rfl) (show decode prog_11_method_1_code 13 = .ok (.invokevirtual 21, 3) by decide +kernel) h ?_
  intro q28 h
  refine hg_istoren (pc := 16) (j := 3) (i := 3) (lv' := [(3, .int q28), (2, va_rf e23), (0, va_rf (some o)), (1, va_rf p1)]) hC rfl (Nat.le_of_ble_eq_true rfl) (by simp [va_rf_cat, hg_cti]) (show decode prog_11_method_1_code 16 = .ok (.istore_n 3, 1) by decide +kernel) ?_
  refine hg_aloadn (pc := 17) (j := 0) (i := 0) (r := (some o)) hC 2 rfl rfl (show decode prog_11_method_1_code 17 = .ok (.aload_n 0, 1) by decide +kernel) ?_
  refine hg_aloadn (pc := 18) (j := 1) (i := 1) (r := p1) hC 3 rfl rfl (show decode prog_11_method_1_code 18 = .ok (.aload_n 1, 1) by decide +kernel) ?_
  refine hg_rgr (pc := 19) (r := p1) hC fl_SignalEngine_Program_27 (show decode prog_11_method_1_code 19 = .ok (.getfield 27, 3) by decide +kernel) h ?_
  intro e29 h
  refine hg_rputF (pc := 22) (r := (some o)) (v := va_rf e29) hC hR fp_SignalEngine_Program_31 (hg_nr _).1 (hg_nr _).2 (show decode prog_11_method_1_code 22 = .ok (.putfield 31, 3) by decide +kernel) h ?_
  intro S30 h
  refine hg_aloadn (pc := 25) (j := 0) (i := 0) (r := (some o)) hC 2 rfl rfl (show decode prog_11_method_1_code 25 = .ok (.aload_n 0, 1) by decide +kernel) ?_
  refine hg_aloadn (pc := 26) (j := 1) (i := 1) (r := p1) hC 3 rfl rfl (show decode prog_11_method_1_code 26 = .ok (.aload_n 1, 1) by decide +kernel) ?_
  refine hg_rgi (pc := 27) (r := p1) hC fl_SignalEngine_Program_36 (show decode prog_11_method_1_code 27 = .ok (.getfield 36, 3) by decide +kernel) h ?_
  intro e31 h
  refine hg_rputF (pc := 30) (r := (some o)) (v := .int e31) hC hR fp_SignalEngine_Program_40 rfl rfl (show decode prog_11_method_1_code 30 = .ok (.putfield 40, 3) by decide +kernel) h ?_
  intro S32 h
  refine hg_aloadn (pc := 33) (j := 0) (i := 0) (r := (some o)) hC 2 rfl rfl (show decode prog_11_method_1_code 33 = .ok (.aload_n 0, 1) by decide +kernel) ?_
  refine hg_aloadn (pc := 34) (j := 1) (i := 1) (r := p1) hC 3 rfl rfl (show decode prog_11_method_1_code 34 = .ok (.aload_n 1, 1) by decide +kernel) ?_
  refine hg_rgi (pc := 35) (r := p1) hC fl_SignalEngine_Program_41 (show decode prog_11_method_1_code 35 = .ok (.getfield 41, 3) by decide +kernel) h ?_
  intro e33 h
  refine hg_rputF (pc := 38) (r := (some o)) (v := .int e33) hC hR fp_SignalEngine_Program_44 rfl rfl (show decode prog_11_method_1_code 38 = .ok (.putfield 44, 3) by decide +kernel) h ?_
  intro S34 h
  refine hg_aloadn (pc := 41) (j := 0) (i := 0) (r := (some o)) hC 2 rfl rfl (show decode prog_11_method_1_code 41 = .ok (.aload_n 0, 1) by decide +kernel) ?_
  refine hg_aloadn (pc := 42) (j := 2) (i := 2) (r := e23) hC 1 rfl rfl (show decode prog_11_method_1_code 42 = .ok (.aload_n 2, 1) by decide +kernel) ?_
  refine hg_rgi (pc := 43) (r := e23) hC fl_SignalEngine_Program_45 (show decode prog_11_method_1_code 43 = .ok (.getfield 45, 3) by decide +kernel) h ?_
  intro e35 h
  refine hg_rputF (pc := 46) (r := (some o)) (v := .int e35) hC hR fp_SignalEngine_Program_48 rfl rfl (show decode prog_11_method_1_code 46 = .ok (.putfield 48, 3) by decide +kernel) h ?_
  intro S36 h
  refine hg_aloadn (pc := 49) (j := 0) (i := 0) (r := (some o)) hC 2 rfl rfl (show decode prog_11_method_1_code 49 = .ok (.aload_n 0, 1) by decide +kernel) ?_
  refine hg_aloadn (pc := 50) (j := 2) (i := 2) (r := e23) hC 1 rfl rfl (show decode prog_11_method_1_code 50 = .ok (.aload_n 2, 1) by decide +kernel) ?_
  refine hg_rgi (pc := 51) (r := e23) hC fl_SignalEngine_Program_49 (show decode prog_11_method_1_code 51 = .ok (.getfield 49, 3) by decide +kernel) h ?_
  intro e37 h
  refine hg_rputF (pc := 54) (r := (some o)) (v := .int e37) hC hR fp_SignalEngine_Program_52 rfl rfl (show decode prog_11_method_1_code 54 = .ok (.putfield 52, 3) by decide +kernel) h ?_
  intro S38 h
  refine hg_aloadn (pc := 57) (j := 0) (i := 0) (r := (some o)) hC 2 rfl rfl (show decode prog_11_method_1_code 57 = .ok (.aload_n 0, 1) by decide +kernel) ?_
  refine hg_aloadn (pc := 58) (j := 2) (i := 2) (r := e23) hC 1 rfl rfl (show decode prog_11_method_1_code 58 = .ok (.aload_n 2, 1) by decide +kernel) ?_
  refine hg_rgi (pc := 59) (r := e23) hC fl_SignalEngine_Program_53 (show decode prog_11_method_1_code 59 = .ok (.getfield 53, 3) by decide +kernel) h ?_
  intro e39 h
  refine hg_rputF (pc := 62) (r := (some o)) (v := .int e39) hC hR fp_SignalEngine_Program_56 rfl rfl (show decode prog_11_method_1_code 62 = .ok (.putfield 56, 3) by decide +kernel) h ?_
  intro S40 h
  refine hg_aloadn (pc := 65) (j := 0) (i := 0) (r := (some o)) hC 2 rfl rfl (show decode prog_11_method_1_code 65 = .ok (.aload_n 0, 1) by decide +kernel) ?_
  refine hg_rnew (pc := 66) hC nw_SignalEngine_Program_57 (show decode prog_11_method_1_code 66 = .ok (.new 57, 3) by decide +kernel) h ?_
  intro S41 h
  refine hg_dup (pc := 69) hC (show decode prog_11_method_1_code 69 = .ok (.dup, 1) by decide +kernel) (va_rf_cat _) ?_
  refine hg_aloadn (pc := 70) (j := 2) (i := 2) (r := e23) hC 1 rfl rfl (show decode prog_11_method_1_code 70 = .ok (.aload_n 2, 1) by decide +kernel) ?_
  refine hg_rgi (pc := 71) (r := e23) hC fl_SignalEngine_Program_59 (show decode prog_11_method_1_code 71 = .ok (.getfield 59, 3) by decide +kernel) h ?_
  intro e42 h
  refine hg_kIv (pc := 74) (b := S40.2.1) (r := (some S40.2.1)) (As := [.int e42]) (rest := [va_rf (some S40.2.1), va_rf (some o)]) (so := fun q => q) hC cw_SignalEngine_Program_62 (fun q hq => hm_PI_init_ok l D G S41 S40.2.1 e42 q hq) (Nat.le_of_ble_eq_true rfl) (Nat.le_of_ble_eq_true rfl) rfl rfl (by simp only [List.map, va_rf_cat]; exact Nat.le_of_ble_eq_true rfl) (show decode prog_11_method_1_code 74 = .ok (.invokespecial 62, 3) by decide +kernel) h ?_
  intro q43 h
  refine hg_rputF (pc := 77) (r := (some o)) (v := va_rf (some S40.2.1)) hC hR fp_SignalEngine_Program_65 (hg_nr _).1 (hg_nr _).2 (show decode prog_11_method_1_code 77 = .ok (.putfield 65, 3) by decide +kernel) h ?_
  intro S44 h
  refine hg_aloadn (pc := 80) (j := 0) (i := 0) (r := (some o)) hC 2 rfl rfl (show decode prog_11_method_1_code 80 = .ok (.aload_n 0, 1) by decide +kernel) ?_
  refine hg_iloadn (pc := 81) (j := 3) (i := 3) hC 0 rfl rfl (show decode prog_11_method_1_code 81 = .ok (.iload_n 3, 1) by decide +kernel) ?_
  refine hg_rnewa (pc := 82) (t := 0) (atype := .int) hC rfl rfl (fun _ h9 => h9) rfl (by decide) w_197 (show decode prog_11_method_1_code 82 = .ok (.newarray .int, 2) by decide +kernel) h ?_
  intro S45 h
  refine hg_rputF (pc := 84) (r := (some o)) (v := va_rf (some S44.2.1)) hC hR fp_SignalEngine_Program_69 (hg_na _).1 (hg_na _).2 (show decode prog_11_method_1_code 84 = .ok (.putfield 69, 3) by decide +kernel) h ?_
  intro S46 h
  refine hg_aloadn (pc := 87) (j := 0) (i := 0) (r := (some o)) hC 2 rfl rfl (show decode prog_11_method_1_code 87 = .ok (.aload_n 0, 1) by decide +kernel) ?_
  refine hg_iloadn (pc := 88) (j := 3) (i := 3) hC 0 rfl rfl (show decode prog_11_method_1_code 88 = .ok (.iload_n 3, 1) by decide +kernel) ?_
  refine hg_rnewa (pc := 89) (t := 0) (atype := .int) hC rfl rfl (fun _ h9 => h9) rfl (by decide) w_197 (show decode prog_11_method_1_code 89 = .ok (.newarray .int, 2) by decide +kernel) h ?_
  intro S47 h
  refine hg_rputF (pc := 91) (r := (some o)) (v := va_rf (some S46.2.1)) hC hR fp_SignalEngine_Program_73 (hg_na _).1 (hg_na _).2 (show decode prog_11_method_1_code 91 = .ok (.putfield 73, 3) by decide +kernel) h ?_
  intro S48 h
  refine hg_aloadn (pc := 94) (j := 0) (i := 0) (r := (some o)) hC 2 rfl rfl (show decode prog_11_method_1_code 94 = .ok (.aload_n 0, 1) by decide +kernel) ?_
  refine hg_iloadn (pc := 95) (j := 3) (i := 3) hC 0 rfl rfl (show decode prog_11_method_1_code 95 = .ok (.iload_n 3, 1) by decide +kernel) ?_
  refine hg_rnewa (pc := 96) (t := 0) (atype := .int) hC rfl rfl (fun _ h9 => h9) rfl (by decide) w_197 (show decode prog_11_method_1_code 96 = .ok (.newarray .int, 2) by decide +kernel) h ?_
  intro S49 h
  refine hg_rputF (pc := 98) (r := (some o)) (v := va_rf (some S48.2.1)) hC hR fp_SignalEngine_Program_76 (hg_na _).1 (hg_na _).2 (show decode prog_11_method_1_code 98 = .ok (.putfield 76, 3) by decide +kernel) h ?_
  intro S50 h
  refine hg_aloadn (pc := 101) (j := 0) (i := 0) (r := (some o)) hC 2 rfl rfl (show decode prog_11_method_1_code 101 = .ok (.aload_n 0, 1) by decide +kernel) ?_
  refine hg_iloadn (pc := 102) (j := 3) (i := 3) hC 0 rfl rfl (show decode prog_11_method_1_code 102 = .ok (.iload_n 3, 1) by decide +kernel) ?_
  refine hg_rnewa (pc := 103) (t := 0) (atype := .int) hC rfl rfl (fun _ h9 => h9) rfl (by decide) w_197 (show decode prog_11_method_1_code 103 = .ok (.newarray .int, 2) by decide +kernel) h ?_
  intro S51 h
  refine hg_rputF (pc := 105) (r := (some o)) (v := va_rf (some S50.2.1)) hC hR fp_SignalEngine_Program_79 (hg_na _).1 (hg_na _).2 (show decode prog_11_method_1_code 105 = .ok (.putfield 79, 3) by decide +kernel) h ?_
  intro S52 h
  refine hg_aloadn (pc := 108) (j := 0) (i := 0) (r := (some o)) hC 2 rfl rfl (show decode prog_11_method_1_code 108 = .ok (.aload_n 0, 1) by decide +kernel) ?_
  refine hg_iloadn (pc := 109) (j := 3) (i := 3) hC 0 rfl rfl (show decode prog_11_method_1_code 109 = .ok (.iload_n 3, 1) by decide +kernel) ?_
  refine hg_rnewa (pc := 110) (t := 0) (atype := .int) hC rfl rfl (fun _ h9 => h9) rfl (by decide) w_197 (show decode prog_11_method_1_code 110 = .ok (.newarray .int, 2) by decide +kernel) h ?_
  intro S53 h
  refine hg_rputF (pc := 112) (r := (some o)) (v := va_rf (some S52.2.1)) hC hR fp_SignalEngine_Program_82 (hg_na _).1 (hg_na _).2 (show decode prog_11_method_1_code 112 = .ok (.putfield 82, 3) by decide +kernel) h ?_
  intro S54 h
  refine hg_aloadn (pc := 115) (j := 0) (i := 0) (r := (some o)) hC 2 rfl rfl (show decode prog_11_method_1_code 115 = .ok (.aload_n 0, 1) by decide +kernel) ?_
  refine hg_iloadn (pc := 116) (j := 3) (i := 3) hC 0 rfl rfl (show decode prog_11_method_1_code 116 = .ok (.iload_n 3, 1) by decide +kernel) ?_
  refine hg_rnewa (pc := 117) (t := 0) (atype := .int) hC rfl rfl (fun _ h9 => h9) rfl (by decide) w_197 (show decode prog_11_method_1_code 117 = .ok (.newarray .int, 2) by decide +kernel) h ?_
  intro S55 h
  refine hg_rputF (pc := 119) (r := (some o)) (v := va_rf (some S54.2.1)) hC hR fp_SignalEngine_Program_85 (hg_na _).1 (hg_na _).2 (show decode prog_11_method_1_code 119 = .ok (.putfield 85, 3) by decide +kernel) h ?_
  intro S56 h
  refine hg_aloadn (pc := 122) (j := 0) (i := 0) (r := (some o)) hC 2 rfl rfl (show decode prog_11_method_1_code 122 = .ok (.aload_n 0, 1) by decide +kernel) ?_
  refine hg_iloadn (pc := 123) (j := 3) (i := 3) hC 0 rfl rfl (show decode prog_11_method_1_code 123 = .ok (.iload_n 3, 1) by decide +kernel) ?_
  refine hg_rnewa (pc := 124) (t := 0) (atype := .int) hC rfl rfl (fun _ h9 => h9) rfl (by decide) w_197 (show decode prog_11_method_1_code 124 = .ok (.newarray .int, 2) by decide +kernel) h ?_
  intro S57 h
  refine hg_rputF (pc := 126) (r := (some o)) (v := va_rf (some S56.2.1)) hC hR fp_SignalEngine_Program_88 (hg_na _).1 (hg_na _).2 (show decode prog_11_method_1_code 126 = .ok (.putfield 88, 3) by decide +kernel) h ?_
  intro S58 h
  refine hg_aloadn (pc := 129) (j := 0) (i := 0) (r := (some o)) hC 2 rfl rfl (show decode prog_11_method_1_code 129 = .ok (.aload_n 0, 1) by decide +kernel) ?_
  refine hg_iloadn (pc := 130) (j := 3) (i := 3) hC 0 rfl rfl (show decode prog_11_method_1_code 130 = .ok (.iload_n 3, 1) by decide +kernel) ?_
  refine hg_rnewa (pc := 131) (t := 0) (atype := .int) hC rfl rfl (fun _ h9 => h9) rfl (by decide) w_197 (show decode prog_11_method_1_code 131 = .ok (.newarray .int, 2) by decide +kernel) h ?_
  intro S59 h
  refine hg_rputF (pc := 133) (r := (some o)) (v := va_rf (some S58.2.1)) hC hR fp_SignalEngine_Program_91 (hg_na _).1 (hg_na _).2 (show decode prog_11_method_1_code 133 = .ok (.putfield 91, 3) by decide +kernel) h ?_
  intro S60 h
  refine hg_aloadn (pc := 136) (j := 0) (i := 0) (r := (some o)) hC 2 rfl rfl (show decode prog_11_method_1_code 136 = .ok (.aload_n 0, 1) by decide +kernel) ?_
  refine hg_iloadn (pc := 137) (j := 3) (i := 3) hC 0 rfl rfl (show decode prog_11_method_1_code 137 = .ok (.iload_n 3, 1) by decide +kernel) ?_
  refine hg_rnewa (pc := 138) (t := 0) (atype := .int) hC rfl rfl (fun _ h9 => h9) rfl (by decide) w_197 (show decode prog_11_method_1_code 138 = .ok (.newarray .int, 2) by decide +kernel) h ?_
  intro S61 h
  refine hg_rputF (pc := 140) (r := (some o)) (v := va_rf (some S60.2.1)) hC hR fp_SignalEngine_Program_94 (hg_na _).1 (hg_na _).2 (show decode prog_11_method_1_code 140 = .ok (.putfield 94, 3) by decide +kernel) h ?_
  intro S62 h
  refine hg_aloadn (pc := 143) (j := 0) (i := 0) (r := (some o)) hC 2 rfl rfl (show decode prog_11_method_1_code 143 = .ok (.aload_n 0, 1) by decide +kernel) ?_
  refine hg_iloadn (pc := 144) (j := 3) (i := 3) hC 0 rfl rfl (show decode prog_11_method_1_code 144 = .ok (.iload_n 3, 1) by decide +kernel) ?_
  refine hg_rnewa (pc := 145) (t := 0) (atype := .int) hC rfl rfl (fun _ h9 => h9) rfl (by decide) w_197 (show decode prog_11_method_1_code 145 = .ok (.newarray .int, 2) by decide +kernel) h ?_
  intro S63 h
  refine hg_rputF (pc := 147) (r := (some o)) (v := va_rf (some S62.2.1)) hC hR fp_SignalEngine_Program_97 (hg_na _).1 (hg_na _).2 (show decode prog_11_method_1_code 147 = .ok (.putfield 97, 3) by decide +kernel) h ?_
  intro S64 h
  refine hg_iloadn (pc := 150) (j := 3) (i := 3) hC 0 rfl rfl (show decode prog_11_method_1_code 150 = .ok (.iload_n 3, 1) by decide +kernel) ?_
  refine hg_rnewa (pc := 151) (t := 0) (atype := .int) hC rfl rfl (fun _ h9 => h9) rfl (by decide) w_197 (show decode prog_11_method_1_code 151 = .ok (.newarray .int, 2) by decide +kernel) h ?_
  intro S65 h
  refine hg_letR h ?_
  intro v66 h
  refine hg_astore (pc := 153) (i := 4) (r := v66) (lv' := [(4, va_rf v66), (3, .int q28), (2, va_rf e23), (0, va_rf (some o)), (1, va_rf p1)]) hC (Nat.le_of_ble_eq_true rfl) rfl (show decode prog_11_method_1_code 153 = .ok (.astore 4, 2) by decide +kernel) ?_
  refine hg_iconst (pc := 155) (v := 0) hC (show decode prog_11_method_1_code 155 = .ok (.iconst 0, 1) by decide +kernel) (by decide +kernel) ?_
  refine hg_istore (pc := 156) (i := 5) (lv' := [(5, .int 0), (4, va_rf v66), (3, .int q28), (2, va_rf e23), (0, va_rf (some o)), (1, va_rf p1)]) hC (Nat.le_of_ble_eq_true rfl) (by simp [va_rf_cat, hg_cti]) (show decode prog_11_method_1_code 156 = .ok (.istore 5, 2) by decide +kernel) ?_
  exact hg_sub [4, 3, 2, 1, 0] rfl (lab_158 S65 e23 q28 v66 0 h)
