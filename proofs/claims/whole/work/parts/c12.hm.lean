noncomputable def hm_RE_init (G : hg_E) (S : hg_S) (o : Nat) (p1 : Option Nat) : Option (hg_S) :=
  (hg_pf S (some o) 10 0 (va_rf p1)).bind fun S1 => (hg_gr S1 p1 9 7).bind fun e2 => (hg_ln S1 e2 (G.1 0)).bind fun e3 => (hg_gr S1 p1 9 0).bind fun e4 => (hg_gi S1 e4 3 4).bind fun e5 => (hg_newa G S1 0 e5).bind fun S6 => (hg_pf S6 (some o) 10 3 (va_rf (some S1.2.1))).bind fun S7 => (hg_gr S7 p1 9 0).bind fun e8 => (hg_gi S7 e8 3 4).bind fun e9 => (hg_newa G S7 0 e9).bind fun S10 => (hg_pf S10 (some o) 10 4 (va_rf (some S7.2.1))).bind fun S11 => (hg_chk S11 (some o) 10).bind fun b12 => (hm_RE_givePlaces G S11 b12).bind fun q15 => (hg_newa G q15.1 0 q15.2).bind fun S16 => (hg_pf S16 (some o) 10 1 (va_rf (some q15.1.2.1))).bind fun S17 => (hg_newa G S17 0 q15.2).bind fun S18 => (hg_pf S18 (some o) 10 2 (va_rf (some S17.2.1))).bind fun S19 => (hg_gr S19 p1 9 6).bind fun e20 => (hg_gi S19 e20 5 5).bind fun e21 => (hg_newa G S19 0 e21).bind fun S22 => (hg_pf S22 (some o) 10 5 (va_rf (some S19.2.1))).bind fun S23 => (hg_newa G S23 0 e3).bind fun S24 => (hg_pf S24 (some o) 10 6 (va_rf (some S23.2.1))).bind fun S25 => (hg_newa G S25 0 e3).bind fun S26 => (hg_pf S26 (some o) 10 7 (va_rf (some S25.2.1))).bind fun S27 => (hg_newa G S27 0 e3).bind fun S28 => (hg_pf S28 (some o) 10 8 (va_rf (some S27.2.1))).bind fun S29 => (hg_newa G S29 2 e3).bind fun S30 => (hg_pf S30 (some o) 10 9 (va_rf (some S29.2.1))).bind fun S31 => (hg_gi S31 p1 9 3).bind fun e32 => (hg_newa G S31 0 (e32 + 1)).bind fun S33 => (hg_pf S33 (some o) 10 10 (va_rf (some S31.2.1))).bind fun S34 => (hg_gi S34 p1 9 3).bind fun e35 => (hg_newa G S34 2 e35).bind fun S36 => (hg_pf S36 (some o) 10 11 (va_rf (some S34.2.1))).bind fun S37 => some S37
set_option maxHeartbeats 4000000 in
set_option maxRecDepth 100000 in
/-- SignalEngine$Reactor.<init>(LSignalEngine$Program;)V -/
theorem hm_RE_init_ok (l : Launch) (D : va_G) (G : hg_E) (Z : hg_S) (o : Nat) (p1 : Option Nat) (q : hg_S) (hq : hm_RE_init G Z o p1 = some q) : hg_C l ⟨"SignalEngine$Reactor", "<init>", "(LSignalEngine$Program;)V"⟩ prog_12_method_1_code 4 none 1 22 D G [.ref o, va_rf p1] Z (.inl (none, q) : hg_O) := by
  refine hg_start (cv := fun q => (.inl (none, q) : hg_O)) hq ?_
  intro F hF h
  refine hg_enter (lv := [(0, va_rf (some o)), (1, va_rf p1)]) (by decide +kernel) (by simp [lg_sl, va_rf_cat, hg_cti, hg_ctr]) (by simp [lv_args, va_rf_cat, va_rf_some, hg_cti, hg_ctr]) ?_
  intro X hC hR
  show hg_G X l (hg_rm 1 22 Z) D 4 Z 0 [(0, va_rf (some o)), (1, va_rf p1)] []
  have h : dc_wp (hm_RE_init G Z o p1) F := h
  delta hm_RE_init at h
  refine hg_aloadn (pc := 0) (j := 0) (i := 0) (r := (some o)) hC 0 rfl rfl (show decode prog_12_method_1_code 0 = .ok (.aload_n 0, 1) by decide +kernel) ?_
  refine hg_oi (pc := 1) (a := o) hC w_979 w_40 w_41 (show decode prog_12_method_1_code 1 = .ok (.invokespecial 3, 3) by decide +kernel) (Nat.le_of_ble_eq_true rfl) (Nat.le_of_ble_eq_true rfl) ?_
  refine hg_aloadn (pc := 4) (j := 0) (i := 0) (r := (some o)) hC 0 rfl rfl (show decode prog_12_method_1_code 4 = .ok (.aload_n 0, 1) by decide +kernel) ?_
  refine hg_aloadn (pc := 5) (j := 1) (i := 1) (r := p1) hC 1 rfl rfl (show decode prog_12_method_1_code 5 = .ok (.aload_n 1, 1) by decide +kernel) ?_
  refine hg_rputF (pc := 6) (r := (some o)) (v := va_rf p1) hC hR fp_SignalEngine_Reactor_9 (hg_nr _).1 (hg_nr _).2 (show decode prog_12_method_1_code 6 = .ok (.putfield 9, 3) by decide +kernel) h ?_
  intro S1 h
  refine hg_aloadn (pc := 9) (j := 1) (i := 1) (r := p1) hC 1 rfl rfl (show decode prog_12_method_1_code 9 = .ok (.aload_n 1, 1) by decide +kernel) ?_
  refine hg_rgr (pc := 10) (r := p1) hC fl_SignalEngine_Reactor_15 (show decode prog_12_method_1_code 10 = .ok (.getfield 15, 3) by decide +kernel) h ?_
  intro e2 h
  refine hg_rlen (pc := 13) (r := e2) (t := 0) hC rfl (show decode prog_12_method_1_code 13 = .ok (.arraylength, 1) by decide +kernel) h ?_
  intro e3 h
  refine hg_istoren (pc := 14) (j := 2) (i := 2) (lv' := [(2, .int e3), (0, va_rf (some o)), (1, va_rf p1)]) hC rfl (Nat.le_of_ble_eq_true rfl) (by simp [va_rf_cat, hg_cti]) (show decode prog_12_method_1_code 14 = .ok (.istore_n 2, 1) by decide +kernel) ?_
  refine hg_aloadn (pc := 15) (j := 0) (i := 0) (r := (some o)) hC 1 rfl rfl (show decode prog_12_method_1_code 15 = .ok (.aload_n 0, 1) by decide +kernel) ?_
  refine hg_aloadn (pc := 16) (j := 1) (i := 1) (r := p1) hC 2 rfl rfl (show decode prog_12_method_1_code 16 = .ok (.aload_n 1, 1) by decide +kernel) ?_
  refine hg_rgr (pc := 17) (r := p1) hC fl_SignalEngine_Reactor_21 (show decode prog_12_method_1_code 17 = .ok (.getfield 21, 3) by decide +kernel) h ?_
  intro e4 h
  refine hg_rgi (pc := 20) (r := e4) hC fl_SignalEngine_Reactor_25 (show decode prog_12_method_1_code 20 = .ok (.getfield 25, 3) by decide +kernel) h ?_
  intro e5 h
  refine hg_rnewa (pc := 23) (t := 0) (atype := .int) hC rfl rfl (fun _ h9 => h9) rfl (by decide) w_197 (show decode prog_12_method_1_code 23 = .ok (.newarray .int, 2) by decide +kernel) h ?_
  intro S6 h
  refine hg_rputF (pc := 25) (r := (some o)) (v := va_rf (some S1.2.1)) hC hR fp_SignalEngine_Reactor_31 (hg_na _).1 (hg_na _).2 (show decode prog_12_method_1_code 25 = .ok (.putfield 31, 3) by decide +kernel) h ?_
  intro S7 h
  refine hg_aloadn (pc := 28) (j := 0) (i := 0) (r := (some o)) hC 1 rfl rfl (show decode prog_12_method_1_code 28 = .ok (.aload_n 0, 1) by decide +kernel) ?_
  refine hg_aloadn (pc := 29) (j := 1) (i := 1) (r := p1) hC 2 rfl rfl (show decode prog_12_method_1_code 29 = .ok (.aload_n 1, 1) by decide +kernel) ?_
  refine hg_rgr (pc := 30) (r := p1) hC fl_SignalEngine_Reactor_21 (show decode prog_12_method_1_code 30 = .ok (.getfield 21, 3) by decide +kernel) h ?_
  intro e8 h
  refine hg_rgi (pc := 33) (r := e8) hC fl_SignalEngine_Reactor_25 (show decode prog_12_method_1_code 33 = .ok (.getfield 25, 3) by decide +kernel) h ?_
  intro e9 h
  refine hg_rnewa (pc := 36) (t := 0) (atype := .int) hC rfl rfl (fun _ h9 => h9) rfl (by decide) w_197 (show decode prog_12_method_1_code 36 = .ok (.newarray .int, 2) by decide +kernel) h ?_
  intro S10 h
  refine hg_rputF (pc := 38) (r := (some o)) (v := va_rf (some S7.2.1)) hC hR fp_SignalEngine_Reactor_34 (hg_na _).1 (hg_na _).2 (show decode prog_12_method_1_code 38 = .ok (.putfield 34, 3) by decide +kernel) h ?_
  intro S11 h
  refine hg_aloadn (pc := 41) (j := 0) (i := 0) (r := (some o)) hC 1 rfl rfl (show decode prog_12_method_1_code 41 = .ok (.aload_n 0, 1) by decide +kernel) ?_
  obtain ⟨b12, hb13, h⟩ := dc_bind h
  obtain ⟨hb13, hv14⟩ := hg_chk_of (C := R_RE) rfl hb13
  refine hg_kVi (pc := 42) (b := b12) (r := (some o)) (As := []) (rest := []) (vo := fun q => q.2) (so := fun q => q.1) hC cw_SignalEngine_Reactor_37 (fun q hq => hm_RE_givePlaces_ok l D G S11 b12 q hq) (Nat.le_of_ble_eq_true rfl) (Nat.le_of_ble_eq_true rfl) hb13 hv14 rfl (Nat.le_of_ble_eq_true rfl) (show decode prog_12_method_1_code 42 = .ok (.invokevirtual 37, 3) by decide +kernel) h ?_
  intro q15 h
  refine hg_istoren (pc := 45) (j := 3) (i := 3) (lv' := [(3, .int q15.2), (2, .int e3), (0, va_rf (some o)), (1, va_rf p1)]) hC rfl (Nat.le_of_ble_eq_true rfl) rfl (show decode prog_12_method_1_code 45 = .ok (.istore_n 3, 1) by decide +kernel) ?_
  refine hg_aloadn (pc := 46) (j := 0) (i := 0) (r := (some o)) hC 2 rfl rfl (show decode prog_12_method_1_code 46 = .ok (.aload_n 0, 1) by decide +kernel) ?_
  refine hg_iloadn (pc := 47) (j := 3) (i := 3) hC 0 rfl rfl (show decode prog_12_method_1_code 47 = .ok (.iload_n 3, 1) by decide +kernel) ?_
  refine hg_rnewa (pc := 48) (t := 0) (atype := .int) hC rfl rfl (fun _ h9 => h9) rfl (by decide) w_197 (show decode prog_12_method_1_code 48 = .ok (.newarray .int, 2) by decide +kernel) h ?_
  intro S16 h
  refine hg_rputF (pc := 50) (r := (some o)) (v := va_rf (some q15.1.2.1)) hC hR fp_SignalEngine_Reactor_41 (hg_na _).1 (hg_na _).2 (show decode prog_12_method_1_code 50 = .ok (.putfield 41, 3) by decide +kernel) h ?_
  intro S17 h
  refine hg_aloadn (pc := 53) (j := 0) (i := 0) (r := (some o)) hC 2 rfl rfl (show decode prog_12_method_1_code 53 = .ok (.aload_n 0, 1) by decide +kernel) ?_
  refine hg_iloadn (pc := 54) (j := 3) (i := 3) hC 0 rfl rfl (show decode prog_12_method_1_code 54 = .ok (.iload_n 3, 1) by decide +kernel) ?_
  refine hg_rnewa (pc := 55) (t := 0) (atype := .int) hC rfl rfl (fun _ h9 => h9) rfl (by decide) w_197 (show decode prog_12_method_1_code 55 = .ok (.newarray .int, 2) by decide +kernel) h ?_
  intro S18 h
  refine hg_rputF (pc := 57) (r := (some o)) (v := va_rf (some S17.2.1)) hC hR fp_SignalEngine_Reactor_44 (hg_na _).1 (hg_na _).2 (show decode prog_12_method_1_code 57 = .ok (.putfield 44, 3) by decide +kernel) h ?_
  intro S19 h
  refine hg_aloadn (pc := 60) (j := 0) (i := 0) (r := (some o)) hC 2 rfl rfl (show decode prog_12_method_1_code 60 = .ok (.aload_n 0, 1) by decide +kernel) ?_
  refine hg_aloadn (pc := 61) (j := 1) (i := 1) (r := p1) hC 3 rfl rfl (show decode prog_12_method_1_code 61 = .ok (.aload_n 1, 1) by decide +kernel) ?_
  refine hg_rgr (pc := 62) (r := p1) hC fl_SignalEngine_Reactor_47 (show decode prog_12_method_1_code 62 = .ok (.getfield 47, 3) by decide +kernel) h ?_
  intro e20 h
  refine hg_rgi (pc := 65) (r := e20) hC fl_SignalEngine_Reactor_51 (show decode prog_12_method_1_code 65 = .ok (.getfield 51, 3) by decide +kernel) h ?_
  intro e21 h
  refine hg_rnewa (pc := 68) (t := 0) (atype := .int) hC rfl rfl (fun _ h9 => h9) rfl (by decide) w_197 (show decode prog_12_method_1_code 68 = .ok (.newarray .int, 2) by decide +kernel) h ?_
  intro S22 h
  refine hg_rputF (pc := 70) (r := (some o)) (v := va_rf (some S19.2.1)) hC hR fp_SignalEngine_Reactor_54 (hg_na _).1 (hg_na _).2 (show decode prog_12_method_1_code 70 = .ok (.putfield 54, 3) by decide +kernel) h ?_
  intro S23 h
  refine hg_aloadn (pc := 73) (j := 0) (i := 0) (r := (some o)) hC 2 rfl rfl (show decode prog_12_method_1_code 73 = .ok (.aload_n 0, 1) by decide +kernel) ?_
  refine hg_iloadn (pc := 74) (j := 2) (i := 2) hC 1 rfl rfl (show decode prog_12_method_1_code 74 = .ok (.iload_n 2, 1) by decide +kernel) ?_
  refine hg_rnewa (pc := 75) (t := 0) (atype := .int) hC rfl rfl (fun _ h9 => h9) rfl (by decide) w_197 (show decode prog_12_method_1_code 75 = .ok (.newarray .int, 2) by decide +kernel) h ?_
  intro S24 h
  refine hg_rputF (pc := 77) (r := (some o)) (v := va_rf (some S23.2.1)) hC hR fp_SignalEngine_Reactor_57 (hg_na _).1 (hg_na _).2 (show decode prog_12_method_1_code 77 = .ok (.putfield 57, 3) by decide +kernel) h ?_
  intro S25 h
  refine hg_aloadn (pc := 80) (j := 0) (i := 0) (r := (some o)) hC 2 rfl rfl (show decode prog_12_method_1_code 80 = .ok (.aload_n 0, 1) by decide +kernel) ?_
  refine hg_iloadn (pc := 81) (j := 2) (i := 2) hC 1 rfl rfl (show decode prog_12_method_1_code 81 = .ok (.iload_n 2, 1) by decide +kernel) ?_
  refine hg_rnewa (pc := 82) (t := 0) (atype := .int) hC rfl rfl (fun _ h9 => h9) rfl (by decide) w_197 (show decode prog_12_method_1_code 82 = .ok (.newarray .int, 2) by decide +kernel) h ?_
  intro S26 h
  refine hg_rputF (pc := 84) (r := (some o)) (v := va_rf (some S25.2.1)) hC hR fp_SignalEngine_Reactor_60 (hg_na _).1 (hg_na _).2 (show decode prog_12_method_1_code 84 = .ok (.putfield 60, 3) by decide +kernel) h ?_
  intro S27 h
  refine hg_aloadn (pc := 87) (j := 0) (i := 0) (r := (some o)) hC 2 rfl rfl (show decode prog_12_method_1_code 87 = .ok (.aload_n 0, 1) by decide +kernel) ?_
  refine hg_iloadn (pc := 88) (j := 2) (i := 2) hC 1 rfl rfl (show decode prog_12_method_1_code 88 = .ok (.iload_n 2, 1) by decide +kernel) ?_
  refine hg_rnewa (pc := 89) (t := 0) (atype := .int) hC rfl rfl (fun _ h9 => h9) rfl (by decide) w_197 (show decode prog_12_method_1_code 89 = .ok (.newarray .int, 2) by decide +kernel) h ?_
  intro S28 h
  refine hg_rputF (pc := 91) (r := (some o)) (v := va_rf (some S27.2.1)) hC hR fp_SignalEngine_Reactor_63 (hg_na _).1 (hg_na _).2 (show decode prog_12_method_1_code 91 = .ok (.putfield 63, 3) by decide +kernel) h ?_
  intro S29 h
  refine hg_aloadn (pc := 94) (j := 0) (i := 0) (r := (some o)) hC 2 rfl rfl (show decode prog_12_method_1_code 94 = .ok (.aload_n 0, 1) by decide +kernel) ?_
  refine hg_iloadn (pc := 95) (j := 2) (i := 2) hC 1 rfl rfl (show decode prog_12_method_1_code 95 = .ok (.iload_n 2, 1) by decide +kernel) ?_
  refine hg_rnewa (pc := 96) (t := 2) (atype := .boolean) hC rfl rfl (fun _ h9 => h9) rfl (by decide) w_1043 (show decode prog_12_method_1_code 96 = .ok (.newarray .boolean, 2) by decide +kernel) h ?_
  intro S30 h
  refine hg_rputF (pc := 98) (r := (some o)) (v := va_rf (some S29.2.1)) hC hR fp_SignalEngine_Reactor_66 (hg_na _).1 (hg_na _).2 (show decode prog_12_method_1_code 98 = .ok (.putfield 66, 3) by decide +kernel) h ?_
  intro S31 h
  refine hg_aloadn (pc := 101) (j := 0) (i := 0) (r := (some o)) hC 2 rfl rfl (show decode prog_12_method_1_code 101 = .ok (.aload_n 0, 1) by decide +kernel) ?_
  refine hg_aloadn (pc := 102) (j := 1) (i := 1) (r := p1) hC 3 rfl rfl (show decode prog_12_method_1_code 102 = .ok (.aload_n 1, 1) by decide +kernel) ?_
  refine hg_rgi (pc := 103) (r := p1) hC fl_SignalEngine_Reactor_70 (show decode prog_12_method_1_code 103 = .ok (.getfield 70, 3) by decide +kernel) h ?_
  intro e32 h
  refine hg_iconst (pc := 106) (v := 1) hC (show decode prog_12_method_1_code 106 = .ok (.iconst 1, 1) by decide +kernel) (by decide +kernel) ?_
  refine hg_iadd (pc := 107) hC (show decode prog_12_method_1_code 107 = .ok (.iadd, 1) by decide +kernel) ?_
  refine hg_rnewa (pc := 108) (t := 0) (atype := .int) hC rfl rfl (fun _ h9 => h9) rfl (by decide) w_197 (show decode prog_12_method_1_code 108 = .ok (.newarray .int, 2) by decide +kernel) h ?_
  intro S33 h
  refine hg_rputF (pc := 110) (r := (some o)) (v := va_rf (some S31.2.1)) hC hR fp_SignalEngine_Reactor_73 (hg_na _).1 (hg_na _).2 (show decode prog_12_method_1_code 110 = .ok (.putfield 73, 3) by decide +kernel) h ?_
  intro S34 h
  refine hg_aloadn (pc := 113) (j := 0) (i := 0) (r := (some o)) hC 2 rfl rfl (show decode prog_12_method_1_code 113 = .ok (.aload_n 0, 1) by decide +kernel) ?_
  refine hg_aloadn (pc := 114) (j := 1) (i := 1) (r := p1) hC 3 rfl rfl (show decode prog_12_method_1_code 114 = .ok (.aload_n 1, 1) by decide +kernel) ?_
  refine hg_rgi (pc := 115) (r := p1) hC fl_SignalEngine_Reactor_70 (show decode prog_12_method_1_code 115 = .ok (.getfield 70, 3) by decide +kernel) h ?_
  intro e35 h
  refine hg_rnewa (pc := 118) (t := 2) (atype := .boolean) hC rfl rfl (fun _ h9 => h9) rfl (by decide) w_1043 (show decode prog_12_method_1_code 118 = .ok (.newarray .boolean, 2) by decide +kernel) h ?_
  intro S36 h
  refine hg_rputF (pc := 120) (r := (some o)) (v := va_rf (some S34.2.1)) hC hR fp_SignalEngine_Reactor_76 (hg_na _).1 (hg_na _).2 (show decode prog_12_method_1_code 120 = .ok (.putfield 76, 3) by decide +kernel) h ?_
  intro S37 h
  exact hg_vret (pc := 123) hC hR (hF _ (dc_some h)) (show decode prog_12_method_1_code 123 = .ok (.return_, 1) by decide +kernel)
noncomputable def hm_SE_node_L23 (G : hg_E) (S : hg_S) (o : Nat) : Option (Int32) :=
  some (-1)
noncomputable def hm_SE_node (G : hg_E) (S : hg_S) (o : Nat) (p1 : Int32) (p2 : Int32) : Option (Int32) :=
  (hg_gr S (some o) 0 3).bind fun e1 => if e1 = none then (hm_SE_node_L23 G S o) else (if p1 < 0 then (hm_SE_node_L23 G S o) else ((hg_gr S (some o) 0 3).bind fun e2 => (hg_gr S e2 9 7).bind fun e3 => (hg_ln S e3 (G.1 0)).bind fun e4 => if p1 < e4 then (dc_let (p2 : Int32) fun v5 => if v5 = 0 then ((hg_gr S (some o) 0 3).bind fun e6 => (hg_gr S e6 9 7).bind fun e7 => (hg_ld S e7 (G.1 0) p1).bind fun e8 => some e8) else if v5 = 1 then ((hg_gr S (some o) 0 3).bind fun e10 => (hg_gr S e10 9 8).bind fun e11 => (hg_ld S e11 (G.1 0) p1).bind fun e12 => some e12) else if v5 = 2 then ((hg_gr S (some o) 0 3).bind fun e14 => (hg_gr S e14 9 9).bind fun e15 => (hg_ld S e15 (G.1 0) p1).bind fun e16 => some e16) else if v5 = 3 then ((hg_gr S (some o) 0 3).bind fun e18 => (hg_gr S e18 9 11).bind fun e19 => (hg_ld S e19 (G.1 0) p1).bind fun e20 => some e20) else if v5 = 4 then ((hg_gr S (some o) 0 3).bind fun e22 => (hg_gr S e22 9 12).bind fun e23 => (hg_ld S e23 (G.1 0) p1).bind fun e24 => some e24) else if v5 = 5 then ((hg_gr S (some o) 0 3).bind fun e26 => (hg_gr S e26 9 13).bind fun e27 => (hg_ld S e27 (G.1 0) p1).bind fun e28 => some e28) else if v5 = 6 then ((hg_gr S (some o) 0 3).bind fun e30 => (hg_gr S e30 9 14).bind fun e31 => (hg_ld S e31 (G.1 0) p1).bind fun e32 => some e32) else (some (-1))) else (hm_SE_node_L23 G S o)))
set_option maxHeartbeats 4000000 in
set_option maxRecDepth 100000 in
/-- SignalEngine.node(II)I -/
theorem hm_SE_node_ok (l : Launch) (D : va_G) (G : hg_E) (Z : hg_S) (o : Nat) (p1 : Int32) (p2 : Int32) (q : Int32) (hq : hm_SE_node G Z o p1 p2 = some q) : hg_C l ⟨"SignalEngine", "node", "(II)I"⟩ prog_1_method_7_code 3 (some (.int)) 0 0 D G [.ref o, .int p1, .int p2] Z (.inl (some (.int q), Z) : hg_O) := by
  refine hg_start (cv := fun q => (.inl (some (.int q), Z) : hg_O)) hq ?_
  intro F hF h
  refine hg_enter (lv := [(0, va_rf (some o)), (1, .int p1), (2, .int p2)]) (by decide +kernel) (by simp [lg_sl, va_rf_cat, hg_cti, hg_ctr]) (by simp [lv_args, va_rf_cat, va_rf_some, hg_cti, hg_ctr]) ?_
  intro X hC hR
  have lab_23 : dc_wp (hm_SE_node_L23 G Z o) F → hg_G X l (hg_rm 0 0 Z) D 3 Z 23 [(0, va_rf (some o))] [] := by
    intro  h
    delta hm_SE_node_L23 at h
    refine hg_iconst (pc := 23) (v := (-1)) hC (show decode prog_1_method_7_code 23 = .ok (.iconst (-1), 1) by decide +kernel) (by decide +kernel) ?_
    exact hg_iret (pc := 24) hC hR (hF _ (dc_some h)) (show decode prog_1_method_7_code 24 = .ok (.ireturn, 1) by decide +kernel)
  show hg_G X l (hg_rm 0 0 Z) D 3 Z 0 [(0, va_rf (some o)), (1, .int p1), (2, .int p2)] []
  have h : dc_wp (hm_SE_node G Z o p1 p2) F := h
  delta hm_SE_node at h
  refine hg_aloadn (pc := 0) (j := 0) (i := 0) (r := (some o)) hC 0 rfl rfl (show decode prog_1_method_7_code 0 = .ok (.aload_n 0, 1) by decide +kernel) ?_
  refine hg_rgr (pc := 1) (r := (some o)) hC fl_SignalEngine_52 (show decode prog_1_method_7_code 1 = .ok (.getfield 52, 3) by decide +kernel) h ?_
  intro e1 h
  refine hg_ifnull (pc := 4) (tgt := 23) (r := e1) hC (show decode prog_1_method_7_code 4 = .ok (.ifnull 19, 3) by decide +kernel) (by decide +kernel) h ?_ ?_
  · intro h
    exact hg_sub [0] rfl (lab_23 h)
  · intro h
    refine hg_iloadn (pc := 7) (j := 1) (i := 1) hC 1 rfl rfl (show decode prog_1_method_7_code 7 = .ok (.iload_n 1, 1) by decide +kernel) ?_
    refine hg_if_lt (pc := 8) (tgt := 23) hC (show decode prog_1_method_7_code 8 = .ok (.ifCond .lt 15, 3) by decide +kernel) (by decide +kernel) h ?_ ?_
    · intro h
      exact hg_sub [0] rfl (lab_23 h)
    · intro h
      refine hg_iloadn (pc := 11) (j := 1) (i := 1) hC 1 rfl rfl (show decode prog_1_method_7_code 11 = .ok (.iload_n 1, 1) by decide +kernel) ?_
      refine hg_aloadn (pc := 12) (j := 0) (i := 0) (r := (some o)) hC 0 rfl rfl (show decode prog_1_method_7_code 12 = .ok (.aload_n 0, 1) by decide +kernel) ?_
      refine hg_rgr (pc := 13) (r := (some o)) hC fl_SignalEngine_52 (show decode prog_1_method_7_code 13 = .ok (.getfield 52, 3) by decide +kernel) h ?_
      intro e2 h
      refine hg_rgr (pc := 16) (r := e2) hC fl_SignalEngine_97 (show decode prog_1_method_7_code 16 = .ok (.getfield 97, 3) by decide +kernel) h ?_
      intro e3 h
      refine hg_rlen (pc := 19) (r := e3) (t := 0) hC rfl (show decode prog_1_method_7_code 19 = .ok (.arraylength, 1) by decide +kernel) h ?_
      intro e4 h
      refine hg_icmp_lt (pc := 20) (tgt := 25) hC (show decode prog_1_method_7_code 20 = .ok (.if_icmp .lt 5, 3) by decide +kernel) (by decide +kernel) h ?_ ?_
      · intro h
        refine hg_iloadn (pc := 25) (j := 2) (i := 2) hC 2 rfl rfl (show decode prog_1_method_7_code 25 = .ok (.iload_n 2, 1) by decide +kernel) ?_
        refine hg_letI h ?_
        intro v5 h
        rcases dc_ite h with ⟨hk9, h2⟩ | ⟨hk9, h2⟩
        · subst hk9; clear h; have h := h2; clear h2
          refine hg_tabIn (pc := 26) (off := 42) (tgt := 68) hC dsw_prog_1_method_7_code_26 (by decide +kernel) (by decide +kernel) (by decide +kernel) (by decide +kernel) ?_
          refine hg_aloadn (pc := 68) (j := 0) (i := 0) (r := (some o)) hC 0 rfl rfl (show decode prog_1_method_7_code 68 = .ok (.aload_n 0, 1) by decide +kernel) ?_
          refine hg_rgr (pc := 69) (r := (some o)) hC fl_SignalEngine_52 (show decode prog_1_method_7_code 69 = .ok (.getfield 52, 3) by decide +kernel) h ?_
          intro e6 h
          refine hg_rgr (pc := 72) (r := e6) hC fl_SignalEngine_97 (show decode prog_1_method_7_code 72 = .ok (.getfield 97, 3) by decide +kernel) h ?_
          intro e7 h
          refine hg_iloadn (pc := 75) (j := 1) (i := 1) hC 1 rfl rfl (show decode prog_1_method_7_code 75 = .ok (.iload_n 1, 1) by decide +kernel) ?_
          refine hg_riald (pc := 76) (r := e7) hC (show decode prog_1_method_7_code 76 = .ok (.iaload, 1) by decide +kernel) h ?_
          intro e8 h
          exact hg_iret (pc := 77) hC hR (hF _ (dc_some h)) (show decode prog_1_method_7_code 77 = .ok (.ireturn, 1) by decide +kernel)
        clear h; have h := h2; clear h2
        rcases dc_ite h with ⟨hk13, h2⟩ | ⟨hk13, h2⟩
        · subst hk13; clear h; have h := h2; clear h2
          refine hg_tabIn (pc := 26) (off := 52) (tgt := 78) hC dsw_prog_1_method_7_code_26 (by decide +kernel) (by decide +kernel) (by decide +kernel) (by decide +kernel) ?_
          refine hg_aloadn (pc := 78) (j := 0) (i := 0) (r := (some o)) hC 0 rfl rfl (show decode prog_1_method_7_code 78 = .ok (.aload_n 0, 1) by decide +kernel) ?_
          refine hg_rgr (pc := 79) (r := (some o)) hC fl_SignalEngine_52 (show decode prog_1_method_7_code 79 = .ok (.getfield 52, 3) by decide +kernel) h ?_
          intro e10 h
          refine hg_rgr (pc := 82) (r := e10) hC fl_SignalEngine_100 (show decode prog_1_method_7_code 82 = .ok (.getfield 100, 3) by decide +kernel) h ?_
          intro e11 h
          refine hg_iloadn (pc := 85) (j := 1) (i := 1) hC 1 rfl rfl (show decode prog_1_method_7_code 85 = .ok (.iload_n 1, 1) by decide +kernel) ?_
          refine hg_riald (pc := 86) (r := e11) hC (show decode prog_1_method_7_code 86 = .ok (.iaload, 1) by decide +kernel) h ?_
          intro e12 h
          exact hg_iret (pc := 87) hC hR (hF _ (dc_some h)) (show decode prog_1_method_7_code 87 = .ok (.ireturn, 1) by decide +kernel)
        clear h; have h := h2; clear h2
        rcases dc_ite h with ⟨hk17, h2⟩ | ⟨hk17, h2⟩
        · subst hk17; clear h; have h := h2; clear h2
          refine hg_tabIn (pc := 26) (off := 62) (tgt := 88) hC dsw_prog_1_method_7_code_26 (by decide +kernel) (by decide +kernel) (by decide +kernel) (by decide +kernel) ?_
          refine hg_aloadn (pc := 88) (j := 0) (i := 0) (r := (some o)) hC 0 rfl rfl (show decode prog_1_method_7_code 88 = .ok (.aload_n 0, 1) by decide +kernel) ?_
          refine hg_rgr (pc := 89) (r := (some o)) hC fl_SignalEngine_52 (show decode prog_1_method_7_code 89 = .ok (.getfield 52, 3) by decide +kernel) h ?_
          intro e14 h
          refine hg_rgr (pc := 92) (r := e14) hC fl_SignalEngine_103 (show decode prog_1_method_7_code 92 = .ok (.getfield 103, 3) by decide +kernel) h ?_
          intro e15 h
          refine hg_iloadn (pc := 95) (j := 1) (i := 1) hC 1 rfl rfl (show decode prog_1_method_7_code 95 = .ok (.iload_n 1, 1) by decide +kernel) ?_
          refine hg_riald (pc := 96) (r := e15) hC (show decode prog_1_method_7_code 96 = .ok (.iaload, 1) by decide +kernel) h ?_
          intro e16 h
          exact hg_iret (pc := 97) hC hR (hF _ (dc_some h)) (show decode prog_1_method_7_code 97 = .ok (.ireturn, 1) by decide +kernel)
        clear h; have h := h2; clear h2
        rcases dc_ite h with ⟨hk21, h2⟩ | ⟨hk21, h2⟩
        · subst hk21; clear h; have h := h2; clear h2
          refine hg_tabIn (pc := 26) (off := 72) (tgt := 98) hC dsw_prog_1_method_7_code_26 (by decide +kernel) (by decide +kernel) (by decide +kernel) (by decide +kernel) ?_
          refine hg_aloadn (pc := 98) (j := 0) (i := 0) (r := (some o)) hC 0 rfl rfl (show decode prog_1_method_7_code 98 = .ok (.aload_n 0, 1) by decide +kernel) ?_
          refine hg_rgr (pc := 99) (r := (some o)) hC fl_SignalEngine_52 (show decode prog_1_method_7_code 99 = .ok (.getfield 52, 3) by decide +kernel) h ?_
          intro e18 h
          refine hg_rgr (pc := 102) (r := e18) hC fl_SignalEngine_106 (show decode prog_1_method_7_code 102 = .ok (.getfield 106, 3) by decide +kernel) h ?_
          intro e19 h
          refine hg_iloadn (pc := 105) (j := 1) (i := 1) hC 1 rfl rfl (show decode prog_1_method_7_code 105 = .ok (.iload_n 1, 1) by decide +kernel) ?_
          refine hg_riald (pc := 106) (r := e19) hC (show decode prog_1_method_7_code 106 = .ok (.iaload, 1) by decide +kernel) h ?_
          intro e20 h
          exact hg_iret (pc := 107) hC hR (hF _ (dc_some h)) (show decode prog_1_method_7_code 107 = .ok (.ireturn, 1) by decide +kernel)
        clear h; have h := h2; clear h2
        rcases dc_ite h with ⟨hk25, h2⟩ | ⟨hk25, h2⟩
        · subst hk25; clear h; have h := h2; clear h2
          refine hg_tabIn (pc := 26) (off := 82) (tgt := 108) hC dsw_prog_1_method_7_code_26 (by decide +kernel) (by decide +kernel) (by decide +kernel) (by decide +kernel) ?_
          refine hg_aloadn (pc := 108) (j := 0) (i := 0) (r := (some o)) hC 0 rfl rfl (show decode prog_1_method_7_code 108 = .ok (.aload_n 0, 1) by decide +kernel) ?_
          refine hg_rgr (pc := 109) (r := (some o)) hC fl_SignalEngine_52 (show decode prog_1_method_7_code 109 = .ok (.getfield 52, 3) by decide +kernel) h ?_
          intro e22 h
          refine hg_rgr (pc := 112) (r := e22) hC fl_SignalEngine_109 (show decode prog_1_method_7_code 112 = .ok (.getfield 109, 3) by decide +kernel) h ?_
          intro e23 h
          refine hg_iloadn (pc := 115) (j := 1) (i := 1) hC 1 rfl rfl (show decode prog_1_method_7_code 115 = .ok (.iload_n 1, 1) by decide +kernel) ?_
          refine hg_riald (pc := 116) (r := e23) hC (show decode prog_1_method_7_code 116 = .ok (.iaload, 1) by decide +kernel) h ?_
          intro e24 h
          exact hg_iret (pc := 117) hC hR (hF _ (dc_some h)) (show decode prog_1_method_7_code 117 = .ok (.ireturn, 1) by decide +kernel)
        clear h; have h := h2; clear h2
        rcases dc_ite h with ⟨hk29, h2⟩ | ⟨hk29, h2⟩
        · subst hk29; clear h; have h := h2; clear h2
          refine hg_tabIn (pc := 26) (off := 92) (tgt := 118) hC dsw_prog_1_method_7_code_26 (by decide +kernel) (by decide +kernel) (by decide +kernel) (by decide +kernel) ?_
          refine hg_aloadn (pc := 118) (j := 0) (i := 0) (r := (some o)) hC 0 rfl rfl (show decode prog_1_method_7_code 118 = .ok (.aload_n 0, 1) by decide +kernel) ?_
          refine hg_rgr (pc := 119) (r := (some o)) hC fl_SignalEngine_52 (show decode prog_1_method_7_code 119 = .ok (.getfield 52, 3) by decide +kernel) h ?_
          intro e26 h
          refine hg_rgr (pc := 122) (r := e26) hC fl_SignalEngine_112 (show decode prog_1_method_7_code 122 = .ok (.getfield 112, 3) by decide +kernel) h ?_
          intro e27 h
          refine hg_iloadn (pc := 125) (j := 1) (i := 1) hC 1 rfl rfl (show decode prog_1_method_7_code 125 = .ok (.iload_n 1, 1) by decide +kernel) ?_
          refine hg_riald (pc := 126) (r := e27) hC (show decode prog_1_method_7_code 126 = .ok (.iaload, 1) by decide +kernel) h ?_
          intro e28 h
          exact hg_iret (pc := 127) hC hR (hF _ (dc_some h)) (show decode prog_1_method_7_code 127 = .ok (.ireturn, 1) by decide +kernel)
        clear h; have h := h2; clear h2
        rcases dc_ite h with ⟨hk33, h2⟩ | ⟨hk33, h2⟩
        · subst hk33; clear h; have h := h2; clear h2
          refine hg_tabIn (pc := 26) (off := 102) (tgt := 128) hC dsw_prog_1_method_7_code_26 (by decide +kernel) (by decide +kernel) (by decide +kernel) (by decide +kernel) ?_
          refine hg_aloadn (pc := 128) (j := 0) (i := 0) (r := (some o)) hC 0 rfl rfl (show decode prog_1_method_7_code 128 = .ok (.aload_n 0, 1) by decide +kernel) ?_
          refine hg_rgr (pc := 129) (r := (some o)) hC fl_SignalEngine_52 (show decode prog_1_method_7_code 129 = .ok (.getfield 52, 3) by decide +kernel) h ?_
          intro e30 h
          refine hg_rgr (pc := 132) (r := e30) hC fl_SignalEngine_115 (show decode prog_1_method_7_code 132 = .ok (.getfield 115, 3) by decide +kernel) h ?_
          intro e31 h
          refine hg_iloadn (pc := 135) (j := 1) (i := 1) hC 1 rfl rfl (show decode prog_1_method_7_code 135 = .ok (.iload_n 1, 1) by decide +kernel) ?_
          refine hg_riald (pc := 136) (r := e31) hC (show decode prog_1_method_7_code 136 = .ok (.iaload, 1) by decide +kernel) h ?_
          intro e32 h
          exact hg_iret (pc := 137) hC hR (hF _ (dc_some h)) (show decode prog_1_method_7_code 137 = .ok (.ireturn, 1) by decide +kernel)
        clear h; have h := h2; clear h2
        refine hg_tabOut (pc := 26) (tgt := 138) hC dsw_prog_1_method_7_code_26 (by have := dc_swc hk9 (show (0 : Int32).toInt = 0 by decide +kernel); have := dc_swc hk13 (show (1 : Int32).toInt = 1 by decide +kernel); have := dc_swc hk17 (show (2 : Int32).toInt = 2 by decide +kernel); have := dc_swc hk21 (show (3 : Int32).toInt = 3 by decide +kernel); have := dc_swc hk25 (show (4 : Int32).toInt = 4 by decide +kernel); have := dc_swc hk29 (show (5 : Int32).toInt = 5 by decide +kernel); have := dc_swc hk33 (show (6 : Int32).toInt = 6 by decide +kernel); omega) (by decide +kernel) ?_
        refine hg_iconst (pc := 138) (v := (-1)) hC (show decode prog_1_method_7_code 138 = .ok (.iconst (-1), 1) by decide +kernel) (by decide +kernel) ?_
        exact hg_iret (pc := 139) hC hR (hF _ (dc_some h)) (show decode prog_1_method_7_code 139 = .ok (.ireturn, 1) by decide +kernel)
      · intro h
        exact hg_sub [0] rfl (lab_23 h)
noncomputable def hm_SE_piece_L25 (G : hg_E) (S : hg_S) (o : Nat) : Option (Int32) :=
  some (-1)
noncomputable def hm_SE_piece (G : hg_E) (S : hg_S) (o : Nat) (p1 : Int32) (p2 : Int32) : Option (Int32) :=
  (hg_gr S (some o) 0 3).bind fun e1 => if e1 = none then (hm_SE_piece_L25 G S o) else (if p1 < 0 then (hm_SE_piece_L25 G S o) else ((hg_gr S (some o) 0 3).bind fun e2 => (hg_gr S e2 9 6).bind fun e3 => (hg_gi S e3 5 5).bind fun e4 => if p1 < e4 then (dc_let (p2 : Int32) fun v5 => if v5 = 0 then ((hg_gr S (some o) 0 3).bind fun e6 => (hg_gr S e6 9 6).bind fun e7 => (hg_gr S e7 5 0).bind fun e8 => (hg_ld S e8 (G.1 0) p1).bind fun e9 => some e9) else if v5 = 1 then ((hg_gr S (some o) 0 3).bind fun e11 => (hg_gr S e11 9 6).bind fun e12 => (hg_gr S e12 5 1).bind fun e13 => (hg_ld S e13 (G.1 0) p1).bind fun e14 => some e14) else if v5 = 2 then ((hg_gr S (some o) 0 3).bind fun e16 => (hg_gr S e16 9 6).bind fun e17 => (hg_gr S e17 5 2).bind fun e18 => (hg_ld S e18 (G.1 0) p1).bind fun e19 => some e19) else (some (-1))) else (hm_SE_piece_L25 G S o)))
set_option maxHeartbeats 4000000 in
set_option maxRecDepth 100000 in
/-- SignalEngine.piece(II)I -/
theorem hm_SE_piece_ok (l : Launch) (D : va_G) (G : hg_E) (Z : hg_S) (o : Nat) (p1 : Int32) (p2 : Int32) (q : Int32) (hq : hm_SE_piece G Z o p1 p2 = some q) : hg_C l ⟨"SignalEngine", "piece", "(II)I"⟩ prog_1_method_8_code 3 (some (.int)) 0 0 D G [.ref o, .int p1, .int p2] Z (.inl (some (.int q), Z) : hg_O) := by
  refine hg_start (cv := fun q => (.inl (some (.int q), Z) : hg_O)) hq ?_
  intro F hF h
  refine hg_enter (lv := [(0, va_rf (some o)), (1, .int p1), (2, .int p2)]) (by decide +kernel) (by simp [lg_sl, va_rf_cat, hg_cti, hg_ctr]) (by simp [lv_args, va_rf_cat, va_rf_some, hg_cti, hg_ctr]) ?_
  intro X hC hR
  have lab_25 : dc_wp (hm_SE_piece_L25 G Z o) F → hg_G X l (hg_rm 0 0 Z) D 3 Z 25 [(0, va_rf (some o))] [] := by
    intro  h
    delta hm_SE_piece_L25 at h
    refine hg_iconst (pc := 25) (v := (-1)) hC (show decode prog_1_method_8_code 25 = .ok (.iconst (-1), 1) by decide +kernel) (by decide +kernel) ?_
    exact hg_iret (pc := 26) hC hR (hF _ (dc_some h)) (show decode prog_1_method_8_code 26 = .ok (.ireturn, 1) by decide +kernel)
  show hg_G X l (hg_rm 0 0 Z) D 3 Z 0 [(0, va_rf (some o)), (1, .int p1), (2, .int p2)] []
  have h : dc_wp (hm_SE_piece G Z o p1 p2) F := h
  delta hm_SE_piece at h
  refine hg_aloadn (pc := 0) (j := 0) (i := 0) (r := (some o)) hC 0 rfl rfl (show decode prog_1_method_8_code 0 = .ok (.aload_n 0, 1) by decide +kernel) ?_
  refine hg_rgr (pc := 1) (r := (some o)) hC fl_SignalEngine_52 (show decode prog_1_method_8_code 1 = .ok (.getfield 52, 3) by decide +kernel) h ?_
  intro e1 h
  refine hg_ifnull (pc := 4) (tgt := 25) (r := e1) hC (show decode prog_1_method_8_code 4 = .ok (.ifnull 21, 3) by decide +kernel) (by decide +kernel) h ?_ ?_
  · intro h
    exact hg_sub [0] rfl (lab_25 h)
  · intro h
    refine hg_iloadn (pc := 7) (j := 1) (i := 1) hC 1 rfl rfl (show decode prog_1_method_8_code 7 = .ok (.iload_n 1, 1) by decide +kernel) ?_
    refine hg_if_lt (pc := 8) (tgt := 25) hC (show decode prog_1_method_8_code 8 = .ok (.ifCond .lt 17, 3) by decide +kernel) (by decide +kernel) h ?_ ?_
    · intro h
      exact hg_sub [0] rfl (lab_25 h)
    · intro h
      refine hg_iloadn (pc := 11) (j := 1) (i := 1) hC 1 rfl rfl (show decode prog_1_method_8_code 11 = .ok (.iload_n 1, 1) by decide +kernel) ?_
      refine hg_aloadn (pc := 12) (j := 0) (i := 0) (r := (some o)) hC 0 rfl rfl (show decode prog_1_method_8_code 12 = .ok (.aload_n 0, 1) by decide +kernel) ?_
      refine hg_rgr (pc := 13) (r := (some o)) hC fl_SignalEngine_52 (show decode prog_1_method_8_code 13 = .ok (.getfield 52, 3) by decide +kernel) h ?_
      intro e2 h
      refine hg_rgr (pc := 16) (r := e2) hC fl_SignalEngine_118 (show decode prog_1_method_8_code 16 = .ok (.getfield 118, 3) by decide +kernel) h ?_
      intro e3 h
      refine hg_rgi (pc := 19) (r := e3) hC fl_SignalEngine_122 (show decode prog_1_method_8_code 19 = .ok (.getfield 122, 3) by decide +kernel) h ?_
      intro e4 h
      refine hg_icmp_lt (pc := 22) (tgt := 27) hC (show decode prog_1_method_8_code 22 = .ok (.if_icmp .lt 5, 3) by decide +kernel) (by decide +kernel) h ?_ ?_
      · intro h
        refine hg_iloadn (pc := 27) (j := 2) (i := 2) hC 2 rfl rfl (show decode prog_1_method_8_code 27 = .ok (.iload_n 2, 1) by decide +kernel) ?_
        refine hg_letI h ?_
        intro v5 h
        rcases dc_ite h with ⟨hk10, h2⟩ | ⟨hk10, h2⟩
        · subst hk10; clear h; have h := h2; clear h2
          refine hg_tabIn (pc := 28) (off := 28) (tgt := 56) hC dsw_prog_1_method_8_code_28 (by decide +kernel) (by decide +kernel) (by decide +kernel) (by decide +kernel) ?_
          refine hg_aloadn (pc := 56) (j := 0) (i := 0) (r := (some o)) hC 0 rfl rfl (show decode prog_1_method_8_code 56 = .ok (.aload_n 0, 1) by decide +kernel) ?_
          refine hg_rgr (pc := 57) (r := (some o)) hC fl_SignalEngine_52 (show decode prog_1_method_8_code 57 = .ok (.getfield 52, 3) by decide +kernel) h ?_
          intro e6 h
          refine hg_rgr (pc := 60) (r := e6) hC fl_SignalEngine_118 (show decode prog_1_method_8_code 60 = .ok (.getfield 118, 3) by decide +kernel) h ?_
          intro e7 h
          refine hg_rgr (pc := 63) (r := e7) hC fl_SignalEngine_127 (show decode prog_1_method_8_code 63 = .ok (.getfield 127, 3) by decide +kernel) h ?_
          intro e8 h
          refine hg_iloadn (pc := 66) (j := 1) (i := 1) hC 1 rfl rfl (show decode prog_1_method_8_code 66 = .ok (.iload_n 1, 1) by decide +kernel) ?_
          refine hg_riald (pc := 67) (r := e8) hC (show decode prog_1_method_8_code 67 = .ok (.iaload, 1) by decide +kernel) h ?_
          intro e9 h
          exact hg_iret (pc := 68) hC hR (hF _ (dc_some h)) (show decode prog_1_method_8_code 68 = .ok (.ireturn, 1) by decide +kernel)
        clear h; have h := h2; clear h2
        rcases dc_ite h with ⟨hk15, h2⟩ | ⟨hk15, h2⟩
        · subst hk15; clear h; have h := h2; clear h2
          refine hg_tabIn (pc := 28) (off := 41) (tgt := 69) hC dsw_prog_1_method_8_code_28 (by decide +kernel) (by decide +kernel) (by decide +kernel) (by decide +kernel) ?_
          refine hg_aloadn (pc := 69) (j := 0) (i := 0) (r := (some o)) hC 0 rfl rfl (show decode prog_1_method_8_code 69 = .ok (.aload_n 0, 1) by decide +kernel) ?_
          refine hg_rgr (pc := 70) (r := (some o)) hC fl_SignalEngine_52 (show decode prog_1_method_8_code 70 = .ok (.getfield 52, 3) by decide +kernel) h ?_
          intro e11 h
          refine hg_rgr (pc := 73) (r := e11) hC fl_SignalEngine_118 (show decode prog_1_method_8_code 73 = .ok (.getfield 118, 3) by decide +kernel) h ?_
          intro e12 h
          refine hg_rgr (pc := 76) (r := e12) hC fl_SignalEngine_128 (show decode prog_1_method_8_code 76 = .ok (.getfield 128, 3) by decide +kernel) h ?_
          intro e13 h
          refine hg_iloadn (pc := 79) (j := 1) (i := 1) hC 1 rfl rfl (show decode prog_1_method_8_code 79 = .ok (.iload_n 1, 1) by decide +kernel) ?_
          refine hg_riald (pc := 80) (r := e13) hC (show decode prog_1_method_8_code 80 = .ok (.iaload, 1) by decide +kernel) h ?_
          intro e14 h
          exact hg_iret (pc := 81) hC hR (hF _ (dc_some h)) (show decode prog_1_method_8_code 81 = .ok (.ireturn, 1) by decide +kernel)
        clear h; have h := h2; clear h2
        rcases dc_ite h with ⟨hk20, h2⟩ | ⟨hk20, h2⟩
        · subst hk20; clear h; have h := h2; clear h2
          refine hg_tabIn (pc := 28) (off := 54) (tgt := 82) hC dsw_prog_1_method_8_code_28 (by decide +kernel) (by decide +kernel) (by decide +kernel) (by decide +kernel) ?_
          refine hg_aloadn (pc := 82) (j := 0) (i := 0) (r := (some o)) hC 0 rfl rfl (show decode prog_1_method_8_code 82 = .ok (.aload_n 0, 1) by decide +kernel) ?_
          refine hg_rgr (pc := 83) (r := (some o)) hC fl_SignalEngine_52 (show decode prog_1_method_8_code 83 = .ok (.getfield 52, 3) by decide +kernel) h ?_
          intro e16 h
          refine hg_rgr (pc := 86) (r := e16) hC fl_SignalEngine_118 (show decode prog_1_method_8_code 86 = .ok (.getfield 118, 3) by decide +kernel) h ?_
          intro e17 h
          refine hg_rgr (pc := 89) (r := e17) hC fl_SignalEngine_129 (show decode prog_1_method_8_code 89 = .ok (.getfield 129, 3) by decide +kernel) h ?_
          intro e18 h
          refine hg_iloadn (pc := 92) (j := 1) (i := 1) hC 1 rfl rfl (show decode prog_1_method_8_code 92 = .ok (.iload_n 1, 1) by decide +kernel) ?_
          refine hg_riald (pc := 93) (r := e18) hC (show decode prog_1_method_8_code 93 = .ok (.iaload, 1) by decide +kernel) h ?_
          intro e19 h
          exact hg_iret (pc := 94) hC hR (hF _ (dc_some h)) (show decode prog_1_method_8_code 94 = .ok (.ireturn, 1) by decide +kernel)
        clear h; have h := h2; clear h2
        refine hg_tabOut (pc := 28) (tgt := 95) hC dsw_prog_1_method_8_code_28 (by have := dc_swc hk10 (show (0 : Int32).toInt = 0 by decide +kernel); have := dc_swc hk15 (show (1 : Int32).toInt = 1 by decide +kernel); have := dc_swc hk20 (show (2 : Int32).toInt = 2 by decide +kernel); omega) (by decide +kernel) ?_
        refine hg_iconst (pc := 95) (v := (-1)) hC (show decode prog_1_method_8_code 95 = .ok (.iconst (-1), 1) by decide +kernel) (by decide +kernel) ?_
        exact hg_iret (pc := 96) hC hR (hF _ (dc_some h)) (show decode prog_1_method_8_code 96 = .ok (.ireturn, 1) by decide +kernel)
      · intro h
        exact hg_sub [0] rfl (lab_25 h)
noncomputable def hm_NM_character_L26 (G : hg_E) (S : hg_S) (o : Nat) : Option (Int32) :=
  some (-1)
noncomputable def hm_NM_character (G : hg_E) (S : hg_S) (o : Nat) (p1 : Int32) (p2 : Int32) : Option (Int32) :=
  if p1 < 0 then (hm_NM_character_L26 G S o) else ((hg_gi S (some o) 3 4).bind fun e1 => if p1 < e1 then (if p2 < 0 then (hm_NM_character_L26 G S o) else ((hg_gr S (some o) 3 2).bind fun e2 => (hg_ld S e2 (G.1 0) p1).bind fun e3 => if p2 < e3 then ((hg_gr S (some o) 3 0).bind fun e4 => (hg_gr S (some o) 3 1).bind fun e5 => (hg_ld S e5 (G.1 0) p1).bind fun e6 => (hg_ld S e4 (G.1 1) (e6 + p2)).bind fun e7 => some e7) else (hm_NM_character_L26 G S o))) else (hm_NM_character_L26 G S o))
set_option maxHeartbeats 4000000 in
set_option maxRecDepth 100000 in
/-- SignalEngine$Names.character(II)I -/
theorem hm_NM_character_ok (l : Launch) (D : va_G) (G : hg_E) (Z : hg_S) (o : Nat) (p1 : Int32) (p2 : Int32) (q : Int32) (hq : hm_NM_character G Z o p1 p2 = some q) : hg_C l ⟨"SignalEngine$Names", "character", "(II)I"⟩ prog_6_method_6_code 3 (some (.int)) 0 0 D G [.ref o, .int p1, .int p2] Z (.inl (some (.int q), Z) : hg_O) := by
  refine hg_start (cv := fun q => (.inl (some (.int q), Z) : hg_O)) hq ?_
  intro F hF h
  refine hg_enter (lv := [(0, va_rf (some o)), (1, .int p1), (2, .int p2)]) (by decide +kernel) (by simp [lg_sl, va_rf_cat, hg_cti, hg_ctr]) (by simp [lv_args, va_rf_cat, va_rf_some, hg_cti, hg_ctr]) ?_
  intro X hC hR
  have lab_26 : dc_wp (hm_NM_character_L26 G Z o) F → hg_G X l (hg_rm 0 0 Z) D 3 Z 26 [(0, va_rf (some o))] [] := by
    intro  h
    delta hm_NM_character_L26 at h
    refine hg_iconst (pc := 26) (v := (-1)) hC (show decode prog_6_method_6_code 26 = .ok (.iconst (-1), 1) by decide +kernel) (by decide +kernel) ?_
    exact hg_iret (pc := 27) hC hR (hF _ (dc_some h)) (show decode prog_6_method_6_code 27 = .ok (.ireturn, 1) by decide +kernel)
  show hg_G X l (hg_rm 0 0 Z) D 3 Z 0 [(0, va_rf (some o)), (1, .int p1), (2, .int p2)] []
  have h : dc_wp (hm_NM_character G Z o p1 p2) F := h
  delta hm_NM_character at h
  refine hg_iloadn (pc := 0) (j := 1) (i := 1) hC 1 rfl rfl (show decode prog_6_method_6_code 0 = .ok (.iload_n 1, 1) by decide +kernel) ?_
  refine hg_if_lt (pc := 1) (tgt := 26) hC (show decode prog_6_method_6_code 1 = .ok (.ifCond .lt 25, 3) by decide +kernel) (by decide +kernel) h ?_ ?_
  · intro h
    exact hg_sub [0] rfl (lab_26 h)
  · intro h
    refine hg_iloadn (pc := 4) (j := 1) (i := 1) hC 1 rfl rfl (show decode prog_6_method_6_code 4 = .ok (.iload_n 1, 1) by decide +kernel) ?_
    refine hg_aloadn (pc := 5) (j := 0) (i := 0) (r := (some o)) hC 0 rfl rfl (show decode prog_6_method_6_code 5 = .ok (.aload_n 0, 1) by decide +kernel) ?_
    refine hg_rgi (pc := 6) (r := (some o)) hC fl_SignalEngine_Names_25 (show decode prog_6_method_6_code 6 = .ok (.getfield 25, 3) by decide +kernel) h ?_
    intro e1 h
    refine hg_icmp_ge (pc := 9) (tgt := 26) hC (show decode prog_6_method_6_code 9 = .ok (.if_icmp .ge 17, 3) by decide +kernel) (by decide +kernel) h ?_ ?_
    · intro h
      refine hg_iloadn (pc := 12) (j := 2) (i := 2) hC 2 rfl rfl (show decode prog_6_method_6_code 12 = .ok (.iload_n 2, 1) by decide +kernel) ?_
      refine hg_if_lt (pc := 13) (tgt := 26) hC (show decode prog_6_method_6_code 13 = .ok (.ifCond .lt 13, 3) by decide +kernel) (by decide +kernel) h ?_ ?_
      · intro h
        exact hg_sub [0] rfl (lab_26 h)
      · intro h
        refine hg_iloadn (pc := 16) (j := 2) (i := 2) hC 2 rfl rfl (show decode prog_6_method_6_code 16 = .ok (.iload_n 2, 1) by decide +kernel) ?_
        refine hg_aloadn (pc := 17) (j := 0) (i := 0) (r := (some o)) hC 0 rfl rfl (show decode prog_6_method_6_code 17 = .ok (.aload_n 0, 1) by decide +kernel) ?_
        refine hg_rgr (pc := 18) (r := (some o)) hC fl_SignalEngine_Names_15 (show decode prog_6_method_6_code 18 = .ok (.getfield 15, 3) by decide +kernel) h ?_
        intro e2 h
        refine hg_iloadn (pc := 21) (j := 1) (i := 1) hC 1 rfl rfl (show decode prog_6_method_6_code 21 = .ok (.iload_n 1, 1) by decide +kernel) ?_
        refine hg_riald (pc := 22) (r := e2) hC (show decode prog_6_method_6_code 22 = .ok (.iaload, 1) by decide +kernel) h ?_
        intro e3 h
        refine hg_icmp_lt (pc := 23) (tgt := 28) hC (show decode prog_6_method_6_code 23 = .ok (.if_icmp .lt 5, 3) by decide +kernel) (by decide +kernel) h ?_ ?_
        · intro h
          refine hg_aloadn (pc := 28) (j := 0) (i := 0) (r := (some o)) hC 0 rfl rfl (show decode prog_6_method_6_code 28 = .ok (.aload_n 0, 1) by decide +kernel) ?_
          refine hg_rgr (pc := 29) (r := (some o)) hC fl_SignalEngine_Names_21 (show decode prog_6_method_6_code 29 = .ok (.getfield 21, 3) by decide +kernel) h ?_
          intro e4 h
          refine hg_aloadn (pc := 32) (j := 0) (i := 0) (r := (some o)) hC 0 rfl rfl (show decode prog_6_method_6_code 32 = .ok (.aload_n 0, 1) by decide +kernel) ?_
          refine hg_rgr (pc := 33) (r := (some o)) hC fl_SignalEngine_Names_9 (show decode prog_6_method_6_code 33 = .ok (.getfield 9, 3) by decide +kernel) h ?_
          intro e5 h
          refine hg_iloadn (pc := 36) (j := 1) (i := 1) hC 1 rfl rfl (show decode prog_6_method_6_code 36 = .ok (.iload_n 1, 1) by decide +kernel) ?_
          refine hg_riald (pc := 37) (r := e5) hC (show decode prog_6_method_6_code 37 = .ok (.iaload, 1) by decide +kernel) h ?_
          intro e6 h
          refine hg_iloadn (pc := 38) (j := 2) (i := 2) hC 2 rfl rfl (show decode prog_6_method_6_code 38 = .ok (.iload_n 2, 1) by decide +kernel) ?_
          refine hg_iadd (pc := 39) hC (show decode prog_6_method_6_code 39 = .ok (.iadd, 1) by decide +kernel) ?_
          refine hg_rbald (pc := 40) (r := e4) hC (show decode prog_6_method_6_code 40 = .ok (.baload, 1) by decide +kernel) h ?_
          intro e7 h
          exact hg_iret (pc := 41) hC hR (hF _ (dc_some h)) (show decode prog_6_method_6_code 41 = .ok (.ireturn, 1) by decide +kernel)
        · intro h
          exact hg_sub [0] rfl (lab_26 h)
    · intro h
      exact hg_sub [0] rfl (lab_26 h)
noncomputable def hm_SE_letter (G : hg_E) (S : hg_S) (o : Nat) (p1 : Int32) (p2 : Int32) : Option (Int32) :=
  (hg_gr S (some o) 0 3).bind fun e1 => if e1 = none then (some (-1)) else ((hg_gr S (some o) 0 3).bind fun e2 => (hg_gr S e2 9 0).bind fun e3 => (hg_chk S e3 3).bind fun b4 => (hm_NM_character G S b4 p1 p2).bind fun q7 => some q7)
set_option maxHeartbeats 4000000 in
set_option maxRecDepth 100000 in
/-- SignalEngine.letter(II)I -/
theorem hm_SE_letter_ok (l : Launch) (D : va_G) (G : hg_E) (Z : hg_S) (o : Nat) (p1 : Int32) (p2 : Int32) (q : Int32) (hq : hm_SE_letter G Z o p1 p2 = some q) : hg_C l ⟨"SignalEngine", "letter", "(II)I"⟩ prog_1_method_9_code 3 (some (.int)) 1 22 D G [.ref o, .int p1, .int p2] Z (.inl (some (.int q), Z) : hg_O) := by
  refine hg_start (cv := fun q => (.inl (some (.int q), Z) : hg_O)) hq ?_
  intro F hF h
  refine hg_enter (lv := [(0, va_rf (some o)), (1, .int p1), (2, .int p2)]) (by decide +kernel) (by simp [lg_sl, va_rf_cat, hg_cti, hg_ctr]) (by simp [lv_args, va_rf_cat, va_rf_some, hg_cti, hg_ctr]) ?_
  intro X hC hR
  show hg_G X l (hg_rm 1 22 Z) D 3 Z 0 [(0, va_rf (some o)), (1, .int p1), (2, .int p2)] []
  have h : dc_wp (hm_SE_letter G Z o p1 p2) F := h
  delta hm_SE_letter at h
  refine hg_aloadn (pc := 0) (j := 0) (i := 0) (r := (some o)) hC 0 rfl rfl (show decode prog_1_method_9_code 0 = .ok (.aload_n 0, 1) by decide +kernel) ?_
  refine hg_rgr (pc := 1) (r := (some o)) hC fl_SignalEngine_52 (show decode prog_1_method_9_code 1 = .ok (.getfield 52, 3) by decide +kernel) h ?_
  intro e1 h
  refine hg_ifnonnull (pc := 4) (tgt := 9) (r := e1) hC (show decode prog_1_method_9_code 4 = .ok (.ifnonnull 5, 3) by decide +kernel) (by decide +kernel) h ?_ ?_
  · intro h
    refine hg_iconst (pc := 7) (v := (-1)) hC (show decode prog_1_method_9_code 7 = .ok (.iconst (-1), 1) by decide +kernel) (by decide +kernel) ?_
    exact hg_iret (pc := 8) hC hR (hF _ (dc_some h)) (show decode prog_1_method_9_code 8 = .ok (.ireturn, 1) by decide +kernel)
  · intro h
    refine hg_aloadn (pc := 9) (j := 0) (i := 0) (r := (some o)) hC 0 rfl rfl (show decode prog_1_method_9_code 9 = .ok (.aload_n 0, 1) by decide +kernel) ?_
    refine hg_rgr (pc := 10) (r := (some o)) hC fl_SignalEngine_52 (show decode prog_1_method_9_code 10 = .ok (.getfield 52, 3) by decide +kernel) h ?_
    intro e2 h
    refine hg_rgr (pc := 13) (r := e2) hC fl_SignalEngine_130 (show decode prog_1_method_9_code 13 = .ok (.getfield 130, 3) by decide +kernel) h ?_
    intro e3 h
    refine hg_iloadn (pc := 16) (j := 1) (i := 1) hC 1 rfl rfl (show decode prog_1_method_9_code 16 = .ok (.iload_n 1, 1) by decide +kernel) ?_
    refine hg_iloadn (pc := 17) (j := 2) (i := 2) hC 2 rfl rfl (show decode prog_1_method_9_code 17 = .ok (.iload_n 2, 1) by decide +kernel) ?_
    obtain ⟨b4, hb5, h⟩ := dc_bind h
    obtain ⟨hb5, hv6⟩ := hg_chk_of (C := R_NM) rfl hb5
    refine hg_kVi (pc := 18) (b := b4) (r := e3) (As := [.int p1, .int p2]) (rest := []) (vo := fun q => q) (so := fun q => Z) hC cw_SignalEngine_134 (fun q hq => hm_NM_character_ok l D G Z b4 p1 p2 q hq) (Nat.le_of_ble_eq_true rfl) (Nat.le_of_ble_eq_true rfl) hb5 hv6 rfl (Nat.le_of_ble_eq_true rfl) (show decode prog_1_method_9_code 18 = .ok (.invokevirtual 134, 3) by decide +kernel) h ?_
    intro q7 h
    exact hg_iret (pc := 21) hC hR (hF _ (dc_some h)) (show decode prog_1_method_9_code 21 = .ok (.ireturn, 1) by decide +kernel)
noncomputable def hm_SE_status_L30 (G : hg_E) (S : hg_S) (o : Nat) (y0 : Int32) : Option (Int32) :=
  some y0
noncomputable def hm_SE_status_L20 (G : hg_E) (S : hg_S) (o : Nat) : Option (Int32) :=
  hm_SE_status_L30 G S o 0
noncomputable def hm_SE_status (G : hg_E) (S : hg_S) (o : Nat) (p1 : Int32) : Option (Int32) :=
  (hg_gr S (some o) 0 8).bind fun e1 => if e1 = none then (hm_SE_status_L20 G S o) else (if p1 < 0 then (hm_SE_status_L20 G S o) else ((hg_gr S (some o) 0 8).bind fun e2 => (hg_ln S e2 (G.1 0)).bind fun e3 => if p1 < e3 then ((hg_gr S (some o) 0 8).bind fun e4 => (hg_ld S e4 (G.1 0) p1).bind fun e5 => hm_SE_status_L30 G S o e5) else (hm_SE_status_L20 G S o)))
set_option maxHeartbeats 4000000 in
set_option maxRecDepth 100000 in
/-- SignalEngine.status(I)I -/
theorem hm_SE_status_ok (l : Launch) (D : va_G) (G : hg_E) (Z : hg_S) (o : Nat) (p1 : Int32) (q : Int32) (hq : hm_SE_status G Z o p1 = some q) : hg_C l ⟨"SignalEngine", "status", "(I)I"⟩ prog_1_method_13_code 2 (some (.int)) 0 0 D G [.ref o, .int p1] Z (.inl (some (.int q), Z) : hg_O) := by
  refine hg_start (cv := fun q => (.inl (some (.int q), Z) : hg_O)) hq ?_
  intro F hF h
  refine hg_enter (lv := [(0, va_rf (some o)), (1, .int p1)]) (by decide +kernel) (by simp [lg_sl, va_rf_cat, hg_cti, hg_ctr]) (by simp [lv_args, va_rf_cat, va_rf_some, hg_cti, hg_ctr]) ?_
  intro X hC hR
  have lab_30 : ∀ (y0 : Int32), dc_wp (hm_SE_status_L30 G Z o y0) F → hg_G X l (hg_rm 0 0 Z) D 2 Z 30 [(0, va_rf (some o))] [.int y0] := by
    intro y0 h
    delta hm_SE_status_L30 at h
    exact hg_iret (pc := 30) hC hR (hF _ (dc_some h)) (show decode prog_1_method_13_code 30 = .ok (.ireturn, 1) by decide +kernel)
  have lab_20 : dc_wp (hm_SE_status_L20 G Z o) F → hg_G X l (hg_rm 0 0 Z) D 2 Z 20 [(0, va_rf (some o))] [] := by
    intro  h
    delta hm_SE_status_L20 at h
    refine hg_iconst (pc := 20) (v := 0) hC (show decode prog_1_method_13_code 20 = .ok (.iconst 0, 1) by decide +kernel) (by decide +kernel) ?_
    refine hg_goto (pc := 21) (tgt := 30) hC (show decode prog_1_method_13_code 21 = .ok (.goto 9, 3) by decide +kernel) (by decide +kernel) ?_
    exact lab_30 0 h
  show hg_G X l (hg_rm 0 0 Z) D 2 Z 0 [(0, va_rf (some o)), (1, .int p1)] []
  have h : dc_wp (hm_SE_status G Z o p1) F := h
  delta hm_SE_status at h
  refine hg_aloadn (pc := 0) (j := 0) (i := 0) (r := (some o)) hC 0 rfl rfl (show decode prog_1_method_13_code 0 = .ok (.aload_n 0, 1) by decide +kernel) ?_
  refine hg_rgr (pc := 1) (r := (some o)) hC fl_SignalEngine_78 (show decode prog_1_method_13_code 1 = .ok (.getfield 78, 3) by decide +kernel) h ?_
  intro e1 h
  refine hg_ifnull (pc := 4) (tgt := 20) (r := e1) hC (show decode prog_1_method_13_code 4 = .ok (.ifnull 16, 3) by decide +kernel) (by decide +kernel) h ?_ ?_
  · intro h
    exact hg_sub [0] rfl (lab_20 h)
  · intro h
    refine hg_iloadn (pc := 7) (j := 1) (i := 1) hC 1 rfl rfl (show decode prog_1_method_13_code 7 = .ok (.iload_n 1, 1) by decide +kernel) ?_
    refine hg_if_lt (pc := 8) (tgt := 20) hC (show decode prog_1_method_13_code 8 = .ok (.ifCond .lt 12, 3) by decide +kernel) (by decide +kernel) h ?_ ?_
    · intro h
      exact hg_sub [0] rfl (lab_20 h)
    · intro h
      refine hg_iloadn (pc := 11) (j := 1) (i := 1) hC 1 rfl rfl (show decode prog_1_method_13_code 11 = .ok (.iload_n 1, 1) by decide +kernel) ?_
      refine hg_aloadn (pc := 12) (j := 0) (i := 0) (r := (some o)) hC 0 rfl rfl (show decode prog_1_method_13_code 12 = .ok (.aload_n 0, 1) by decide +kernel) ?_
      refine hg_rgr (pc := 13) (r := (some o)) hC fl_SignalEngine_78 (show decode prog_1_method_13_code 13 = .ok (.getfield 78, 3) by decide +kernel) h ?_
      intro e2 h
      refine hg_rlen (pc := 16) (r := e2) (t := 0) hC rfl (show decode prog_1_method_13_code 16 = .ok (.arraylength, 1) by decide +kernel) h ?_
      intro e3 h
      refine hg_icmp_lt (pc := 17) (tgt := 24) hC (show decode prog_1_method_13_code 17 = .ok (.if_icmp .lt 7, 3) by decide +kernel) (by decide +kernel) h ?_ ?_
      · intro h
        refine hg_aloadn (pc := 24) (j := 0) (i := 0) (r := (some o)) hC 0 rfl rfl (show decode prog_1_method_13_code 24 = .ok (.aload_n 0, 1) by decide +kernel) ?_
        refine hg_rgr (pc := 25) (r := (some o)) hC fl_SignalEngine_78 (show decode prog_1_method_13_code 25 = .ok (.getfield 78, 3) by decide +kernel) h ?_
        intro e4 h
        refine hg_iloadn (pc := 28) (j := 1) (i := 1) hC 1 rfl rfl (show decode prog_1_method_13_code 28 = .ok (.iload_n 1, 1) by decide +kernel) ?_
        refine hg_riald (pc := 29) (r := e4) hC (show decode prog_1_method_13_code 29 = .ok (.iaload, 1) by decide +kernel) h ?_
        intro e5 h
        exact hg_sub [0] rfl (lab_30 e5 h)
      · intro h
        exact hg_sub [0] rfl (lab_20 h)
noncomputable def hm_SE_selected_L41 (G : hg_E) (S : hg_S) (o : Nat) (y0 : Int32) : Option (Int32) :=
  (dc_zb y0).bind fun _ => some y0
noncomputable def hm_SE_selected_L40 (G : hg_E) (S : hg_S) (o : Nat) : Option (Int32) :=
  hm_SE_selected_L41 G S o 0
noncomputable def hm_SE_selected (G : hg_E) (S : hg_S) (o : Nat) (p1 : Int32) : Option (Int32) :=
  (hg_gr S (some o) 0 7).bind fun e2 => if e2 = none then (hm_SE_selected_L40 G S o) else ((hg_gi S (some o) 0 6).bind fun e3 => if e3 = 0 then (if p1 < 0 then (hm_SE_selected_L40 G S o) else ((hg_gr S (some o) 0 7).bind fun e4 => (hg_ln S e4 (G.1 2)).bind fun e5 => if p1 < e5 then ((hg_gr S (some o) 0 7).bind fun e6 => (hg_ld S e6 (G.1 2) p1).bind fun e7 => if e7 = 0 then (hm_SE_selected_L40 G S o) else (hm_SE_selected_L41 G S o 1)) else (hm_SE_selected_L40 G S o))) else (hm_SE_selected_L40 G S o))
set_option maxHeartbeats 4000000 in
set_option maxRecDepth 100000 in
/-- SignalEngine.selected(I)Z -/
theorem hm_SE_selected_ok (l : Launch) (D : va_G) (G : hg_E) (Z : hg_S) (o : Nat) (p1 : Int32) (q : Int32) (hq : hm_SE_selected G Z o p1 = some q) : hg_C l ⟨"SignalEngine", "selected", "(I)Z"⟩ prog_1_method_14_code 2 (some (.boolean)) 0 0 D G [.ref o, .int p1] Z (.inl (some (.int q), Z) : hg_O) := by
  refine hg_start (cv := fun q => (.inl (some (.int q), Z) : hg_O)) hq ?_
  intro F hF h
  refine hg_enter (lv := [(0, va_rf (some o)), (1, .int p1)]) (by decide +kernel) (by simp [lg_sl, va_rf_cat, hg_cti, hg_ctr]) (by simp [lv_args, va_rf_cat, va_rf_some, hg_cti, hg_ctr]) ?_
  intro X hC hR
  have lab_41 : ∀ (y0 : Int32), dc_wp (hm_SE_selected_L41 G Z o y0) F → hg_G X l (hg_rm 0 0 Z) D 2 Z 41 [(0, va_rf (some o))] [.int y0] := by
    intro y0 h
    delta hm_SE_selected_L41 at h
    obtain ⟨hz1, h⟩ := dc_zb_wp (dc_bind h)
    exact hg_zret (pc := 41) hC hR hz1 (hF _ (dc_some h)) (show decode prog_1_method_14_code 41 = .ok (.ireturn, 1) by decide +kernel)
  have lab_40 : dc_wp (hm_SE_selected_L40 G Z o) F → hg_G X l (hg_rm 0 0 Z) D 2 Z 40 [(0, va_rf (some o))] [] := by
    intro  h
    delta hm_SE_selected_L40 at h
    refine hg_iconst (pc := 40) (v := 0) hC (show decode prog_1_method_14_code 40 = .ok (.iconst 0, 1) by decide +kernel) (by decide +kernel) ?_
    exact lab_41 0 h
  show hg_G X l (hg_rm 0 0 Z) D 2 Z 0 [(0, va_rf (some o)), (1, .int p1)] []
  have h : dc_wp (hm_SE_selected G Z o p1) F := h
  delta hm_SE_selected at h
  refine hg_aloadn (pc := 0) (j := 0) (i := 0) (r := (some o)) hC 0 rfl rfl (show decode prog_1_method_14_code 0 = .ok (.aload_n 0, 1) by decide +kernel) ?_
  refine hg_rgr (pc := 1) (r := (some o)) hC fl_SignalEngine_68 (show decode prog_1_method_14_code 1 = .ok (.getfield 68, 3) by decide +kernel) h ?_
  intro e2 h
  refine hg_ifnull (pc := 4) (tgt := 40) (r := e2) hC (show decode prog_1_method_14_code 4 = .ok (.ifnull 36, 3) by decide +kernel) (by decide +kernel) h ?_ ?_
  · intro h
    exact hg_sub [0] rfl (lab_40 h)
  · intro h
    refine hg_aloadn (pc := 7) (j := 0) (i := 0) (r := (some o)) hC 0 rfl rfl (show decode prog_1_method_14_code 7 = .ok (.aload_n 0, 1) by decide +kernel) ?_
    refine hg_rgi (pc := 8) (r := (some o)) hC fl_SignalEngine_85 (show decode prog_1_method_14_code 8 = .ok (.getfield 85, 3) by decide +kernel) h ?_
    intro e3 h
    refine hg_if_ne (pc := 11) (tgt := 40) hC (show decode prog_1_method_14_code 11 = .ok (.ifCond .ne 29, 3) by decide +kernel) (by decide +kernel) h ?_ ?_
    · intro h
      refine hg_iloadn (pc := 14) (j := 1) (i := 1) hC 1 rfl rfl (show decode prog_1_method_14_code 14 = .ok (.iload_n 1, 1) by decide +kernel) ?_
      refine hg_if_lt (pc := 15) (tgt := 40) hC (show decode prog_1_method_14_code 15 = .ok (.ifCond .lt 25, 3) by decide +kernel) (by decide +kernel) h ?_ ?_
      · intro h
        exact hg_sub [0] rfl (lab_40 h)
      · intro h
        refine hg_iloadn (pc := 18) (j := 1) (i := 1) hC 1 rfl rfl (show decode prog_1_method_14_code 18 = .ok (.iload_n 1, 1) by decide +kernel) ?_
        refine hg_aloadn (pc := 19) (j := 0) (i := 0) (r := (some o)) hC 0 rfl rfl (show decode prog_1_method_14_code 19 = .ok (.aload_n 0, 1) by decide +kernel) ?_
        refine hg_rgr (pc := 20) (r := (some o)) hC fl_SignalEngine_68 (show decode prog_1_method_14_code 20 = .ok (.getfield 68, 3) by decide +kernel) h ?_
        intro e4 h
        refine hg_rlen (pc := 23) (r := e4) (t := 2) hC rfl (show decode prog_1_method_14_code 23 = .ok (.arraylength, 1) by decide +kernel) h ?_
        intro e5 h
        refine hg_icmp_ge (pc := 24) (tgt := 40) hC (show decode prog_1_method_14_code 24 = .ok (.if_icmp .ge 16, 3) by decide +kernel) (by decide +kernel) h ?_ ?_
        · intro h
          refine hg_aloadn (pc := 27) (j := 0) (i := 0) (r := (some o)) hC 0 rfl rfl (show decode prog_1_method_14_code 27 = .ok (.aload_n 0, 1) by decide +kernel) ?_
          refine hg_rgr (pc := 28) (r := (some o)) hC fl_SignalEngine_68 (show decode prog_1_method_14_code 28 = .ok (.getfield 68, 3) by decide +kernel) h ?_
          intro e6 h
          refine hg_iloadn (pc := 31) (j := 1) (i := 1) hC 1 rfl rfl (show decode prog_1_method_14_code 31 = .ok (.iload_n 1, 1) by decide +kernel) ?_
          refine hg_rzald (pc := 32) (r := e6) hC (show decode prog_1_method_14_code 32 = .ok (.baload, 1) by decide +kernel) h ?_
          intro e7 h
          refine hg_if_eq (pc := 33) (tgt := 40) hC (show decode prog_1_method_14_code 33 = .ok (.ifCond .eq 7, 3) by decide +kernel) (by decide +kernel) h ?_ ?_
          · intro h
            exact hg_sub [0] rfl (lab_40 h)
          · intro h
            refine hg_iconst (pc := 36) (v := 1) hC (show decode prog_1_method_14_code 36 = .ok (.iconst 1, 1) by decide +kernel) (by decide +kernel) ?_
            refine hg_goto (pc := 37) (tgt := 41) hC (show decode prog_1_method_14_code 37 = .ok (.goto 4, 3) by decide +kernel) (by decide +kernel) ?_
            exact hg_sub [0] rfl (lab_41 1 h)
        · intro h
          exact hg_sub [0] rfl (lab_40 h)
    · intro h
      exact hg_sub [0] rfl (lab_40 h)
noncomputable def hm_AT_reaches_L26 (G : hg_E) (S : hg_S) (o : Nat) (y0 : Int32) : Option (Int32) :=
  (dc_zb y0).bind fun _ => some y0
noncomputable def hm_AT_reaches_L25 (G : hg_E) (S : hg_S) (o : Nat) : Option (Int32) :=
  hm_AT_reaches_L26 G S o 0
noncomputable def hm_AT_reaches (G : hg_E) (S : hg_S) (o : Nat) (p1 : Int32) : Option (Int32) :=
  if p1 < 0 then (hm_AT_reaches_L25 G S o) else (if p1 < 257 then ((hg_gr S (some o) 11 2).bind fun e2 => (hg_ld S e2 (G.1 0) p1).bind fun e3 => if e3 = (-1) then (hm_AT_reaches_L25 G S o) else (hm_AT_reaches_L26 G S o 1)) else (hm_AT_reaches_L25 G S o))
set_option maxHeartbeats 4000000 in
set_option maxRecDepth 100000 in
/-- SignalEngine$Atlas.reaches(I)Z -/
theorem hm_AT_reaches_ok (l : Launch) (D : va_G) (G : hg_E) (Z : hg_S) (o : Nat) (p1 : Int32) (q : Int32) (hq : hm_AT_reaches G Z o p1 = some q) : hg_C l ⟨"SignalEngine$Atlas", "reaches", "(I)Z"⟩ prog_3_method_3_code 2 (some (.boolean)) 0 0 D G [.ref o, .int p1] Z (.inl (some (.int q), Z) : hg_O) := by
  refine hg_start (cv := fun q => (.inl (some (.int q), Z) : hg_O)) hq ?_
  intro F hF h
  refine hg_enter (lv := [(0, va_rf (some o)), (1, .int p1)]) (by decide +kernel) (by simp [lg_sl, va_rf_cat, hg_cti, hg_ctr]) (by simp [lv_args, va_rf_cat, va_rf_some, hg_cti, hg_ctr]) ?_
  intro X hC hR
  have lab_26 : ∀ (y0 : Int32), dc_wp (hm_AT_reaches_L26 G Z o y0) F → hg_G X l (hg_rm 0 0 Z) D 2 Z 26 [(0, va_rf (some o))] [.int y0] := by
    intro y0 h
    delta hm_AT_reaches_L26 at h
    obtain ⟨hz1, h⟩ := dc_zb_wp (dc_bind h)
    exact hg_zret (pc := 26) hC hR hz1 (hF _ (dc_some h)) (show decode prog_3_method_3_code 26 = .ok (.ireturn, 1) by decide +kernel)
  have lab_25 : dc_wp (hm_AT_reaches_L25 G Z o) F → hg_G X l (hg_rm 0 0 Z) D 2 Z 25 [(0, va_rf (some o))] [] := by
    intro  h
    delta hm_AT_reaches_L25 at h
    refine hg_iconst (pc := 25) (v := 0) hC (show decode prog_3_method_3_code 25 = .ok (.iconst 0, 1) by decide +kernel) (by decide +kernel) ?_
    exact lab_26 0 h
  show hg_G X l (hg_rm 0 0 Z) D 2 Z 0 [(0, va_rf (some o)), (1, .int p1)] []
  have h : dc_wp (hm_AT_reaches G Z o p1) F := h
  delta hm_AT_reaches at h
  refine hg_iloadn (pc := 0) (j := 1) (i := 1) hC 1 rfl rfl (show decode prog_3_method_3_code 0 = .ok (.iload_n 1, 1) by decide +kernel) ?_
  refine hg_if_lt (pc := 1) (tgt := 25) hC (show decode prog_3_method_3_code 1 = .ok (.ifCond .lt 24, 3) by decide +kernel) (by decide +kernel) h ?_ ?_
  · intro h
    exact hg_sub [0] rfl (lab_25 h)
  · intro h
    refine hg_iloadn (pc := 4) (j := 1) (i := 1) hC 1 rfl rfl (show decode prog_3_method_3_code 4 = .ok (.iload_n 1, 1) by decide +kernel) ?_
    refine hg_sipush (pc := 5) (v := 257) hC (show decode prog_3_method_3_code 5 = .ok (.sipush 257, 3) by decide +kernel) (by decide +kernel) ?_
    refine hg_icmp_ge (pc := 8) (tgt := 25) hC (show decode prog_3_method_3_code 8 = .ok (.if_icmp .ge 17, 3) by decide +kernel) (by decide +kernel) h ?_ ?_
    · intro h
      refine hg_aloadn (pc := 11) (j := 0) (i := 0) (r := (some o)) hC 0 rfl rfl (show decode prog_3_method_3_code 11 = .ok (.aload_n 0, 1) by decide +kernel) ?_
      refine hg_rgr (pc := 12) (r := (some o)) hC fl_SignalEngine_Atlas_18 (show decode prog_3_method_3_code 12 = .ok (.getfield 18, 3) by decide +kernel) h ?_
      intro e2 h
      refine hg_iloadn (pc := 15) (j := 1) (i := 1) hC 1 rfl rfl (show decode prog_3_method_3_code 15 = .ok (.iload_n 1, 1) by decide +kernel) ?_
      refine hg_riald (pc := 16) (r := e2) hC (show decode prog_3_method_3_code 16 = .ok (.iaload, 1) by decide +kernel) h ?_
      intro e3 h
      refine hg_iconst (pc := 17) (v := (-1)) hC (show decode prog_3_method_3_code 17 = .ok (.iconst (-1), 1) by decide +kernel) (by decide +kernel) ?_
      refine hg_icmp_eq (pc := 18) (tgt := 25) hC (show decode prog_3_method_3_code 18 = .ok (.if_icmp .eq 7, 3) by decide +kernel) (by decide +kernel) h ?_ ?_
      · intro h
        exact hg_sub [0] rfl (lab_25 h)
      · intro h
        refine hg_iconst (pc := 21) (v := 1) hC (show decode prog_3_method_3_code 21 = .ok (.iconst 1, 1) by decide +kernel) (by decide +kernel) ?_
        refine hg_goto (pc := 22) (tgt := 26) hC (show decode prog_3_method_3_code 22 = .ok (.goto 4, 3) by decide +kernel) (by decide +kernel) ?_
        exact hg_sub [0] rfl (lab_26 1 h)
    · intro h
      exact hg_sub [0] rfl (lab_25 h)
noncomputable def hm_SE_distance_L31 (G : hg_E) (S : hg_S) (o : Nat) (y0 : Int32) : Option (Int32) :=
  some y0
noncomputable def hm_SE_distance_L30 (G : hg_E) (S : hg_S) (o : Nat) : Option (Int32) :=
  hm_SE_distance_L31 G S o (-1)
noncomputable def hm_SE_distance (G : hg_E) (S : hg_S) (o : Nat) (p1 : Int32) : Option (Int32) :=
  (hg_gi S (some o) 0 12).bind fun e1 => if e1 = 0 then (hm_SE_distance_L30 G S o) else ((hg_gr S (some o) 0 10).bind fun e2 => (hg_chk S e2 11).bind fun b3 => (hm_AT_reaches G S b3 p1).bind fun q6 => if q6 = 0 then (hm_SE_distance_L30 G S o) else ((hg_gr S (some o) 0 10).bind fun e7 => (hg_gr S e7 11 2).bind fun e8 => (hg_ld S e8 (G.1 0) p1).bind fun e9 => hm_SE_distance_L31 G S o e9))
set_option maxHeartbeats 4000000 in
set_option maxRecDepth 100000 in
/-- SignalEngine.distance(I)I -/
theorem hm_SE_distance_ok (l : Launch) (D : va_G) (G : hg_E) (Z : hg_S) (o : Nat) (p1 : Int32) (q : Int32) (hq : hm_SE_distance G Z o p1 = some q) : hg_C l ⟨"SignalEngine", "distance", "(I)I"⟩ prog_1_method_17_code 2 (some (.int)) 1 21 D G [.ref o, .int p1] Z (.inl (some (.int q), Z) : hg_O) := by
  refine hg_start (cv := fun q => (.inl (some (.int q), Z) : hg_O)) hq ?_
  intro F hF h
  refine hg_enter (lv := [(0, va_rf (some o)), (1, .int p1)]) (by decide +kernel) (by simp [lg_sl, va_rf_cat, hg_cti, hg_ctr]) (by simp [lv_args, va_rf_cat, va_rf_some, hg_cti, hg_ctr]) ?_
  intro X hC hR
  have lab_31 : ∀ (y0 : Int32), dc_wp (hm_SE_distance_L31 G Z o y0) F → hg_G X l (hg_rm 1 21 Z) D 2 Z 31 [(0, va_rf (some o))] [.int y0] := by
    intro y0 h
    delta hm_SE_distance_L31 at h
    exact hg_iret (pc := 31) hC hR (hF _ (dc_some h)) (show decode prog_1_method_17_code 31 = .ok (.ireturn, 1) by decide +kernel)
  have lab_30 : dc_wp (hm_SE_distance_L30 G Z o) F → hg_G X l (hg_rm 1 21 Z) D 2 Z 30 [(0, va_rf (some o))] [] := by
    intro  h
    delta hm_SE_distance_L30 at h
    refine hg_iconst (pc := 30) (v := (-1)) hC (show decode prog_1_method_17_code 30 = .ok (.iconst (-1), 1) by decide +kernel) (by decide +kernel) ?_
    exact lab_31 (-1) h
  show hg_G X l (hg_rm 1 21 Z) D 2 Z 0 [(0, va_rf (some o)), (1, .int p1)] []
  have h : dc_wp (hm_SE_distance G Z o p1) F := h
  delta hm_SE_distance at h
  refine hg_aloadn (pc := 0) (j := 0) (i := 0) (r := (some o)) hC 0 rfl rfl (show decode prog_1_method_17_code 0 = .ok (.aload_n 0, 1) by decide +kernel) ?_
  refine hg_rgi (pc := 1) (r := (some o)) hC fl_SignalEngine_91 (show decode prog_1_method_17_code 1 = .ok (.getfield 91, 3) by decide +kernel) h ?_
  intro e1 h
  refine hg_if_eq (pc := 4) (tgt := 30) hC (show decode prog_1_method_17_code 4 = .ok (.ifCond .eq 26, 3) by decide +kernel) (by decide +kernel) h ?_ ?_
  · intro h
    exact hg_sub [0] rfl (lab_30 h)
  · intro h
    refine hg_aloadn (pc := 7) (j := 0) (i := 0) (r := (some o)) hC 0 rfl rfl (show decode prog_1_method_17_code 7 = .ok (.aload_n 0, 1) by decide +kernel) ?_
    refine hg_rgr (pc := 8) (r := (some o)) hC fl_SignalEngine_169 (show decode prog_1_method_17_code 8 = .ok (.getfield 169, 3) by decide +kernel) h ?_
    intro e2 h
    refine hg_iloadn (pc := 11) (j := 1) (i := 1) hC 1 rfl rfl (show decode prog_1_method_17_code 11 = .ok (.iload_n 1, 1) by decide +kernel) ?_
    obtain ⟨b3, hb4, h⟩ := dc_bind h
    obtain ⟨hb4, hv5⟩ := hg_chk_of (C := R_AT) rfl hb4
    refine hg_kVi (pc := 12) (b := b3) (r := e2) (As := [.int p1]) (rest := []) (vo := fun q => q) (so := fun q => Z) hC cw_SignalEngine_173 (fun q hq => hm_AT_reaches_ok l D G Z b3 p1 q hq) (Nat.le_of_ble_eq_true rfl) (Nat.le_of_ble_eq_true rfl) hb4 hv5 rfl (Nat.le_of_ble_eq_true rfl) (show decode prog_1_method_17_code 12 = .ok (.invokevirtual 173, 3) by decide +kernel) h ?_
    intro q6 h
    refine hg_if_eq (pc := 15) (tgt := 30) hC (show decode prog_1_method_17_code 15 = .ok (.ifCond .eq 15, 3) by decide +kernel) (by decide +kernel) h ?_ ?_
    · intro h
      exact hg_sub [0] rfl (lab_30 h)
    · intro h
      refine hg_aloadn (pc := 18) (j := 0) (i := 0) (r := (some o)) hC 0 rfl rfl (show decode prog_1_method_17_code 18 = .ok (.aload_n 0, 1) by decide +kernel) ?_
      refine hg_rgr (pc := 19) (r := (some o)) hC fl_SignalEngine_169 (show decode prog_1_method_17_code 19 = .ok (.getfield 169, 3) by decide +kernel) h ?_
      intro e7 h
      refine hg_rgr (pc := 22) (r := e7) hC fl_SignalEngine_191 (show decode prog_1_method_17_code 22 = .ok (.getfield 191, 3) by decide +kernel) h ?_
      intro e8 h
      refine hg_iloadn (pc := 25) (j := 1) (i := 1) hC 1 rfl rfl (show decode prog_1_method_17_code 25 = .ok (.iload_n 1, 1) by decide +kernel) ?_
      refine hg_riald (pc := 26) (r := e8) hC (show decode prog_1_method_17_code 26 = .ok (.iaload, 1) by decide +kernel) h ?_
      intro e9 h
      refine hg_goto (pc := 27) (tgt := 31) hC (show decode prog_1_method_17_code 27 = .ok (.goto 4, 3) by decide +kernel) (by decide +kernel) ?_
      exact hg_sub [0] rfl (lab_31 e9 h)
noncomputable def hm_AT_inputsOnWay_L47 (G : hg_E) (S : hg_S) (o : Nat) (x3 : Int32) : Option (Int32) :=
  (hg_gr S (some o) 11 4).bind fun e1 => (hg_ld S e1 (G.1 0) x3).bind fun e2 => some e2
noncomputable def hm_AT_inputsOnWay_b28 (G : hg_E) (S : hg_S) (o : Nat) (x2 : Int32) (x3 : Int32) (x4 : Int32) : Option ((Int32 × Int32) ⊕ ((Int32))) :=
  if x2 < x4 then ((hg_gr S (some o) 11 3).bind fun e3 => (hg_ld S e3 (G.1 0) x3).bind fun e4 => some (.inl (e4, (x4 + (-1))))) else (some (.inr x3))
noncomputable def hm_AT_inputsOnWay_s28 (G : hg_E) (S : hg_S) (o : Nat) (x2 : Int32) (q : Int32 × Int32) : Option ((Int32 × Int32) ⊕ ((Int32))) :=
  hm_AT_inputsOnWay_b28 G S o x2 q.1 q.2
noncomputable def hm_AT_inputsOnWay_L28 (G : hg_E) (S : hg_S) (o : Nat) (x2 : Int32) (x3 : Int32) (x4 : Int32) : Option (Int32) :=
  (dc_it (hm_AT_inputsOnWay_s28 G S o x2) (x3, x4)).bind (fun (z : Int32) => hm_AT_inputsOnWay_L47 G S o z)
noncomputable def hm_AT_inputsOnWay_L14 (G : hg_E) (S : hg_S) (o : Nat) : Option (Int32) :=
  some (-1)
noncomputable def hm_AT_inputsOnWay (G : hg_E) (S : hg_S) (o : Nat) (p1 : Int32) (p2 : Int32) : Option (Int32) :=
  if p2 < 0 then (hm_AT_inputsOnWay_L14 G S o) else ((hg_gr S (some o) 11 2).bind fun e5 => (hg_ld S e5 (G.1 0) p1).bind fun e6 => if p2 < e6 then ((hg_gr S (some o) 11 2).bind fun e7 => (hg_ld S e7 (G.1 0) p1).bind fun e8 => dc_let ((e8 - 1) : Int32) fun v9 => hm_AT_inputsOnWay_L28 G S o p2 p1 v9) else (hm_AT_inputsOnWay_L14 G S o))
set_option maxHeartbeats 4000000 in
set_option maxRecDepth 100000 in
/-- SignalEngine$Atlas.inputsOnWay(II)I -/
theorem hm_AT_inputsOnWay_ok (l : Launch) (D : va_G) (G : hg_E) (Z : hg_S) (o : Nat) (p1 : Int32) (p2 : Int32) (q : Int32) (hq : hm_AT_inputsOnWay G Z o p1 p2 = some q) : hg_C l ⟨"SignalEngine$Atlas", "inputsOnWay", "(II)I"⟩ prog_3_method_10_code 5 (some (.int)) 0 0 D G [.ref o, .int p1, .int p2] Z (.inl (some (.int q), Z) : hg_O) := by
  refine hg_start (cv := fun q => (.inl (some (.int q), Z) : hg_O)) hq ?_
  intro F hF h
  refine hg_enter (lv := [(0, va_rf (some o)), (1, .int p1), (2, .int p2)]) (by decide +kernel) (by simp [lg_sl, va_rf_cat, hg_cti, hg_ctr]) (by simp [lv_args, va_rf_cat, va_rf_some, hg_cti, hg_ctr]) ?_
  intro X hC hR
  have lab_47 : ∀ (x3 : Int32), dc_wp (hm_AT_inputsOnWay_L47 G Z o x3) F → hg_G X l (hg_rm 0 0 Z) D 5 Z 47 [(0, va_rf (some o)), (3, .int x3)] [] := by
    intro x3 h
    delta hm_AT_inputsOnWay_L47 at h
    refine hg_aloadn (pc := 47) (j := 0) (i := 0) (r := (some o)) hC 0 rfl rfl (show decode prog_3_method_10_code 47 = .ok (.aload_n 0, 1) by decide +kernel) ?_
    refine hg_rgr (pc := 48) (r := (some o)) hC fl_SignalEngine_Atlas_24 (show decode prog_3_method_10_code 48 = .ok (.getfield 24, 3) by decide +kernel) h ?_
    intro e1 h
    refine hg_iloadn (pc := 51) (j := 3) (i := 3) hC 1 rfl rfl (show decode prog_3_method_10_code 51 = .ok (.iload_n 3, 1) by decide +kernel) ?_
    refine hg_riald (pc := 52) (r := e1) hC (show decode prog_3_method_10_code 52 = .ok (.iaload, 1) by decide +kernel) h ?_
    intro e2 h
    exact hg_iret (pc := 53) hC hR (hF _ (dc_some h)) (show decode prog_3_method_10_code 53 = .ok (.ireturn, 1) by decide +kernel)
  have loop_28 : ∀ (x2 : Int32) (q : Int32 × Int32), dc_wp (dc_it (hm_AT_inputsOnWay_s28 G Z o x2) q) (fun z => dc_wp ((fun (z : Int32) => hm_AT_inputsOnWay_L47 G Z o z) z) F) → hg_G X l (hg_rm 0 0 Z) D 5 Z 28 [(0, va_rf (some o)), (2, .int x2), (3, .int q.1), (4, .int q.2)] [] := by
    intro x2
    refine dc_loopF ?_
    intro F_28 hl_28 hr_28
    rintro ⟨x3, x4⟩ h
    have h : dc_wp (hm_AT_inputsOnWay_b28 G Z o x2 x3 x4) F_28 := h
    delta hm_AT_inputsOnWay_b28 at h
    refine hg_iload (pc := 28) (i := 4) hC 3 rfl (show decode prog_3_method_10_code 28 = .ok (.iload 4, 2) by decide +kernel) ?_
    refine hg_iloadn (pc := 30) (j := 2) (i := 2) hC 1 rfl rfl (show decode prog_3_method_10_code 30 = .ok (.iload_n 2, 1) by decide +kernel) ?_
    refine hg_icmp_le (pc := 31) (tgt := 47) hC (show decode prog_3_method_10_code 31 = .ok (.if_icmp .le 16, 3) by decide +kernel) (by decide +kernel) h ?_ ?_
    · intro h
      refine hg_aloadn (pc := 34) (j := 0) (i := 0) (r := (some o)) hC 0 rfl rfl (show decode prog_3_method_10_code 34 = .ok (.aload_n 0, 1) by decide +kernel) ?_
      refine hg_rgr (pc := 35) (r := (some o)) hC fl_SignalEngine_Atlas_21 (show decode prog_3_method_10_code 35 = .ok (.getfield 21, 3) by decide +kernel) h ?_
      intro e3 h
      refine hg_iloadn (pc := 38) (j := 3) (i := 3) hC 2 rfl rfl (show decode prog_3_method_10_code 38 = .ok (.iload_n 3, 1) by decide +kernel) ?_
      refine hg_riald (pc := 39) (r := e3) hC (show decode prog_3_method_10_code 39 = .ok (.iaload, 1) by decide +kernel) h ?_
      intro e4 h
      refine hg_istoren (pc := 40) (j := 3) (i := 3) (lv' := [(3, .int e4), (0, va_rf (some o)), (2, .int x2), (4, .int x4)]) hC rfl (Nat.le_of_ble_eq_true rfl) rfl (show decode prog_3_method_10_code 40 = .ok (.istore_n 3, 1) by decide +kernel) ?_
      refine hg_iinc (pc := 41) (i := 4) (v := (x4 + (-1))) (lv' := [(4, .int (x4 + (-1))), (3, .int e4), (0, va_rf (some o)), (2, .int x2)]) hC 3 rfl (congrArg (fun z => x4 + z) (show Int32.ofInt (-1) = (-1 : Int32) by decide +kernel)) (Nat.le_of_ble_eq_true rfl) rfl (show decode prog_3_method_10_code 41 = .ok (.iinc 4 (-1), 3) by decide +kernel) ?_
      refine hg_goto (pc := 44) (tgt := 28) hC (show decode prog_3_method_10_code 44 = .ok (.goto (-16), 3) by decide +kernel) (by decide +kernel) ?_
      exact hg_sub [2, 3, 1, 0] rfl (hl_28 ((e4, (x4 + (-1)))) (dc_some h))
    · intro h
      have h : dc_wp (hm_AT_inputsOnWay_L47 G Z o x3) F := hr_28 x3 (dc_some h)
      exact hg_sub [0, 2] rfl (lab_47 x3 h)
  have lab_28 : ∀ (x2 : Int32) (x3 : Int32) (x4 : Int32), dc_wp (hm_AT_inputsOnWay_L28 G Z o x2 x3 x4) F → hg_G X l (hg_rm 0 0 Z) D 5 Z 28 [(0, va_rf (some o)), (2, .int x2), (3, .int x3), (4, .int x4)] [] := fun x2 x3 x4 h => loop_28 x2 (x3, x4) (dc_bind h)
  have lab_14 : dc_wp (hm_AT_inputsOnWay_L14 G Z o) F → hg_G X l (hg_rm 0 0 Z) D 5 Z 14 [(0, va_rf (some o))] [] := by
    intro  h
    delta hm_AT_inputsOnWay_L14 at h
    refine hg_iconst (pc := 14) (v := (-1)) hC (show decode prog_3_method_10_code 14 = .ok (.iconst (-1), 1) by decide +kernel) (by decide +kernel) ?_
    exact hg_iret (pc := 15) hC hR (hF _ (dc_some h)) (show decode prog_3_method_10_code 15 = .ok (.ireturn, 1) by decide +kernel)
  show hg_G X l (hg_rm 0 0 Z) D 5 Z 0 [(0, va_rf (some o)), (1, .int p1), (2, .int p2)] []
  have h : dc_wp (hm_AT_inputsOnWay G Z o p1 p2) F := h
  delta hm_AT_inputsOnWay at h
  refine hg_iloadn (pc := 0) (j := 2) (i := 2) hC 2 rfl rfl (show decode prog_3_method_10_code 0 = .ok (.iload_n 2, 1) by decide +kernel) ?_
  refine hg_if_lt (pc := 1) (tgt := 14) hC (show decode prog_3_method_10_code 1 = .ok (.ifCond .lt 13, 3) by decide +kernel) (by decide +kernel) h ?_ ?_
  · intro h
    exact hg_sub [0] rfl (lab_14 h)
  · intro h
    refine hg_iloadn (pc := 4) (j := 2) (i := 2) hC 2 rfl rfl (show decode prog_3_method_10_code 4 = .ok (.iload_n 2, 1) by decide +kernel) ?_
    refine hg_aloadn (pc := 5) (j := 0) (i := 0) (r := (some o)) hC 0 rfl rfl (show decode prog_3_method_10_code 5 = .ok (.aload_n 0, 1) by decide +kernel) ?_
    refine hg_rgr (pc := 6) (r := (some o)) hC fl_SignalEngine_Atlas_18 (show decode prog_3_method_10_code 6 = .ok (.getfield 18, 3) by decide +kernel) h ?_
    intro e5 h
    refine hg_iloadn (pc := 9) (j := 1) (i := 1) hC 1 rfl rfl (show decode prog_3_method_10_code 9 = .ok (.iload_n 1, 1) by decide +kernel) ?_
    refine hg_riald (pc := 10) (r := e5) hC (show decode prog_3_method_10_code 10 = .ok (.iaload, 1) by decide +kernel) h ?_
    intro e6 h
    refine hg_icmp_lt (pc := 11) (tgt := 16) hC (show decode prog_3_method_10_code 11 = .ok (.if_icmp .lt 5, 3) by decide +kernel) (by decide +kernel) h ?_ ?_
    · intro h
      refine hg_iloadn (pc := 16) (j := 1) (i := 1) hC 1 rfl rfl (show decode prog_3_method_10_code 16 = .ok (.iload_n 1, 1) by decide +kernel) ?_
      refine hg_istoren (pc := 17) (j := 3) (i := 3) (lv' := [(3, .int p1), (0, va_rf (some o)), (1, .int p1), (2, .int p2)]) hC rfl (Nat.le_of_ble_eq_true rfl) rfl (show decode prog_3_method_10_code 17 = .ok (.istore_n 3, 1) by decide +kernel) ?_
      refine hg_aloadn (pc := 18) (j := 0) (i := 0) (r := (some o)) hC 1 rfl rfl (show decode prog_3_method_10_code 18 = .ok (.aload_n 0, 1) by decide +kernel) ?_
      refine hg_rgr (pc := 19) (r := (some o)) hC fl_SignalEngine_Atlas_18 (show decode prog_3_method_10_code 19 = .ok (.getfield 18, 3) by decide +kernel) h ?_
      intro e7 h
      refine hg_iloadn (pc := 22) (j := 1) (i := 1) hC 2 rfl rfl (show decode prog_3_method_10_code 22 = .ok (.iload_n 1, 1) by decide +kernel) ?_
      refine hg_riald (pc := 23) (r := e7) hC (show decode prog_3_method_10_code 23 = .ok (.iaload, 1) by decide +kernel) h ?_
      intro e8 h
      refine hg_iconst (pc := 24) (v := 1) hC (show decode prog_3_method_10_code 24 = .ok (.iconst 1, 1) by decide +kernel) (by decide +kernel) ?_
      refine hg_isub (pc := 25) hC (show decode prog_3_method_10_code 25 = .ok (.isub, 1) by decide +kernel) ?_
      refine hg_letI h ?_
      intro v9 h
      refine hg_istore (pc := 26) (i := 4) (lv' := [(4, .int v9), (3, .int p1), (0, va_rf (some o)), (1, .int p1), (2, .int p2)]) hC (Nat.le_of_ble_eq_true rfl) rfl (show decode prog_3_method_10_code 26 = .ok (.istore 4, 2) by decide +kernel) ?_
      exact hg_sub [2, 4, 1, 0] rfl (lab_28 p2 p1 v9 h)
    · intro h
      exact hg_sub [0] rfl (lab_14 h)
noncomputable def hm_SE_path_L31 (G : hg_E) (S : hg_S) (o : Nat) (y0 : Int32) : Option (Int32) :=
  some y0
noncomputable def hm_SE_path_L30 (G : hg_E) (S : hg_S) (o : Nat) : Option (Int32) :=
  hm_SE_path_L31 G S o (-1)
noncomputable def hm_SE_path (G : hg_E) (S : hg_S) (o : Nat) (p1 : Int32) (p2 : Int32) : Option (Int32) :=
  (hg_gi S (some o) 0 12).bind fun e1 => if e1 = 0 then (hm_SE_path_L30 G S o) else ((hg_gr S (some o) 0 10).bind fun e2 => (hg_chk S e2 11).bind fun b3 => (hm_AT_reaches G S b3 p1).bind fun q6 => if q6 = 0 then (hm_SE_path_L30 G S o) else ((hg_gr S (some o) 0 10).bind fun e7 => (hg_chk S e7 11).bind fun b8 => (hm_AT_inputsOnWay G S b8 p1 p2).bind fun q11 => hm_SE_path_L31 G S o q11))
set_option maxHeartbeats 4000000 in
set_option maxRecDepth 100000 in
/-- SignalEngine.path(II)I -/
theorem hm_SE_path_ok (l : Launch) (D : va_G) (G : hg_E) (Z : hg_S) (o : Nat) (p1 : Int32) (p2 : Int32) (q : Int32) (hq : hm_SE_path G Z o p1 p2 = some q) : hg_C l ⟨"SignalEngine", "path", "(II)I"⟩ prog_1_method_18_code 3 (some (.int)) 1 24 D G [.ref o, .int p1, .int p2] Z (.inl (some (.int q), Z) : hg_O) := by
  refine hg_start (cv := fun q => (.inl (some (.int q), Z) : hg_O)) hq ?_
  intro F hF h
  refine hg_enter (lv := [(0, va_rf (some o)), (1, .int p1), (2, .int p2)]) (by decide +kernel) (by simp [lg_sl, va_rf_cat, hg_cti, hg_ctr]) (by simp [lv_args, va_rf_cat, va_rf_some, hg_cti, hg_ctr]) ?_
  intro X hC hR
  have lab_31 : ∀ (y0 : Int32), dc_wp (hm_SE_path_L31 G Z o y0) F → hg_G X l (hg_rm 1 24 Z) D 3 Z 31 [(0, va_rf (some o))] [.int y0] := by
    intro y0 h
    delta hm_SE_path_L31 at h
    exact hg_iret (pc := 31) hC hR (hF _ (dc_some h)) (show decode prog_1_method_18_code 31 = .ok (.ireturn, 1) by decide +kernel)
  have lab_30 : dc_wp (hm_SE_path_L30 G Z o) F → hg_G X l (hg_rm 1 24 Z) D 3 Z 30 [(0, va_rf (some o))] [] := by
    intro  h
    delta hm_SE_path_L30 at h
    refine hg_iconst (pc := 30) (v := (-1)) hC (show decode prog_1_method_18_code 30 = .ok (.iconst (-1), 1) by decide +kernel) (by decide +kernel) ?_
    exact lab_31 (-1) h
  show hg_G X l (hg_rm 1 24 Z) D 3 Z 0 [(0, va_rf (some o)), (1, .int p1), (2, .int p2)] []
  have h : dc_wp (hm_SE_path G Z o p1 p2) F := h
  delta hm_SE_path at h
  refine hg_aloadn (pc := 0) (j := 0) (i := 0) (r := (some o)) hC 0 rfl rfl (show decode prog_1_method_18_code 0 = .ok (.aload_n 0, 1) by decide +kernel) ?_
  refine hg_rgi (pc := 1) (r := (some o)) hC fl_SignalEngine_91 (show decode prog_1_method_18_code 1 = .ok (.getfield 91, 3) by decide +kernel) h ?_
  intro e1 h
  refine hg_if_eq (pc := 4) (tgt := 30) hC (show decode prog_1_method_18_code 4 = .ok (.ifCond .eq 26, 3) by decide +kernel) (by decide +kernel) h ?_ ?_
  · intro h
    exact hg_sub [0] rfl (lab_30 h)
  · intro h
    refine hg_aloadn (pc := 7) (j := 0) (i := 0) (r := (some o)) hC 0 rfl rfl (show decode prog_1_method_18_code 7 = .ok (.aload_n 0, 1) by decide +kernel) ?_
    refine hg_rgr (pc := 8) (r := (some o)) hC fl_SignalEngine_169 (show decode prog_1_method_18_code 8 = .ok (.getfield 169, 3) by decide +kernel) h ?_
    intro e2 h
    refine hg_iloadn (pc := 11) (j := 1) (i := 1) hC 1 rfl rfl (show decode prog_1_method_18_code 11 = .ok (.iload_n 1, 1) by decide +kernel) ?_
    obtain ⟨b3, hb4, h⟩ := dc_bind h
    obtain ⟨hb4, hv5⟩ := hg_chk_of (C := R_AT) rfl hb4
    refine hg_kVi (pc := 12) (b := b3) (r := e2) (As := [.int p1]) (rest := []) (vo := fun q => q) (so := fun q => Z) hC cw_SignalEngine_173 (fun q hq => hm_AT_reaches_ok l D G Z b3 p1 q hq) (Nat.le_of_ble_eq_true rfl) (Nat.le_of_ble_eq_true rfl) hb4 hv5 rfl (Nat.le_of_ble_eq_true rfl) (show decode prog_1_method_18_code 12 = .ok (.invokevirtual 173, 3) by decide +kernel) h ?_
    intro q6 h
    refine hg_if_eq (pc := 15) (tgt := 30) hC (show decode prog_1_method_18_code 15 = .ok (.ifCond .eq 15, 3) by decide +kernel) (by decide +kernel) h ?_ ?_
    · intro h
      exact hg_sub [0] rfl (lab_30 h)
    · intro h
      refine hg_aloadn (pc := 18) (j := 0) (i := 0) (r := (some o)) hC 0 rfl rfl (show decode prog_1_method_18_code 18 = .ok (.aload_n 0, 1) by decide +kernel) ?_
      refine hg_rgr (pc := 19) (r := (some o)) hC fl_SignalEngine_169 (show decode prog_1_method_18_code 19 = .ok (.getfield 169, 3) by decide +kernel) h ?_
      intro e7 h
      refine hg_iloadn (pc := 22) (j := 1) (i := 1) hC 1 rfl rfl (show decode prog_1_method_18_code 22 = .ok (.iload_n 1, 1) by decide +kernel) ?_
      refine hg_iloadn (pc := 23) (j := 2) (i := 2) hC 2 rfl rfl (show decode prog_1_method_18_code 23 = .ok (.iload_n 2, 1) by decide +kernel) ?_
      obtain ⟨b8, hb9, h⟩ := dc_bind h
      obtain ⟨hb9, hv10⟩ := hg_chk_of (C := R_AT) rfl hb9
      refine hg_kVi (pc := 24) (b := b8) (r := e7) (As := [.int p1, .int p2]) (rest := []) (vo := fun q => q) (so := fun q => Z) hC cw_SignalEngine_194 (fun q hq => hm_AT_inputsOnWay_ok l D G Z b8 p1 p2 q hq) (Nat.le_of_ble_eq_true rfl) (Nat.le_of_ble_eq_true rfl) hb9 hv10 rfl (Nat.le_of_ble_eq_true rfl) (show decode prog_1_method_18_code 24 = .ok (.invokevirtual 194, 3) by decide +kernel) h ?_
      intro q11 h
      refine hg_goto (pc := 27) (tgt := 31) hC (show decode prog_1_method_18_code 27 = .ok (.goto 4, 3) by decide +kernel) (by decide +kernel) ?_
      exact hg_sub [0] rfl (lab_31 q11 h)
noncomputable def hm_SE_doubt_L18 (G : hg_E) (S : hg_S) (o : Nat) : Option (Int32) :=
  some (-1)
noncomputable def hm_SE_doubt (G : hg_E) (S : hg_S) (o : Nat) (p1 : Int32) : Option (Int32) :=
  (hg_gi S (some o) 0 12).bind fun e1 => if e1 = 0 then (hm_SE_doubt_L18 G S o) else ((hg_gr S (some o) 0 10).bind fun e2 => (hg_gi S e2 11 13).bind fun e3 => if e3 = (-1) then (hm_SE_doubt_L18 G S o) else (dc_let (p1 : Int32) fun v4 => if v4 = 0 then ((hg_gr S (some o) 0 10).bind fun e5 => (hg_gr S e5 11 2).bind fun e6 => (hg_gr S (some o) 0 10).bind fun e7 => (hg_gi S e7 11 13).bind fun e8 => (hg_ld S e6 (G.1 0) e8).bind fun e9 => some e9) else if v4 = 1 then ((hg_gr S (some o) 0 10).bind fun e11 => (hg_gi S e11 11 13).bind fun e12 => some e12) else if v4 = 2 then ((hg_gr S (some o) 0 10).bind fun e14 => (hg_gi S e14 11 14).bind fun e15 => some e15) else (some (-1))))
set_option maxHeartbeats 4000000 in
set_option maxRecDepth 100000 in
/-- SignalEngine.doubt(I)I -/
theorem hm_SE_doubt_ok (l : Launch) (D : va_G) (G : hg_E) (Z : hg_S) (o : Nat) (p1 : Int32) (q : Int32) (hq : hm_SE_doubt G Z o p1 = some q) : hg_C l ⟨"SignalEngine", "doubt", "(I)I"⟩ prog_1_method_21_code 2 (some (.int)) 0 0 D G [.ref o, .int p1] Z (.inl (some (.int q), Z) : hg_O) := by
  refine hg_start (cv := fun q => (.inl (some (.int q), Z) : hg_O)) hq ?_
  intro F hF h
  refine hg_enter (lv := [(0, va_rf (some o)), (1, .int p1)]) (by decide +kernel) (by simp [lg_sl, va_rf_cat, hg_cti, hg_ctr]) (by simp [lv_args, va_rf_cat, va_rf_some, hg_cti, hg_ctr]) ?_
  intro X hC hR
  have lab_18 : dc_wp (hm_SE_doubt_L18 G Z o) F → hg_G X l (hg_rm 0 0 Z) D 2 Z 18 [(0, va_rf (some o))] [] := by
    intro  h
    delta hm_SE_doubt_L18 at h
    refine hg_iconst (pc := 18) (v := (-1)) hC (show decode prog_1_method_21_code 18 = .ok (.iconst (-1), 1) by decide +kernel) (by decide +kernel) ?_
    exact hg_iret (pc := 19) hC hR (hF _ (dc_some h)) (show decode prog_1_method_21_code 19 = .ok (.ireturn, 1) by decide +kernel)
  show hg_G X l (hg_rm 0 0 Z) D 2 Z 0 [(0, va_rf (some o)), (1, .int p1)] []
  have h : dc_wp (hm_SE_doubt G Z o p1) F := h
  delta hm_SE_doubt at h
  refine hg_aloadn (pc := 0) (j := 0) (i := 0) (r := (some o)) hC 0 rfl rfl (show decode prog_1_method_21_code 0 = .ok (.aload_n 0, 1) by decide +kernel) ?_
  refine hg_rgi (pc := 1) (r := (some o)) hC fl_SignalEngine_91 (show decode prog_1_method_21_code 1 = .ok (.getfield 91, 3) by decide +kernel) h ?_
  intro e1 h
  refine hg_if_eq (pc := 4) (tgt := 18) hC (show decode prog_1_method_21_code 4 = .ok (.ifCond .eq 14, 3) by decide +kernel) (by decide +kernel) h ?_ ?_
  · intro h
    exact hg_sub [0] rfl (lab_18 h)
  · intro h
    refine hg_aloadn (pc := 7) (j := 0) (i := 0) (r := (some o)) hC 0 rfl rfl (show decode prog_1_method_21_code 7 = .ok (.aload_n 0, 1) by decide +kernel) ?_
    refine hg_rgr (pc := 8) (r := (some o)) hC fl_SignalEngine_169 (show decode prog_1_method_21_code 8 = .ok (.getfield 169, 3) by decide +kernel) h ?_
    intro e2 h
    refine hg_rgi (pc := 11) (r := e2) hC fl_SignalEngine_210 (show decode prog_1_method_21_code 11 = .ok (.getfield 210, 3) by decide +kernel) h ?_
    intro e3 h
    refine hg_iconst (pc := 14) (v := (-1)) hC (show decode prog_1_method_21_code 14 = .ok (.iconst (-1), 1) by decide +kernel) (by decide +kernel) ?_
    refine hg_icmp_ne (pc := 15) (tgt := 20) hC (show decode prog_1_method_21_code 15 = .ok (.if_icmp .ne 5, 3) by decide +kernel) (by decide +kernel) h ?_ ?_
    · intro h
      exact hg_sub [0] rfl (lab_18 h)
    · intro h
      refine hg_iloadn (pc := 20) (j := 1) (i := 1) hC 1 rfl rfl (show decode prog_1_method_21_code 20 = .ok (.iload_n 1, 1) by decide +kernel) ?_
      refine hg_letI h ?_
      intro v4 h
      rcases dc_ite h with ⟨hk10, h2⟩ | ⟨hk10, h2⟩
      · subst hk10; clear h; have h := h2; clear h2
        refine hg_tabIn (pc := 21) (off := 27) (tgt := 48) hC dsw_prog_1_method_21_code_21 (by decide +kernel) (by decide +kernel) (by decide +kernel) (by decide +kernel) ?_
        refine hg_aloadn (pc := 48) (j := 0) (i := 0) (r := (some o)) hC 0 rfl rfl (show decode prog_1_method_21_code 48 = .ok (.aload_n 0, 1) by decide +kernel) ?_
        refine hg_rgr (pc := 49) (r := (some o)) hC fl_SignalEngine_169 (show decode prog_1_method_21_code 49 = .ok (.getfield 169, 3) by decide +kernel) h ?_
        intro e5 h
        refine hg_rgr (pc := 52) (r := e5) hC fl_SignalEngine_191 (show decode prog_1_method_21_code 52 = .ok (.getfield 191, 3) by decide +kernel) h ?_
        intro e6 h
        refine hg_aloadn (pc := 55) (j := 0) (i := 0) (r := (some o)) hC 0 rfl rfl (show decode prog_1_method_21_code 55 = .ok (.aload_n 0, 1) by decide +kernel) ?_
        refine hg_rgr (pc := 56) (r := (some o)) hC fl_SignalEngine_169 (show decode prog_1_method_21_code 56 = .ok (.getfield 169, 3) by decide +kernel) h ?_
        intro e7 h
        refine hg_rgi (pc := 59) (r := e7) hC fl_SignalEngine_210 (show decode prog_1_method_21_code 59 = .ok (.getfield 210, 3) by decide +kernel) h ?_
        intro e8 h
        refine hg_riald (pc := 62) (r := e6) hC (show decode prog_1_method_21_code 62 = .ok (.iaload, 1) by decide +kernel) h ?_
        intro e9 h
        exact hg_iret (pc := 63) hC hR (hF _ (dc_some h)) (show decode prog_1_method_21_code 63 = .ok (.ireturn, 1) by decide +kernel)
      clear h; have h := h2; clear h2
      rcases dc_ite h with ⟨hk13, h2⟩ | ⟨hk13, h2⟩
      · subst hk13; clear h; have h := h2; clear h2
        refine hg_tabIn (pc := 21) (off := 43) (tgt := 64) hC dsw_prog_1_method_21_code_21 (by decide +kernel) (by decide +kernel) (by decide +kernel) (by decide +kernel) ?_
        refine hg_aloadn (pc := 64) (j := 0) (i := 0) (r := (some o)) hC 0 rfl rfl (show decode prog_1_method_21_code 64 = .ok (.aload_n 0, 1) by decide +kernel) ?_
        refine hg_rgr (pc := 65) (r := (some o)) hC fl_SignalEngine_169 (show decode prog_1_method_21_code 65 = .ok (.getfield 169, 3) by decide +kernel) h ?_
        intro e11 h
        refine hg_rgi (pc := 68) (r := e11) hC fl_SignalEngine_210 (show decode prog_1_method_21_code 68 = .ok (.getfield 210, 3) by decide +kernel) h ?_
        intro e12 h
        exact hg_iret (pc := 71) hC hR (hF _ (dc_some h)) (show decode prog_1_method_21_code 71 = .ok (.ireturn, 1) by decide +kernel)
      clear h; have h := h2; clear h2
      rcases dc_ite h with ⟨hk16, h2⟩ | ⟨hk16, h2⟩
      · subst hk16; clear h; have h := h2; clear h2
        refine hg_tabIn (pc := 21) (off := 51) (tgt := 72) hC dsw_prog_1_method_21_code_21 (by decide +kernel) (by decide +kernel) (by decide +kernel) (by decide +kernel) ?_
        refine hg_aloadn (pc := 72) (j := 0) (i := 0) (r := (some o)) hC 0 rfl rfl (show decode prog_1_method_21_code 72 = .ok (.aload_n 0, 1) by decide +kernel) ?_
        refine hg_rgr (pc := 73) (r := (some o)) hC fl_SignalEngine_169 (show decode prog_1_method_21_code 73 = .ok (.getfield 169, 3) by decide +kernel) h ?_
        intro e14 h
        refine hg_rgi (pc := 76) (r := e14) hC fl_SignalEngine_213 (show decode prog_1_method_21_code 76 = .ok (.getfield 213, 3) by decide +kernel) h ?_
        intro e15 h
        exact hg_iret (pc := 79) hC hR (hF _ (dc_some h)) (show decode prog_1_method_21_code 79 = .ok (.ireturn, 1) by decide +kernel)
      clear h; have h := h2; clear h2
      refine hg_tabOut (pc := 21) (tgt := 80) hC dsw_prog_1_method_21_code_21 (by have := dc_swc hk10 (show (0 : Int32).toInt = 0 by decide +kernel); have := dc_swc hk13 (show (1 : Int32).toInt = 1 by decide +kernel); have := dc_swc hk16 (show (2 : Int32).toInt = 2 by decide +kernel); omega) (by decide +kernel) ?_
      refine hg_iconst (pc := 80) (v := (-1)) hC (show decode prog_1_method_21_code 80 = .ok (.iconst (-1), 1) by decide +kernel) (by decide +kernel) ?_
      exact hg_iret (pc := 81) hC hR (hF _ (dc_some h)) (show decode prog_1_method_21_code 81 = .ok (.ireturn, 1) by decide +kernel)
noncomputable def hm_PG_hasOutput_L17 (G : hg_E) (S : hg_S) (o : Nat) (y0 : Int32) : Option (Int32) :=
  (dc_zb y0).bind fun _ => some y0
noncomputable def hm_PG_hasOutput_L16 (G : hg_E) (S : hg_S) (o : Nat) : Option (Int32) :=
  hm_PG_hasOutput_L17 G S o 0
noncomputable def hm_PG_hasOutput (G : hg_E) (S : hg_S) (o : Nat) (p1 : Int32) : Option (Int32) :=
  if p1 < 0 then (hm_PG_hasOutput_L16 G S o) else ((hg_gi S (some o) 9 2).bind fun e2 => if p1 < e2 then (hm_PG_hasOutput_L17 G S o 1) else (hm_PG_hasOutput_L16 G S o))
set_option maxHeartbeats 4000000 in
set_option maxRecDepth 100000 in
/-- SignalEngine$Program.hasOutput(I)Z -/
theorem hm_PG_hasOutput_ok (l : Launch) (D : va_G) (G : hg_E) (Z : hg_S) (o : Nat) (p1 : Int32) (q : Int32) (hq : hm_PG_hasOutput G Z o p1 = some q) : hg_C l ⟨"SignalEngine$Program", "hasOutput", "(I)Z"⟩ prog_11_method_5_code 2 (some (.boolean)) 0 0 D G [.ref o, .int p1] Z (.inl (some (.int q), Z) : hg_O) := by
  refine hg_start (cv := fun q => (.inl (some (.int q), Z) : hg_O)) hq ?_
  intro F hF h
  refine hg_enter (lv := [(0, va_rf (some o)), (1, .int p1)]) (by decide +kernel) (by simp [lg_sl, va_rf_cat, hg_cti, hg_ctr]) (by simp [lv_args, va_rf_cat, va_rf_some, hg_cti, hg_ctr]) ?_
  intro X hC hR
  have lab_17 : ∀ (y0 : Int32), dc_wp (hm_PG_hasOutput_L17 G Z o y0) F → hg_G X l (hg_rm 0 0 Z) D 2 Z 17 [(0, va_rf (some o))] [.int y0] := by
    intro y0 h
    delta hm_PG_hasOutput_L17 at h
    obtain ⟨hz1, h⟩ := dc_zb_wp (dc_bind h)
    exact hg_zret (pc := 17) hC hR hz1 (hF _ (dc_some h)) (show decode prog_11_method_5_code 17 = .ok (.ireturn, 1) by decide +kernel)
  have lab_16 : dc_wp (hm_PG_hasOutput_L16 G Z o) F → hg_G X l (hg_rm 0 0 Z) D 2 Z 16 [(0, va_rf (some o))] [] := by
    intro  h
    delta hm_PG_hasOutput_L16 at h
    refine hg_iconst (pc := 16) (v := 0) hC (show decode prog_11_method_5_code 16 = .ok (.iconst 0, 1) by decide +kernel) (by decide +kernel) ?_
    exact lab_17 0 h
  show hg_G X l (hg_rm 0 0 Z) D 2 Z 0 [(0, va_rf (some o)), (1, .int p1)] []
  have h : dc_wp (hm_PG_hasOutput G Z o p1) F := h
  delta hm_PG_hasOutput at h
  refine hg_iloadn (pc := 0) (j := 1) (i := 1) hC 1 rfl rfl (show decode prog_11_method_5_code 0 = .ok (.iload_n 1, 1) by decide +kernel) ?_
  refine hg_if_lt (pc := 1) (tgt := 16) hC (show decode prog_11_method_5_code 1 = .ok (.ifCond .lt 15, 3) by decide +kernel) (by decide +kernel) h ?_ ?_
  · intro h
    exact hg_sub [0] rfl (lab_16 h)
  · intro h
    refine hg_iloadn (pc := 4) (j := 1) (i := 1) hC 1 rfl rfl (show decode prog_11_method_5_code 4 = .ok (.iload_n 1, 1) by decide +kernel) ?_
    refine hg_aloadn (pc := 5) (j := 0) (i := 0) (r := (some o)) hC 0 rfl rfl (show decode prog_11_method_5_code 5 = .ok (.aload_n 0, 1) by decide +kernel) ?_
    refine hg_rgi (pc := 6) (r := (some o)) hC fl_SignalEngine_Program_44 (show decode prog_11_method_5_code 6 = .ok (.getfield 44, 3) by decide +kernel) h ?_
    intro e2 h
    refine hg_icmp_ge (pc := 9) (tgt := 16) hC (show decode prog_11_method_5_code 9 = .ok (.if_icmp .ge 7, 3) by decide +kernel) (by decide +kernel) h ?_ ?_
    · intro h
      refine hg_iconst (pc := 12) (v := 1) hC (show decode prog_11_method_5_code 12 = .ok (.iconst 1, 1) by decide +kernel) (by decide +kernel) ?_
      refine hg_goto (pc := 13) (tgt := 17) hC (show decode prog_11_method_5_code 13 = .ok (.goto 4, 3) by decide +kernel) (by decide +kernel) ?_
      exact hg_sub [0] rfl (lab_17 1 h)
    · intro h
      exact hg_sub [0] rfl (lab_16 h)
noncomputable def hm_AT_cell (G : hg_E) (S : hg_S) (p0 : Int32) (p1 : Int32) : Option (Int32) :=
  some ((p0 * 16) + p1)
set_option maxHeartbeats 4000000 in
set_option maxRecDepth 100000 in
/-- SignalEngine$Atlas.cell(II)I -/
theorem hm_AT_cell_ok (l : Launch) (D : va_G) (G : hg_E) (Z : hg_S) (p0 : Int32) (p1 : Int32) (q : Int32) (hq : hm_AT_cell G Z p0 p1 = some q) : hg_C l ⟨"SignalEngine$Atlas", "cell", "(II)I"⟩ prog_3_method_2_code 2 (some (.int)) 0 0 D G [.int p0, .int p1] Z (.inl (some (.int q), Z) : hg_O) := by
  refine hg_start (cv := fun q => (.inl (some (.int q), Z) : hg_O)) hq ?_
  intro F hF h
  refine hg_enter (lv := [(0, .int p0), (1, .int p1)]) (by decide +kernel) (by simp [lg_sl, va_rf_cat, hg_cti, hg_ctr]) (by simp [lv_args, va_rf_cat, va_rf_some, hg_cti, hg_ctr]) ?_
  intro X hC hR
  show hg_G X l (hg_rm 0 0 Z) D 2 Z 0 [(0, .int p0), (1, .int p1)] []
  have h : dc_wp (hm_AT_cell G Z p0 p1) F := h
  delta hm_AT_cell at h
  refine hg_iloadn (pc := 0) (j := 0) (i := 0) hC 0 rfl rfl (show decode prog_3_method_2_code 0 = .ok (.iload_n 0, 1) by decide +kernel) ?_
  refine hg_bipush (pc := 1) (v := 16) hC (show decode prog_3_method_2_code 1 = .ok (.bipush 16, 2) by decide +kernel) (by decide +kernel) ?_
  refine hg_imul (pc := 3) hC (show decode prog_3_method_2_code 3 = .ok (.imul, 1) by decide +kernel) ?_
  refine hg_iloadn (pc := 4) (j := 1) (i := 1) hC 1 rfl rfl (show decode prog_3_method_2_code 4 = .ok (.iload_n 1, 1) by decide +kernel) ?_
  refine hg_iadd (pc := 5) hC (show decode prog_3_method_2_code 5 = .ok (.iadd, 1) by decide +kernel) ?_
  exact hg_iret (pc := 6) hC hR (hF _ (dc_some h)) (show decode prog_3_method_2_code 6 = .ok (.ireturn, 1) by decide +kernel)
noncomputable def hm_AT_reactionsWith_L76 (G : hg_E) (S : hg_S) (o : Nat) (x2 : Int32) : Option (Int32) :=
  some x2
noncomputable def hm_AT_reactionsWith_L70 (G : hg_E) (S : hg_S) (o : Nat) (x1 : Int32) (x2 : Int32) (x3 : Int32) : Option ((Int32 × Int32) ⊕ ((Int32))) :=
  some (.inl (x2, (x3 + 1)))
noncomputable def hm_AT_reactionsWith_L64 (G : hg_E) (S : hg_S) (o : Nat) (x1 : Int32) (x2 : Int32) (x3 : Int32) (x4 : Int32) : Option ((Int32 × Int32) ⊕ ((Int32))) :=
  some (.inl (x2, (x4 + 1)))
noncomputable def hm_AT_reactionsWith_b15 (G : hg_E) (S : hg_S) (o : Nat) (x1 : Int32) (x2 : Int32) (x3 : Int32) (x4 : Int32) : Option ((Int32 × Int32) ⊕ ((Int32))) :=
  (hg_gi S (some o) 11 8).bind fun e1 => if x4 < e1 then ((hg_gr S (some o) 11 5).bind fun e2 => (hg_ld S e2 (G.1 0) x3).bind fun e3 => (hm_AT_cell G S e3 x4).bind fun q4 => (hg_gr S (some o) 11 0).bind fun e5 => (hg_ld S e5 (G.1 0) q4).bind fun e6 => if e6 = (-1) then (hm_AT_reactionsWith_L64 G S o x1 x2 x3 x4) else ((hg_gr S (some o) 11 1).bind fun e7 => (hg_ld S e7 (G.1 0) q4).bind fun e8 => if (e8 &&& x1) = x1 then (hm_AT_reactionsWith_L64 G S o x1 (x2 + 1) x3 x4) else (hm_AT_reactionsWith_L64 G S o x1 x2 x3 x4))) else (some (.inr x2))
noncomputable def hm_AT_reactionsWith_s15 (G : hg_E) (S : hg_S) (o : Nat) (x1 : Int32) (x3 : Int32) (q : Int32 × Int32) : Option ((Int32 × Int32) ⊕ ((Int32))) :=
  hm_AT_reactionsWith_b15 G S o x1 q.1 x3 q.2
noncomputable def hm_AT_reactionsWith_L15 (G : hg_E) (S : hg_S) (o : Nat) (x1 : Int32) (x2 : Int32) (x3 : Int32) (x4 : Int32) : Option ((Int32 × Int32) ⊕ ((Int32))) :=
  (dc_it (hm_AT_reactionsWith_s15 G S o x1 x3) (x2, x4)).bind (fun (z : Int32) => hm_AT_reactionsWith_L70 G S o x1 z x3)
noncomputable def hm_AT_reactionsWith_b4 (G : hg_E) (S : hg_S) (o : Nat) (x1 : Int32) (x2 : Int32) (x3 : Int32) : Option ((Int32 × Int32) ⊕ ((Int32))) :=
  (hg_gi S (some o) 11 9).bind fun e9 => if x3 < e9 then (hm_AT_reactionsWith_L15 G S o x1 x2 x3 0) else (some (.inr x2))
noncomputable def hm_AT_reactionsWith_s4 (G : hg_E) (S : hg_S) (o : Nat) (x1 : Int32) (q : Int32 × Int32) : Option ((Int32 × Int32) ⊕ ((Int32))) :=
  hm_AT_reactionsWith_b4 G S o x1 q.1 q.2
noncomputable def hm_AT_reactionsWith_L4 (G : hg_E) (S : hg_S) (o : Nat) (x1 : Int32) (x2 : Int32) (x3 : Int32) : Option (Int32) :=
  (dc_it (hm_AT_reactionsWith_s4 G S o x1) (x2, x3)).bind (fun (z : Int32) => hm_AT_reactionsWith_L76 G S o z)
noncomputable def hm_AT_reactionsWith (G : hg_E) (S : hg_S) (o : Nat) (p1 : Int32) : Option (Int32) :=
  hm_AT_reactionsWith_L4 G S o p1 0 0
set_option maxHeartbeats 4000000 in
set_option maxRecDepth 100000 in
/-- SignalEngine$Atlas.reactionsWith(I)I -/
theorem hm_AT_reactionsWith_ok (l : Launch) (D : va_G) (G : hg_E) (Z : hg_S) (o : Nat) (p1 : Int32) (q : Int32) (hq : hm_AT_reactionsWith G Z o p1 = some q) : hg_C l ⟨"SignalEngine$Atlas", "reactionsWith", "(I)I"⟩ prog_3_method_11_code 6 (some (.int)) 1 21 D G [.ref o, .int p1] Z (.inl (some (.int q), Z) : hg_O) := by
  refine hg_start (cv := fun q => (.inl (some (.int q), Z) : hg_O)) hq ?_
  intro F hF h
  refine hg_enter (lv := [(0, va_rf (some o)), (1, .int p1)]) (by decide +kernel) (by simp [lg_sl, va_rf_cat, hg_cti, hg_ctr]) (by simp [lv_args, va_rf_cat, va_rf_some, hg_cti, hg_ctr]) ?_
  intro X hC hR
  have lab_76 : ∀ (x2 : Int32), dc_wp (hm_AT_reactionsWith_L76 G Z o x2) F → hg_G X l (hg_rm 1 21 Z) D 6 Z 76 [(0, va_rf (some o)), (2, .int x2)] [] := by
    intro x2 h
    delta hm_AT_reactionsWith_L76 at h
    refine hg_iloadn (pc := 76) (j := 2) (i := 2) hC 1 rfl rfl (show decode prog_3_method_11_code 76 = .ok (.iload_n 2, 1) by decide +kernel) ?_
    exact hg_iret (pc := 77) hC hR (hF _ (dc_some h)) (show decode prog_3_method_11_code 77 = .ok (.ireturn, 1) by decide +kernel)
  have loop_4 : ∀ (x1 : Int32) (q : Int32 × Int32), dc_wp (dc_it (hm_AT_reactionsWith_s4 G Z o x1) q) (fun z => dc_wp ((fun (z : Int32) => hm_AT_reactionsWith_L76 G Z o z) z) F) → hg_G X l (hg_rm 1 21 Z) D 6 Z 4 [(0, va_rf (some o)), (1, .int x1), (2, .int q.1), (3, .int q.2)] [] := by
    intro x1
    refine dc_loopF ?_
    intro F_4 hl_4 hr_4
    have lab_70 : ∀ (x2 : Int32) (x3 : Int32), dc_wp (hm_AT_reactionsWith_L70 G Z o x1 x2 x3) F_4 → hg_G X l (hg_rm 1 21 Z) D 6 Z 70 [(0, va_rf (some o)), (1, .int x1), (2, .int x2), (3, .int x3)] [] := by
      intro x2 x3 h
      delta hm_AT_reactionsWith_L70 at h
      refine hg_iinc (pc := 70) (i := 3) (v := (x3 + 1)) (lv' := [(3, .int (x3 + 1)), (0, va_rf (some o)), (1, .int x1), (2, .int x2)]) hC 3 rfl rfl (Nat.le_of_ble_eq_true rfl) rfl (show decode prog_3_method_11_code 70 = .ok (.iinc 3 1, 3) by decide +kernel) ?_
      refine hg_goto (pc := 73) (tgt := 4) hC (show decode prog_3_method_11_code 73 = .ok (.goto (-69), 3) by decide +kernel) (by decide +kernel) ?_
      exact hg_sub [1, 2, 3, 0] rfl (hl_4 (x2, (x3 + 1)) (dc_some h))
    have loop_15 : ∀ (x3 : Int32) (q : Int32 × Int32), dc_wp (dc_it (hm_AT_reactionsWith_s15 G Z o x1 x3) q) (fun z => dc_wp ((fun (z : Int32) => hm_AT_reactionsWith_L70 G Z o x1 z x3) z) F_4) → hg_G X l (hg_rm 1 21 Z) D 6 Z 15 [(0, va_rf (some o)), (1, .int x1), (2, .int q.1), (3, .int x3), (4, .int q.2)] [] := by
      intro x3
      refine dc_loopF ?_
      intro F_15 hl_15 hr_15
      have lab_64 : ∀ (x2 : Int32) (x4 : Int32), dc_wp (hm_AT_reactionsWith_L64 G Z o x1 x2 x3 x4) F_15 → hg_G X l (hg_rm 1 21 Z) D 6 Z 64 [(0, va_rf (some o)), (1, .int x1), (2, .int x2), (3, .int x3), (4, .int x4)] [] := by
        intro x2 x4 h
        delta hm_AT_reactionsWith_L64 at h
        refine hg_iinc (pc := 64) (i := 4) (v := (x4 + 1)) (lv' := [(4, .int (x4 + 1)), (0, va_rf (some o)), (1, .int x1), (2, .int x2), (3, .int x3)]) hC 4 rfl rfl (Nat.le_of_ble_eq_true rfl) rfl (show decode prog_3_method_11_code 64 = .ok (.iinc 4 1, 3) by decide +kernel) ?_
        refine hg_goto (pc := 67) (tgt := 15) hC (show decode prog_3_method_11_code 67 = .ok (.goto (-52), 3) by decide +kernel) (by decide +kernel) ?_
        exact hg_sub [1, 2, 3, 4, 0] rfl (hl_15 (x2, (x4 + 1)) (dc_some h))
      rintro ⟨x2, x4⟩ h
      have h : dc_wp (hm_AT_reactionsWith_b15 G Z o x1 x2 x3 x4) F_15 := h
      delta hm_AT_reactionsWith_b15 at h
      refine hg_iload (pc := 15) (i := 4) hC 4 rfl (show decode prog_3_method_11_code 15 = .ok (.iload 4, 2) by decide +kernel) ?_
      refine hg_aloadn (pc := 17) (j := 0) (i := 0) (r := (some o)) hC 0 rfl rfl (show decode prog_3_method_11_code 17 = .ok (.aload_n 0, 1) by decide +kernel) ?_
      refine hg_rgi (pc := 18) (r := (some o)) hC fl_SignalEngine_Atlas_40 (show decode prog_3_method_11_code 18 = .ok (.getfield 40, 3) by decide +kernel) h ?_
      intro e1 h
      refine hg_icmp_ge (pc := 21) (tgt := 70) hC (show decode prog_3_method_11_code 21 = .ok (.if_icmp .ge 49, 3) by decide +kernel) (by decide +kernel) h ?_ ?_
      · intro h
        refine hg_aloadn (pc := 24) (j := 0) (i := 0) (r := (some o)) hC 0 rfl rfl (show decode prog_3_method_11_code 24 = .ok (.aload_n 0, 1) by decide +kernel) ?_
        refine hg_rgr (pc := 25) (r := (some o)) hC fl_SignalEngine_Atlas_27 (show decode prog_3_method_11_code 25 = .ok (.getfield 27, 3) by decide +kernel) h ?_
        intro e2 h
        refine hg_iloadn (pc := 28) (j := 3) (i := 3) hC 3 rfl rfl (show decode prog_3_method_11_code 28 = .ok (.iload_n 3, 1) by decide +kernel) ?_
        refine hg_riald (pc := 29) (r := e2) hC (show decode prog_3_method_11_code 29 = .ok (.iaload, 1) by decide +kernel) h ?_
        intro e3 h
        refine hg_iload (pc := 30) (i := 4) hC 4 rfl (show decode prog_3_method_11_code 30 = .ok (.iload 4, 2) by decide +kernel) ?_
        refine hg_kSi (pc := 32) (As := [.int e3, .int x4]) (rest := []) (vo := fun q => q) (so := fun q => Z) hC cw_SignalEngine_Atlas_87 (fun q hq => hm_AT_cell_ok l D G Z e3 x4 q hq) (Nat.le_of_ble_eq_true rfl) (Nat.le_of_ble_eq_true rfl) rfl (Nat.le_of_ble_eq_true rfl) (show decode prog_3_method_11_code 32 = .ok (.invokestatic 87, 3) by decide +kernel) h ?_
        intro q4 h
        refine hg_istore (pc := 35) (i := 5) (lv' := [(5, .int q4), (0, va_rf (some o)), (1, .int x1), (2, .int x2), (3, .int x3), (4, .int x4)]) hC (Nat.le_of_ble_eq_true rfl) rfl (show decode prog_3_method_11_code 35 = .ok (.istore 5, 2) by decide +kernel) ?_
        refine hg_aloadn (pc := 37) (j := 0) (i := 0) (r := (some o)) hC 1 rfl rfl (show decode prog_3_method_11_code 37 = .ok (.aload_n 0, 1) by decide +kernel) ?_
        refine hg_rgr (pc := 38) (r := (some o)) hC fl_SignalEngine_Atlas_11 (show decode prog_3_method_11_code 38 = .ok (.getfield 11, 3) by decide +kernel) h ?_
        intro e5 h
        refine hg_iload (pc := 41) (i := 5) hC 0 rfl (show decode prog_3_method_11_code 41 = .ok (.iload 5, 2) by decide +kernel) ?_
        refine hg_riald (pc := 43) (r := e5) hC (show decode prog_3_method_11_code 43 = .ok (.iaload, 1) by decide +kernel) h ?_
        intro e6 h
        refine hg_iconst (pc := 44) (v := (-1)) hC (show decode prog_3_method_11_code 44 = .ok (.iconst (-1), 1) by decide +kernel) (by decide +kernel) ?_
        refine hg_icmp_eq (pc := 45) (tgt := 64) hC (show decode prog_3_method_11_code 45 = .ok (.if_icmp .eq 19, 3) by decide +kernel) (by decide +kernel) h ?_ ?_
        · intro h
          exact hg_sub [1, 2, 3, 4, 5] rfl (lab_64 x2 x4 h)
        · intro h
          refine hg_aloadn (pc := 48) (j := 0) (i := 0) (r := (some o)) hC 1 rfl rfl (show decode prog_3_method_11_code 48 = .ok (.aload_n 0, 1) by decide +kernel) ?_
          refine hg_rgr (pc := 49) (r := (some o)) hC fl_SignalEngine_Atlas_15 (show decode prog_3_method_11_code 49 = .ok (.getfield 15, 3) by decide +kernel) h ?_
          intro e7 h
          refine hg_iload (pc := 52) (i := 5) hC 0 rfl (show decode prog_3_method_11_code 52 = .ok (.iload 5, 2) by decide +kernel) ?_
          refine hg_riald (pc := 54) (r := e7) hC (show decode prog_3_method_11_code 54 = .ok (.iaload, 1) by decide +kernel) h ?_
          intro e8 h
          refine hg_iloadn (pc := 55) (j := 1) (i := 1) hC 2 rfl rfl (show decode prog_3_method_11_code 55 = .ok (.iload_n 1, 1) by decide +kernel) ?_
          refine hg_iand (pc := 56) hC (show decode prog_3_method_11_code 56 = .ok (.iand, 1) by decide +kernel) ?_
          refine hg_iloadn (pc := 57) (j := 1) (i := 1) hC 2 rfl rfl (show decode prog_3_method_11_code 57 = .ok (.iload_n 1, 1) by decide +kernel) ?_
          refine hg_icmp_ne (pc := 58) (tgt := 64) hC (show decode prog_3_method_11_code 58 = .ok (.if_icmp .ne 6, 3) by decide +kernel) (by decide +kernel) h ?_ ?_
          · intro h
            refine hg_iinc (pc := 61) (i := 2) (v := (x2 + 1)) (lv' := [(2, .int (x2 + 1)), (5, .int q4), (0, va_rf (some o)), (1, .int x1), (3, .int x3), (4, .int x4)]) hC 3 rfl rfl (Nat.le_of_ble_eq_true rfl) rfl (show decode prog_3_method_11_code 61 = .ok (.iinc 2 1, 3) by decide +kernel) ?_
            exact hg_sub [2, 3, 0, 4, 5] rfl (lab_64 (x2 + 1) x4 h)
          · intro h
            exact hg_sub [1, 2, 3, 4, 5] rfl (lab_64 x2 x4 h)
      · intro h
        have h : dc_wp (hm_AT_reactionsWith_L70 G Z o x1 x2 x3) F_4 := hr_15 x2 (dc_some h)
        exact hg_sub [0, 1, 2, 3] rfl (lab_70 x2 x3 h)
    have lab_15 : ∀ (x2 : Int32) (x3 : Int32) (x4 : Int32), dc_wp (hm_AT_reactionsWith_L15 G Z o x1 x2 x3 x4) F_4 → hg_G X l (hg_rm 1 21 Z) D 6 Z 15 [(0, va_rf (some o)), (1, .int x1), (2, .int x2), (3, .int x3), (4, .int x4)] [] := fun x2 x3 x4 h => loop_15 x3 (x2, x4) (dc_bind h)
    rintro ⟨x2, x3⟩ h
    have h : dc_wp (hm_AT_reactionsWith_b4 G Z o x1 x2 x3) F_4 := h
    delta hm_AT_reactionsWith_b4 at h
    refine hg_iloadn (pc := 4) (j := 3) (i := 3) hC 3 rfl rfl (show decode prog_3_method_11_code 4 = .ok (.iload_n 3, 1) by decide +kernel) ?_
    refine hg_aloadn (pc := 5) (j := 0) (i := 0) (r := (some o)) hC 0 rfl rfl (show decode prog_3_method_11_code 5 = .ok (.aload_n 0, 1) by decide +kernel) ?_
    refine hg_rgi (pc := 6) (r := (some o)) hC fl_SignalEngine_Atlas_58 (show decode prog_3_method_11_code 6 = .ok (.getfield 58, 3) by decide +kernel) h ?_
    intro e9 h
    refine hg_icmp_ge (pc := 9) (tgt := 76) hC (show decode prog_3_method_11_code 9 = .ok (.if_icmp .ge 67, 3) by decide +kernel) (by decide +kernel) h ?_ ?_
    · intro h
      refine hg_iconst (pc := 12) (v := 0) hC (show decode prog_3_method_11_code 12 = .ok (.iconst 0, 1) by decide +kernel) (by decide +kernel) ?_
      refine hg_istore (pc := 13) (i := 4) (lv' := [(4, .int 0), (0, va_rf (some o)), (1, .int x1), (2, .int x2), (3, .int x3)]) hC (Nat.le_of_ble_eq_true rfl) rfl (show decode prog_3_method_11_code 13 = .ok (.istore 4, 2) by decide +kernel) ?_
      exact hg_sub [1, 2, 3, 4, 0] rfl (lab_15 x2 x3 0 h)
    · intro h
      have h : dc_wp (hm_AT_reactionsWith_L76 G Z o x2) F := hr_4 x2 (dc_some h)
      exact hg_sub [0, 2] rfl (lab_76 x2 h)
  have lab_4 : ∀ (x1 : Int32) (x2 : Int32) (x3 : Int32), dc_wp (hm_AT_reactionsWith_L4 G Z o x1 x2 x3) F → hg_G X l (hg_rm 1 21 Z) D 6 Z 4 [(0, va_rf (some o)), (1, .int x1), (2, .int x2), (3, .int x3)] [] := fun x1 x2 x3 h => loop_4 x1 (x2, x3) (dc_bind h)
  show hg_G X l (hg_rm 1 21 Z) D 6 Z 0 [(0, va_rf (some o)), (1, .int p1)] []
  have h : dc_wp (hm_AT_reactionsWith G Z o p1) F := h
  delta hm_AT_reactionsWith at h
  refine hg_iconst (pc := 0) (v := 0) hC (show decode prog_3_method_11_code 0 = .ok (.iconst 0, 1) by decide +kernel) (by decide +kernel) ?_
  refine hg_istoren (pc := 1) (j := 2) (i := 2) (lv' := [(2, .int 0), (0, va_rf (some o)), (1, .int p1)]) hC rfl (Nat.le_of_ble_eq_true rfl) rfl (show decode prog_3_method_11_code 1 = .ok (.istore_n 2, 1) by decide +kernel) ?_
  refine hg_iconst (pc := 2) (v := 0) hC (show decode prog_3_method_11_code 2 = .ok (.iconst 0, 1) by decide +kernel) (by decide +kernel) ?_
  refine hg_istoren (pc := 3) (j := 3) (i := 3) (lv' := [(3, .int 0), (2, .int 0), (0, va_rf (some o)), (1, .int p1)]) hC rfl (Nat.le_of_ble_eq_true rfl) rfl (show decode prog_3_method_11_code 3 = .ok (.istore_n 3, 1) by decide +kernel) ?_
  exact hg_sub [2, 3, 1, 0] rfl (lab_4 p1 0 0 h)
noncomputable def hm_SE_together_L39 (G : hg_E) (S : hg_S) (o : Nat) : Option (Int32) :=
  some (-1)
noncomputable def hm_SE_together (G : hg_E) (S : hg_S) (o : Nat) (p1 : Int32) (p2 : Int32) : Option (Int32) :=
  (hg_gi S (some o) 0 12).bind fun e1 => if e1 = 0 then (hm_SE_together_L39 G S o) else ((hg_gr S (some o) 0 10).bind fun e2 => (hg_gi S e2 11 10).bind fun e3 => if e3 = 0 then (hm_SE_together_L39 G S o) else ((hg_gr S (some o) 0 3).bind fun e4 => (hg_chk S e4 9).bind fun b5 => (hm_PG_hasOutput G S b5 p1).bind fun q8 => if q8 = 0 then (hm_SE_together_L39 G S o) else ((hg_gr S (some o) 0 3).bind fun e9 => (hg_chk S e9 9).bind fun b10 => (hm_PG_hasOutput G S b10 p2).bind fun q13 => if q13 = 0 then (hm_SE_together_L39 G S o) else ((hg_gr S (some o) 0 10).bind fun e14 => (hg_chk S e14 11).bind fun b15 => (hm_AT_reactionsWith G S b15 (((((1 : Int32) <<< (p1 &&& (31 : Int32)))) ||| (((1 : Int32) <<< (p2 &&& (31 : Int32))))))).bind fun q18 => some q18))))
set_option maxHeartbeats 4000000 in
set_option maxRecDepth 100000 in
/-- SignalEngine.together(II)I -/
theorem hm_SE_together_ok (l : Launch) (D : va_G) (G : hg_E) (Z : hg_S) (o : Nat) (p1 : Int32) (p2 : Int32) (q : Int32) (hq : hm_SE_together G Z o p1 p2 = some q) : hg_C l ⟨"SignalEngine", "together", "(II)I"⟩ prog_1_method_23_code 3 (some (.int)) 2 46 D G [.ref o, .int p1, .int p2] Z (.inl (some (.int q), Z) : hg_O) := by
  refine hg_start (cv := fun q => (.inl (some (.int q), Z) : hg_O)) hq ?_
  intro F hF h
  refine hg_enter (lv := [(0, va_rf (some o)), (1, .int p1), (2, .int p2)]) (by decide +kernel) (by simp [lg_sl, va_rf_cat, hg_cti, hg_ctr]) (by simp [lv_args, va_rf_cat, va_rf_some, hg_cti, hg_ctr]) ?_
  intro X hC hR
  have lab_39 : dc_wp (hm_SE_together_L39 G Z o) F → hg_G X l (hg_rm 2 46 Z) D 3 Z 39 [(0, va_rf (some o))] [] := by
    intro  h
    delta hm_SE_together_L39 at h
    refine hg_iconst (pc := 39) (v := (-1)) hC (show decode prog_1_method_23_code 39 = .ok (.iconst (-1), 1) by decide +kernel) (by decide +kernel) ?_
    exact hg_iret (pc := 40) hC hR (hF _ (dc_some h)) (show decode prog_1_method_23_code 40 = .ok (.ireturn, 1) by decide +kernel)
  show hg_G X l (hg_rm 2 46 Z) D 3 Z 0 [(0, va_rf (some o)), (1, .int p1), (2, .int p2)] []
  have h : dc_wp (hm_SE_together G Z o p1 p2) F := h
  delta hm_SE_together at h
  refine hg_aloadn (pc := 0) (j := 0) (i := 0) (r := (some o)) hC 0 rfl rfl (show decode prog_1_method_23_code 0 = .ok (.aload_n 0, 1) by decide +kernel) ?_
  refine hg_rgi (pc := 1) (r := (some o)) hC fl_SignalEngine_91 (show decode prog_1_method_23_code 1 = .ok (.getfield 91, 3) by decide +kernel) h ?_
  intro e1 h
  refine hg_if_eq (pc := 4) (tgt := 39) hC (show decode prog_1_method_23_code 4 = .ok (.ifCond .eq 35, 3) by decide +kernel) (by decide +kernel) h ?_ ?_
  · intro h
    exact hg_sub [0] rfl (lab_39 h)
  · intro h
    refine hg_aloadn (pc := 7) (j := 0) (i := 0) (r := (some o)) hC 0 rfl rfl (show decode prog_1_method_23_code 7 = .ok (.aload_n 0, 1) by decide +kernel) ?_
    refine hg_rgr (pc := 8) (r := (some o)) hC fl_SignalEngine_169 (show decode prog_1_method_23_code 8 = .ok (.getfield 169, 3) by decide +kernel) h ?_
    intro e2 h
    refine hg_rgi (pc := 11) (r := e2) hC fl_SignalEngine_219 (show decode prog_1_method_23_code 11 = .ok (.getfield 219, 3) by decide +kernel) h ?_
    intro e3 h
    refine hg_if_eq (pc := 14) (tgt := 39) hC (show decode prog_1_method_23_code 14 = .ok (.ifCond .eq 25, 3) by decide +kernel) (by decide +kernel) h ?_ ?_
    · intro h
      exact hg_sub [0] rfl (lab_39 h)
    · intro h
      refine hg_aloadn (pc := 17) (j := 0) (i := 0) (r := (some o)) hC 0 rfl rfl (show decode prog_1_method_23_code 17 = .ok (.aload_n 0, 1) by decide +kernel) ?_
      refine hg_rgr (pc := 18) (r := (some o)) hC fl_SignalEngine_52 (show decode prog_1_method_23_code 18 = .ok (.getfield 52, 3) by decide +kernel) h ?_
      intro e4 h
      refine hg_iloadn (pc := 21) (j := 1) (i := 1) hC 1 rfl rfl (show decode prog_1_method_23_code 21 = .ok (.iload_n 1, 1) by decide +kernel) ?_
      obtain ⟨b5, hb6, h⟩ := dc_bind h
      obtain ⟨hb6, hv7⟩ := hg_chk_of (C := R_PG) rfl hb6
      refine hg_kVi (pc := 22) (b := b5) (r := e4) (As := [.int p1]) (rest := []) (vo := fun q => q) (so := fun q => Z) hC cw_SignalEngine_220 (fun q hq => hm_PG_hasOutput_ok l D G Z b5 p1 q hq) (Nat.le_of_ble_eq_true rfl) (Nat.le_of_ble_eq_true rfl) hb6 hv7 rfl (Nat.le_of_ble_eq_true rfl) (show decode prog_1_method_23_code 22 = .ok (.invokevirtual 220, 3) by decide +kernel) h ?_
      intro q8 h
      refine hg_if_eq (pc := 25) (tgt := 39) hC (show decode prog_1_method_23_code 25 = .ok (.ifCond .eq 14, 3) by decide +kernel) (by decide +kernel) h ?_ ?_
      · intro h
        exact hg_sub [0] rfl (lab_39 h)
      · intro h
        refine hg_aloadn (pc := 28) (j := 0) (i := 0) (r := (some o)) hC 0 rfl rfl (show decode prog_1_method_23_code 28 = .ok (.aload_n 0, 1) by decide +kernel) ?_
        refine hg_rgr (pc := 29) (r := (some o)) hC fl_SignalEngine_52 (show decode prog_1_method_23_code 29 = .ok (.getfield 52, 3) by decide +kernel) h ?_
        intro e9 h
        refine hg_iloadn (pc := 32) (j := 2) (i := 2) hC 2 rfl rfl (show decode prog_1_method_23_code 32 = .ok (.iload_n 2, 1) by decide +kernel) ?_
        obtain ⟨b10, hb11, h⟩ := dc_bind h
        obtain ⟨hb11, hv12⟩ := hg_chk_of (C := R_PG) rfl hb11
        refine hg_kVi (pc := 33) (b := b10) (r := e9) (As := [.int p2]) (rest := []) (vo := fun q => q) (so := fun q => Z) hC cw_SignalEngine_220 (fun q hq => hm_PG_hasOutput_ok l D G Z b10 p2 q hq) (Nat.le_of_ble_eq_true rfl) (Nat.le_of_ble_eq_true rfl) hb11 hv12 rfl (Nat.le_of_ble_eq_true rfl) (show decode prog_1_method_23_code 33 = .ok (.invokevirtual 220, 3) by decide +kernel) h ?_
        intro q13 h
        refine hg_if_ne (pc := 36) (tgt := 41) hC (show decode prog_1_method_23_code 36 = .ok (.ifCond .ne 5, 3) by decide +kernel) (by decide +kernel) h ?_ ?_
        · intro h
          exact hg_sub [0] rfl (lab_39 h)
        · intro h
          refine hg_aloadn (pc := 41) (j := 0) (i := 0) (r := (some o)) hC 0 rfl rfl (show decode prog_1_method_23_code 41 = .ok (.aload_n 0, 1) by decide +kernel) ?_
          refine hg_rgr (pc := 42) (r := (some o)) hC fl_SignalEngine_169 (show decode prog_1_method_23_code 42 = .ok (.getfield 169, 3) by decide +kernel) h ?_
          intro e14 h
          refine hg_iconst (pc := 45) (v := 1) hC (show decode prog_1_method_23_code 45 = .ok (.iconst 1, 1) by decide +kernel) (by decide +kernel) ?_
          refine hg_iloadn (pc := 46) (j := 1) (i := 1) hC 1 rfl rfl (show decode prog_1_method_23_code 46 = .ok (.iload_n 1, 1) by decide +kernel) ?_
          refine hg_ishl (pc := 47) hC (show decode prog_1_method_23_code 47 = .ok (.ishl, 1) by decide +kernel) ?_
          refine hg_iconst (pc := 48) (v := 1) hC (show decode prog_1_method_23_code 48 = .ok (.iconst 1, 1) by decide +kernel) (by decide +kernel) ?_
          refine hg_iloadn (pc := 49) (j := 2) (i := 2) hC 2 rfl rfl (show decode prog_1_method_23_code 49 = .ok (.iload_n 2, 1) by decide +kernel) ?_
          refine hg_ishl (pc := 50) hC (show decode prog_1_method_23_code 50 = .ok (.ishl, 1) by decide +kernel) ?_
          refine hg_ior (pc := 51) hC (show decode prog_1_method_23_code 51 = .ok (.ior, 1) by decide +kernel) ?_
          obtain ⟨b15, hb16, h⟩ := dc_bind h
          obtain ⟨hb16, hv17⟩ := hg_chk_of (C := R_AT) rfl hb16
          refine hg_kVi (pc := 52) (b := b15) (r := e14) (As := [.int (((((1 : Int32) <<< (p1 &&& (31 : Int32)))) ||| (((1 : Int32) <<< (p2 &&& (31 : Int32))))))]) (rest := []) (vo := fun q => q) (so := fun q => Z) hC cw_SignalEngine_223 (fun q hq => hm_AT_reactionsWith_ok l D G Z b15 (((((1 : Int32) <<< (p1 &&& (31 : Int32)))) ||| (((1 : Int32) <<< (p2 &&& (31 : Int32)))))) q hq) (Nat.le_of_ble_eq_true rfl) (Nat.le_of_ble_eq_true rfl) hb16 hv17 rfl (Nat.le_of_ble_eq_true rfl) (show decode prog_1_method_23_code 52 = .ok (.invokevirtual 223, 3) by decide +kernel) h ?_
          intro q18 h
          exact hg_iret (pc := 55) hC hR (hF _ (dc_some h)) (show decode prog_1_method_23_code 55 = .ok (.ireturn, 1) by decide +kernel)
noncomputable def hm_SE_ever_L34 (G : hg_E) (S : hg_S) (o : Nat) (y0 : Int32) : Option (Int32) :=
  some y0
noncomputable def hm_SE_ever_L16 (G : hg_E) (S : hg_S) (o : Nat) (x2 : Int32) : Option (Int32) :=
  some x2
noncomputable def hm_SE_ever (G : hg_E) (S : hg_S) (o : Nat) (p1 : Int32) : Option (Int32) :=
  (hg_chk S (some o) 0).bind fun b1 => (hm_SE_together G S b1 p1 p1).bind fun q4 => if q4 = (-1) then (hm_SE_ever_L16 G S o q4) else (if q4 = 0 then (hm_SE_ever_L16 G S o q4) else ((hg_gr S (some o) 0 10).bind fun e5 => (hg_gi S e5 11 10).bind fun e6 => if q4 = e6 then (hm_SE_ever_L34 G S o 2) else (hm_SE_ever_L34 G S o 1)))
set_option maxHeartbeats 4000000 in
set_option maxRecDepth 100000 in
/-- SignalEngine.ever(I)I -/
theorem hm_SE_ever_ok (l : Launch) (D : va_G) (G : hg_E) (Z : hg_S) (o : Nat) (p1 : Int32) (q : Int32) (hq : hm_SE_ever G Z o p1 = some q) : hg_C l ⟨"SignalEngine", "ever", "(I)I"⟩ prog_1_method_22_code 3 (some (.int)) 3 68 D G [.ref o, .int p1] Z (.inl (some (.int q), Z) : hg_O) := by
  refine hg_start (cv := fun q => (.inl (some (.int q), Z) : hg_O)) hq ?_
  intro F hF h
  refine hg_enter (lv := [(0, va_rf (some o)), (1, .int p1)]) (by decide +kernel) (by simp [lg_sl, va_rf_cat, hg_cti, hg_ctr]) (by simp [lv_args, va_rf_cat, va_rf_some, hg_cti, hg_ctr]) ?_
  intro X hC hR
  have lab_34 : ∀ (y0 : Int32), dc_wp (hm_SE_ever_L34 G Z o y0) F → hg_G X l (hg_rm 3 68 Z) D 3 Z 34 [(0, va_rf (some o))] [.int y0] := by
    intro y0 h
    delta hm_SE_ever_L34 at h
    exact hg_iret (pc := 34) hC hR (hF _ (dc_some h)) (show decode prog_1_method_22_code 34 = .ok (.ireturn, 1) by decide +kernel)
  have lab_16 : ∀ (x2 : Int32), dc_wp (hm_SE_ever_L16 G Z o x2) F → hg_G X l (hg_rm 3 68 Z) D 3 Z 16 [(0, va_rf (some o)), (2, .int x2)] [] := by
    intro x2 h
    delta hm_SE_ever_L16 at h
    refine hg_iloadn (pc := 16) (j := 2) (i := 2) hC 1 rfl rfl (show decode prog_1_method_22_code 16 = .ok (.iload_n 2, 1) by decide +kernel) ?_
    exact hg_iret (pc := 17) hC hR (hF _ (dc_some h)) (show decode prog_1_method_22_code 17 = .ok (.ireturn, 1) by decide +kernel)
  show hg_G X l (hg_rm 3 68 Z) D 3 Z 0 [(0, va_rf (some o)), (1, .int p1)] []
  have h : dc_wp (hm_SE_ever G Z o p1) F := h
  delta hm_SE_ever at h
  refine hg_aloadn (pc := 0) (j := 0) (i := 0) (r := (some o)) hC 0 rfl rfl (show decode prog_1_method_22_code 0 = .ok (.aload_n 0, 1) by decide +kernel) ?_
  refine hg_iloadn (pc := 1) (j := 1) (i := 1) hC 1 rfl rfl (show decode prog_1_method_22_code 1 = .ok (.iload_n 1, 1) by decide +kernel) ?_
  refine hg_iloadn (pc := 2) (j := 1) (i := 1) hC 1 rfl rfl (show decode prog_1_method_22_code 2 = .ok (.iload_n 1, 1) by decide +kernel) ?_
  obtain ⟨b1, hb2, h⟩ := dc_bind h
  obtain ⟨hb2, hv3⟩ := hg_chk_of (C := R_SE) rfl hb2
  refine hg_kVi (pc := 3) (b := b1) (r := (some o)) (As := [.int p1, .int p1]) (rest := []) (vo := fun q => q) (so := fun q => Z) hC cw_SignalEngine_216 (fun q hq => hm_SE_together_ok l D G Z b1 p1 p1 q hq) (Nat.le_of_ble_eq_true rfl) (Nat.le_of_ble_eq_true rfl) hb2 hv3 rfl (Nat.le_of_ble_eq_true rfl) (show decode prog_1_method_22_code 3 = .ok (.invokevirtual 216, 3) by decide +kernel) h ?_
  intro q4 h
  refine hg_istoren (pc := 6) (j := 2) (i := 2) (lv' := [(2, .int q4), (0, va_rf (some o)), (1, .int p1)]) hC rfl (Nat.le_of_ble_eq_true rfl) rfl (show decode prog_1_method_22_code 6 = .ok (.istore_n 2, 1) by decide +kernel) ?_
  refine hg_iloadn (pc := 7) (j := 2) (i := 2) hC 0 rfl rfl (show decode prog_1_method_22_code 7 = .ok (.iload_n 2, 1) by decide +kernel) ?_
  refine hg_iconst (pc := 8) (v := (-1)) hC (show decode prog_1_method_22_code 8 = .ok (.iconst (-1), 1) by decide +kernel) (by decide +kernel) ?_
  refine hg_icmp_eq (pc := 9) (tgt := 16) hC (show decode prog_1_method_22_code 9 = .ok (.if_icmp .eq 7, 3) by decide +kernel) (by decide +kernel) h ?_ ?_
  · intro h
    exact hg_sub [1, 0] rfl (lab_16 q4 h)
  · intro h
    refine hg_iloadn (pc := 12) (j := 2) (i := 2) hC 0 rfl rfl (show decode prog_1_method_22_code 12 = .ok (.iload_n 2, 1) by decide +kernel) ?_
    refine hg_if_ne (pc := 13) (tgt := 18) hC (show decode prog_1_method_22_code 13 = .ok (.ifCond .ne 5, 3) by decide +kernel) (by decide +kernel) h ?_ ?_
    · intro h
      exact hg_sub [1, 0] rfl (lab_16 q4 h)
    · intro h
      refine hg_iloadn (pc := 18) (j := 2) (i := 2) hC 0 rfl rfl (show decode prog_1_method_22_code 18 = .ok (.iload_n 2, 1) by decide +kernel) ?_
      refine hg_aloadn (pc := 19) (j := 0) (i := 0) (r := (some o)) hC 1 rfl rfl (show decode prog_1_method_22_code 19 = .ok (.aload_n 0, 1) by decide +kernel) ?_
      refine hg_rgr (pc := 20) (r := (some o)) hC fl_SignalEngine_169 (show decode prog_1_method_22_code 20 = .ok (.getfield 169, 3) by decide +kernel) h ?_
      intro e5 h
      refine hg_rgi (pc := 23) (r := e5) hC fl_SignalEngine_219 (show decode prog_1_method_22_code 23 = .ok (.getfield 219, 3) by decide +kernel) h ?_
      intro e6 h
      refine hg_icmp_ne (pc := 26) (tgt := 33) hC (show decode prog_1_method_22_code 26 = .ok (.if_icmp .ne 7, 3) by decide +kernel) (by decide +kernel) h ?_ ?_
      · intro h
        refine hg_iconst (pc := 29) (v := 2) hC (show decode prog_1_method_22_code 29 = .ok (.iconst 2, 1) by decide +kernel) (by decide +kernel) ?_
        refine hg_goto (pc := 30) (tgt := 34) hC (show decode prog_1_method_22_code 30 = .ok (.goto 4, 3) by decide +kernel) (by decide +kernel) ?_
        exact hg_sub [1] rfl (lab_34 2 h)
      · intro h
        refine hg_iconst (pc := 33) (v := 1) hC (show decode prog_1_method_22_code 33 = .ok (.iconst 1, 1) by decide +kernel) (by decide +kernel) ?_
        exact hg_sub [1] rfl (lab_34 1 h)
noncomputable def hm_SE_alike_L31 (G : hg_E) (S : hg_S) (o : Nat) (y0 : Int32) : Option (Int32) :=
  some y0
noncomputable def hm_SE_alike_L30 (G : hg_E) (S : hg_S) (o : Nat) : Option (Int32) :=
  hm_SE_alike_L31 G S o (-1)
noncomputable def hm_SE_alike (G : hg_E) (S : hg_S) (o : Nat) (p1 : Int32) : Option (Int32) :=
  (hg_gi S (some o) 0 12).bind fun e1 => if e1 = 0 then (hm_SE_alike_L30 G S o) else ((hg_gr S (some o) 0 10).bind fun e2 => (hg_chk S e2 11).bind fun b3 => (hm_AT_reaches G S b3 p1).bind fun q6 => if q6 = 0 then (hm_SE_alike_L30 G S o) else ((hg_gr S (some o) 0 10).bind fun e7 => (hg_gr S e7 11 6).bind fun e8 => (hg_ld S e8 (G.1 0) p1).bind fun e9 => hm_SE_alike_L31 G S o e9))
set_option maxHeartbeats 4000000 in
set_option maxRecDepth 100000 in
/-- SignalEngine.alike(I)I -/
theorem hm_SE_alike_ok (l : Launch) (D : va_G) (G : hg_E) (Z : hg_S) (o : Nat) (p1 : Int32) (q : Int32) (hq : hm_SE_alike G Z o p1 = some q) : hg_C l ⟨"SignalEngine", "alike", "(I)I"⟩ prog_1_method_25_code 2 (some (.int)) 1 21 D G [.ref o, .int p1] Z (.inl (some (.int q), Z) : hg_O) := by
  refine hg_start (cv := fun q => (.inl (some (.int q), Z) : hg_O)) hq ?_
  intro F hF h
  refine hg_enter (lv := [(0, va_rf (some o)), (1, .int p1)]) (by decide +kernel) (by simp [lg_sl, va_rf_cat, hg_cti, hg_ctr]) (by simp [lv_args, va_rf_cat, va_rf_some, hg_cti, hg_ctr]) ?_
  intro X hC hR
  have lab_31 : ∀ (y0 : Int32), dc_wp (hm_SE_alike_L31 G Z o y0) F → hg_G X l (hg_rm 1 21 Z) D 2 Z 31 [(0, va_rf (some o))] [.int y0] := by
    intro y0 h
    delta hm_SE_alike_L31 at h
    exact hg_iret (pc := 31) hC hR (hF _ (dc_some h)) (show decode prog_1_method_25_code 31 = .ok (.ireturn, 1) by decide +kernel)
  have lab_30 : dc_wp (hm_SE_alike_L30 G Z o) F → hg_G X l (hg_rm 1 21 Z) D 2 Z 30 [(0, va_rf (some o))] [] := by
    intro  h
    delta hm_SE_alike_L30 at h
    refine hg_iconst (pc := 30) (v := (-1)) hC (show decode prog_1_method_25_code 30 = .ok (.iconst (-1), 1) by decide +kernel) (by decide +kernel) ?_
    exact lab_31 (-1) h
  show hg_G X l (hg_rm 1 21 Z) D 2 Z 0 [(0, va_rf (some o)), (1, .int p1)] []
  have h : dc_wp (hm_SE_alike G Z o p1) F := h
  delta hm_SE_alike at h
  refine hg_aloadn (pc := 0) (j := 0) (i := 0) (r := (some o)) hC 0 rfl rfl (show decode prog_1_method_25_code 0 = .ok (.aload_n 0, 1) by decide +kernel) ?_
  refine hg_rgi (pc := 1) (r := (some o)) hC fl_SignalEngine_91 (show decode prog_1_method_25_code 1 = .ok (.getfield 91, 3) by decide +kernel) h ?_
  intro e1 h
  refine hg_if_eq (pc := 4) (tgt := 30) hC (show decode prog_1_method_25_code 4 = .ok (.ifCond .eq 26, 3) by decide +kernel) (by decide +kernel) h ?_ ?_
  · intro h
    exact hg_sub [0] rfl (lab_30 h)
  · intro h
    refine hg_aloadn (pc := 7) (j := 0) (i := 0) (r := (some o)) hC 0 rfl rfl (show decode prog_1_method_25_code 7 = .ok (.aload_n 0, 1) by decide +kernel) ?_
    refine hg_rgr (pc := 8) (r := (some o)) hC fl_SignalEngine_169 (show decode prog_1_method_25_code 8 = .ok (.getfield 169, 3) by decide +kernel) h ?_
    intro e2 h
    refine hg_iloadn (pc := 11) (j := 1) (i := 1) hC 1 rfl rfl (show decode prog_1_method_25_code 11 = .ok (.iload_n 1, 1) by decide +kernel) ?_
    obtain ⟨b3, hb4, h⟩ := dc_bind h
    obtain ⟨hb4, hv5⟩ := hg_chk_of (C := R_AT) rfl hb4
    refine hg_kVi (pc := 12) (b := b3) (r := e2) (As := [.int p1]) (rest := []) (vo := fun q => q) (so := fun q => Z) hC cw_SignalEngine_173 (fun q hq => hm_AT_reaches_ok l D G Z b3 p1 q hq) (Nat.le_of_ble_eq_true rfl) (Nat.le_of_ble_eq_true rfl) hb4 hv5 rfl (Nat.le_of_ble_eq_true rfl) (show decode prog_1_method_25_code 12 = .ok (.invokevirtual 173, 3) by decide +kernel) h ?_
    intro q6 h
    refine hg_if_eq (pc := 15) (tgt := 30) hC (show decode prog_1_method_25_code 15 = .ok (.ifCond .eq 15, 3) by decide +kernel) (by decide +kernel) h ?_ ?_
    · intro h
      exact hg_sub [0] rfl (lab_30 h)
    · intro h
      refine hg_aloadn (pc := 18) (j := 0) (i := 0) (r := (some o)) hC 0 rfl rfl (show decode prog_1_method_25_code 18 = .ok (.aload_n 0, 1) by decide +kernel) ?_
      refine hg_rgr (pc := 19) (r := (some o)) hC fl_SignalEngine_169 (show decode prog_1_method_25_code 19 = .ok (.getfield 169, 3) by decide +kernel) h ?_
      intro e7 h
      refine hg_rgr (pc := 22) (r := e7) hC fl_SignalEngine_230 (show decode prog_1_method_25_code 22 = .ok (.getfield 230, 3) by decide +kernel) h ?_
      intro e8 h
      refine hg_iloadn (pc := 25) (j := 1) (i := 1) hC 1 rfl rfl (show decode prog_1_method_25_code 25 = .ok (.iload_n 1, 1) by decide +kernel) ?_
      refine hg_riald (pc := 26) (r := e8) hC (show decode prog_1_method_25_code 26 = .ok (.iaload, 1) by decide +kernel) h ?_
      intro e9 h
      refine hg_goto (pc := 27) (tgt := 31) hC (show decode prog_1_method_25_code 27 = .ok (.goto 4, 3) by decide +kernel) (by decide +kernel) ?_
      exact hg_sub [0] rfl (lab_31 e9 h)
noncomputable def hm_SE_level_L33 (G : hg_E) (S : hg_S) (o : Nat) (y0 : Int32) : Option (Int32) :=
  some y0
noncomputable def hm_SE_level_L32 (G : hg_E) (S : hg_S) (o : Nat) : Option (Int32) :=
  hm_SE_level_L33 G S o 0
noncomputable def hm_SE_level (G : hg_E) (S : hg_S) (o : Nat) (p1 : Int32) : Option (Int32) :=
  (hg_gi S (some o) 0 13).bind fun e1 => if e1 = 0 then (hm_SE_level_L32 G S o) else (if p1 < 0 then (hm_SE_level_L32 G S o) else (if p1 < 13 then ((hg_gr S (some o) 0 11).bind fun e2 => (hg_gr S e2 12 2).bind fun e3 => (hg_ld S e3 (G.1 0) (12 - p1)).bind fun e4 => hm_SE_level_L33 G S o e4) else (hm_SE_level_L32 G S o)))
set_option maxHeartbeats 4000000 in
set_option maxRecDepth 100000 in
/-- SignalEngine.level(I)I -/
theorem hm_SE_level_ok (l : Launch) (D : va_G) (G : hg_E) (Z : hg_S) (o : Nat) (p1 : Int32) (q : Int32) (hq : hm_SE_level G Z o p1 = some q) : hg_C l ⟨"SignalEngine", "level", "(I)I"⟩ prog_1_method_28_code 2 (some (.int)) 0 0 D G [.ref o, .int p1] Z (.inl (some (.int q), Z) : hg_O) := by
  refine hg_start (cv := fun q => (.inl (some (.int q), Z) : hg_O)) hq ?_
  intro F hF h
  refine hg_enter (lv := [(0, va_rf (some o)), (1, .int p1)]) (by decide +kernel) (by simp [lg_sl, va_rf_cat, hg_cti, hg_ctr]) (by simp [lv_args, va_rf_cat, va_rf_some, hg_cti, hg_ctr]) ?_
  intro X hC hR
  have lab_33 : ∀ (y0 : Int32), dc_wp (hm_SE_level_L33 G Z o y0) F → hg_G X l (hg_rm 0 0 Z) D 2 Z 33 [(0, va_rf (some o))] [.int y0] := by
    intro y0 h
    delta hm_SE_level_L33 at h
    exact hg_iret (pc := 33) hC hR (hF _ (dc_some h)) (show decode prog_1_method_28_code 33 = .ok (.ireturn, 1) by decide +kernel)
  have lab_32 : dc_wp (hm_SE_level_L32 G Z o) F → hg_G X l (hg_rm 0 0 Z) D 2 Z 32 [(0, va_rf (some o))] [] := by
    intro  h
    delta hm_SE_level_L32 at h
    refine hg_iconst (pc := 32) (v := 0) hC (show decode prog_1_method_28_code 32 = .ok (.iconst 0, 1) by decide +kernel) (by decide +kernel) ?_
    exact lab_33 0 h
  show hg_G X l (hg_rm 0 0 Z) D 2 Z 0 [(0, va_rf (some o)), (1, .int p1)] []
  have h : dc_wp (hm_SE_level G Z o p1) F := h
  delta hm_SE_level at h
  refine hg_aloadn (pc := 0) (j := 0) (i := 0) (r := (some o)) hC 0 rfl rfl (show decode prog_1_method_28_code 0 = .ok (.aload_n 0, 1) by decide +kernel) ?_
  refine hg_rgi (pc := 1) (r := (some o)) hC fl_SignalEngine_94 (show decode prog_1_method_28_code 1 = .ok (.getfield 94, 3) by decide +kernel) h ?_
  intro e1 h
  refine hg_if_eq (pc := 4) (tgt := 32) hC (show decode prog_1_method_28_code 4 = .ok (.ifCond .eq 28, 3) by decide +kernel) (by decide +kernel) h ?_ ?_
  · intro h
    exact hg_sub [0] rfl (lab_32 h)
  · intro h
    refine hg_iloadn (pc := 7) (j := 1) (i := 1) hC 1 rfl rfl (show decode prog_1_method_28_code 7 = .ok (.iload_n 1, 1) by decide +kernel) ?_
    refine hg_if_lt (pc := 8) (tgt := 32) hC (show decode prog_1_method_28_code 8 = .ok (.ifCond .lt 24, 3) by decide +kernel) (by decide +kernel) h ?_ ?_
    · intro h
      exact hg_sub [0] rfl (lab_32 h)
    · intro h
      refine hg_iloadn (pc := 11) (j := 1) (i := 1) hC 1 rfl rfl (show decode prog_1_method_28_code 11 = .ok (.iload_n 1, 1) by decide +kernel) ?_
      refine hg_bipush (pc := 12) (v := 13) hC (show decode prog_1_method_28_code 12 = .ok (.bipush 13, 2) by decide +kernel) (by decide +kernel) ?_
      refine hg_icmp_ge (pc := 14) (tgt := 32) hC (show decode prog_1_method_28_code 14 = .ok (.if_icmp .ge 18, 3) by decide +kernel) (by decide +kernel) h ?_ ?_
      · intro h
        refine hg_aloadn (pc := 17) (j := 0) (i := 0) (r := (some o)) hC 0 rfl rfl (show decode prog_1_method_28_code 17 = .ok (.aload_n 0, 1) by decide +kernel) ?_
        refine hg_rgr (pc := 18) (r := (some o)) hC fl_SignalEngine_233 (show decode prog_1_method_28_code 18 = .ok (.getfield 233, 3) by decide +kernel) h ?_
        intro e2 h
        refine hg_rgr (pc := 21) (r := e2) hC fl_SignalEngine_251 (show decode prog_1_method_28_code 21 = .ok (.getfield 251, 3) by decide +kernel) h ?_
        intro e3 h
        refine hg_bipush (pc := 24) (v := 12) hC (show decode prog_1_method_28_code 24 = .ok (.bipush 12, 2) by decide +kernel) (by decide +kernel) ?_
        refine hg_iloadn (pc := 26) (j := 1) (i := 1) hC 1 rfl rfl (show decode prog_1_method_28_code 26 = .ok (.iload_n 1, 1) by decide +kernel) ?_
        refine hg_isub (pc := 27) hC (show decode prog_1_method_28_code 27 = .ok (.isub, 1) by decide +kernel) ?_
        refine hg_riald (pc := 28) (r := e3) hC (show decode prog_1_method_28_code 28 = .ok (.iaload, 1) by decide +kernel) h ?_
        intro e4 h
        refine hg_goto (pc := 29) (tgt := 33) hC (show decode prog_1_method_28_code 29 = .ok (.goto 4, 3) by decide +kernel) (by decide +kernel) ?_
        exact hg_sub [0] rfl (lab_33 e4 h)
      · intro h
        exact hg_sub [0] rfl (lab_32 h)
noncomputable def hm_NT_multiplexersOf_L91 (G : hg_E) (S : hg_S) (o : Nat) (x2 : Int32) : Option (hg_S × Int32) :=
  some (S, x2)
noncomputable def hm_NT_multiplexersOf_L85 (G : hg_E) (S : hg_S) (o : Nat) (x2 : Int32) (x3 : Int32) : Option ((hg_S × Int32 × Int32) ⊕ ((hg_S × Int32))) :=
  some (.inl (S, x2, (x3 + (-1))))
noncomputable def hm_NT_multiplexersOf_b34 (G : hg_E) (S : hg_S) (o : Nat) (x2 : Int32) (x3 : Int32) : Option ((hg_S × Int32 × Int32) ⊕ ((hg_S × Int32))) :=
  if x3 < 2 then (some (.inr (S, x2))) else ((hg_gr S (some o) 12 8).bind fun e1 => (hg_ld S e1 (G.1 0) x3).bind fun e2 => (hg_gi S (some o) 12 14).bind fun e3 => if e2 = e3 then ((hg_gr S (some o) 12 8).bind fun e4 => (hg_gr S (some o) 12 5).bind fun e5 => (hg_ld S e5 (G.1 0) x3).bind fun e6 => (hg_gi S (some o) 12 14).bind fun e7 => (hg_st S e4 (G.1 0) e6 e7).bind fun S8 => (hg_gr S8 (some o) 12 8).bind fun e9 => (hg_gr S8 (some o) 12 6).bind fun e10 => (hg_ld S8 e10 (G.1 0) x3).bind fun e11 => (hg_gi S8 (some o) 12 14).bind fun e12 => (hg_st S8 e9 (G.1 0) e11 e12).bind fun S13 => hm_NT_multiplexersOf_L85 G S13 o (x2 + 1) x3) else (hm_NT_multiplexersOf_L85 G S o x2 x3))
noncomputable def hm_NT_multiplexersOf_s34 (G : hg_E) (o : Nat) (q : hg_S × Int32 × Int32) : Option ((hg_S × Int32 × Int32) ⊕ ((hg_S × Int32))) :=
  hm_NT_multiplexersOf_b34 G q.1 o q.2.1 q.2.2
noncomputable def hm_NT_multiplexersOf_L34 (G : hg_E) (S : hg_S) (o : Nat) (x2 : Int32) (x3 : Int32) : Option (hg_S × Int32) :=
  (dc_it (hm_NT_multiplexersOf_s34 G o) (S, x2, x3)).bind (fun (z : hg_S × Int32) => hm_NT_multiplexersOf_L91 G z.1 o z.2)
noncomputable def hm_NT_multiplexersOf (G : hg_E) (S : hg_S) (o : Nat) (p1 : Int32) : Option (hg_S × Int32) :=
  (hg_gi S (some o) 12 14).bind fun e14 => (hg_pf S (some o) 12 14 (.int (e14 + 1))).bind fun S15 => (hg_gr S15 (some o) 12 8).bind fun e16 => (hg_gr S15 (some o) 12 3).bind fun e17 => (hg_ld S15 e17 (G.1 0) p1).bind fun e18 => (hg_gi S15 (some o) 12 14).bind fun e19 => (hg_st S15 e16 (G.1 0) e18 e19).bind fun S20 => (hg_gr S20 (some o) 12 3).bind fun e21 => (hg_ld S20 e21 (G.1 0) p1).bind fun e22 => hm_NT_multiplexersOf_L34 G S20 o 0 e22
set_option maxHeartbeats 4000000 in
set_option maxRecDepth 100000 in
/-- SignalEngine$Net.multiplexersOf(I)I -/
theorem hm_NT_multiplexersOf_ok (l : Launch) (D : va_G) (G : hg_E) (Z : hg_S) (o : Nat) (p1 : Int32) (q : hg_S × Int32) (hq : hm_NT_multiplexersOf G Z o p1 = some q) : hg_C l ⟨"SignalEngine$Net", "multiplexersOf", "(I)I"⟩ prog_7_method_12_code 4 (some (.int)) 0 0 D G [.ref o, .int p1] Z (.inl (some (.int q.2), q.1) : hg_O) := by
  refine hg_start (cv := fun q => (.inl (some (.int q.2), q.1) : hg_O)) hq ?_
  intro F hF h
  refine hg_enter (lv := [(0, va_rf (some o)), (1, .int p1)]) (by decide +kernel) (by simp [lg_sl, va_rf_cat, hg_cti, hg_ctr]) (by simp [lv_args, va_rf_cat, va_rf_some, hg_cti, hg_ctr]) ?_
  intro X hC hR
  have lab_91 : ∀ (S : hg_S) (x2 : Int32), dc_wp (hm_NT_multiplexersOf_L91 G S o x2) F → hg_G X l (hg_rm 0 0 Z) D 4 S 91 [(0, va_rf (some o)), (2, .int x2)] [] := by
    intro S x2 h
    delta hm_NT_multiplexersOf_L91 at h
    refine hg_iloadn (pc := 91) (j := 2) (i := 2) hC 1 rfl rfl (show decode prog_7_method_12_code 91 = .ok (.iload_n 2, 1) by decide +kernel) ?_
    exact hg_iret (pc := 92) hC hR (hF _ (dc_some h)) (show decode prog_7_method_12_code 92 = .ok (.ireturn, 1) by decide +kernel)
  have loop_34 : ∀ (q : hg_S × Int32 × Int32), dc_wp (dc_it (hm_NT_multiplexersOf_s34 G o) q) (fun z => dc_wp ((fun (z : hg_S × Int32) => hm_NT_multiplexersOf_L91 G z.1 o z.2) z) F) → hg_G X l (hg_rm 0 0 Z) D 4 q.1 34 [(0, va_rf (some o)), (2, .int q.2.1), (3, .int q.2.2)] [] := by
    refine dc_loopF ?_
    intro F_34 hl_34 hr_34
    have lab_85 : ∀ (S : hg_S) (x2 : Int32) (x3 : Int32), dc_wp (hm_NT_multiplexersOf_L85 G S o x2 x3) F_34 → hg_G X l (hg_rm 0 0 Z) D 4 S 85 [(0, va_rf (some o)), (2, .int x2), (3, .int x3)] [] := by
      intro S x2 x3 h
      delta hm_NT_multiplexersOf_L85 at h
      refine hg_iinc (pc := 85) (i := 3) (v := (x3 + (-1))) (lv' := [(3, .int (x3 + (-1))), (0, va_rf (some o)), (2, .int x2)]) hC 2 rfl (congrArg (fun z => x3 + z) (show Int32.ofInt (-1) = (-1 : Int32) by decide +kernel)) (Nat.le_of_ble_eq_true rfl) rfl (show decode prog_7_method_12_code 85 = .ok (.iinc 3 (-1), 3) by decide +kernel) ?_
      refine hg_goto (pc := 88) (tgt := 34) hC (show decode prog_7_method_12_code 88 = .ok (.goto (-54), 3) by decide +kernel) (by decide +kernel) ?_
      exact hg_sub [1, 2, 0] rfl (hl_34 ((S, x2, (x3 + (-1)))) (dc_some h))
    rintro ⟨S, x2, x3⟩ h
    have h : dc_wp (hm_NT_multiplexersOf_b34 G S o x2 x3) F_34 := h
    delta hm_NT_multiplexersOf_b34 at h
    refine hg_iloadn (pc := 34) (j := 3) (i := 3) hC 2 rfl rfl (show decode prog_7_method_12_code 34 = .ok (.iload_n 3, 1) by decide +kernel) ?_
    refine hg_iconst (pc := 35) (v := 2) hC (show decode prog_7_method_12_code 35 = .ok (.iconst 2, 1) by decide +kernel) (by decide +kernel) ?_
    refine hg_icmp_lt (pc := 36) (tgt := 91) hC (show decode prog_7_method_12_code 36 = .ok (.if_icmp .lt 55, 3) by decide +kernel) (by decide +kernel) h ?_ ?_
    · intro h
      have h : dc_wp (hm_NT_multiplexersOf_L91 G S o x2) F := hr_34 (S, x2) (dc_some h)
      exact hg_sub [0, 1] rfl (lab_91 S x2 h)
    · intro h
      refine hg_aloadn (pc := 39) (j := 0) (i := 0) (r := (some o)) hC 0 rfl rfl (show decode prog_7_method_12_code 39 = .ok (.aload_n 0, 1) by decide +kernel) ?_
      refine hg_rgr (pc := 40) (r := (some o)) hC fl_SignalEngine_Net_36 (show decode prog_7_method_12_code 40 = .ok (.getfield 36, 3) by decide +kernel) h ?_
      intro e1 h
      refine hg_iloadn (pc := 43) (j := 3) (i := 3) hC 2 rfl rfl (show decode prog_7_method_12_code 43 = .ok (.iload_n 3, 1) by decide +kernel) ?_
      refine hg_riald (pc := 44) (r := e1) hC (show decode prog_7_method_12_code 44 = .ok (.iaload, 1) by decide +kernel) h ?_
      intro e2 h
      refine hg_aloadn (pc := 45) (j := 0) (i := 0) (r := (some o)) hC 0 rfl rfl (show decode prog_7_method_12_code 45 = .ok (.aload_n 0, 1) by decide +kernel) ?_
      refine hg_rgi (pc := 46) (r := (some o)) hC fl_SignalEngine_Net_49 (show decode prog_7_method_12_code 46 = .ok (.getfield 49, 3) by decide +kernel) h ?_
      intro e3 h
      refine hg_icmp_ne (pc := 49) (tgt := 85) hC (show decode prog_7_method_12_code 49 = .ok (.if_icmp .ne 36, 3) by decide +kernel) (by decide +kernel) h ?_ ?_
      · intro h
        refine hg_aloadn (pc := 52) (j := 0) (i := 0) (r := (some o)) hC 0 rfl rfl (show decode prog_7_method_12_code 52 = .ok (.aload_n 0, 1) by decide +kernel) ?_
        refine hg_rgr (pc := 53) (r := (some o)) hC fl_SignalEngine_Net_36 (show decode prog_7_method_12_code 53 = .ok (.getfield 36, 3) by decide +kernel) h ?_
        intro e4 h
        refine hg_aloadn (pc := 56) (j := 0) (i := 0) (r := (some o)) hC 0 rfl rfl (show decode prog_7_method_12_code 56 = .ok (.aload_n 0, 1) by decide +kernel) ?_
        refine hg_rgr (pc := 57) (r := (some o)) hC fl_SignalEngine_Net_27 (show decode prog_7_method_12_code 57 = .ok (.getfield 27, 3) by decide +kernel) h ?_
        intro e5 h
        refine hg_iloadn (pc := 60) (j := 3) (i := 3) hC 2 rfl rfl (show decode prog_7_method_12_code 60 = .ok (.iload_n 3, 1) by decide +kernel) ?_
        refine hg_riald (pc := 61) (r := e5) hC (show decode prog_7_method_12_code 61 = .ok (.iaload, 1) by decide +kernel) h ?_
        intro e6 h
        refine hg_aloadn (pc := 62) (j := 0) (i := 0) (r := (some o)) hC 0 rfl rfl (show decode prog_7_method_12_code 62 = .ok (.aload_n 0, 1) by decide +kernel) ?_
        refine hg_rgi (pc := 63) (r := (some o)) hC fl_SignalEngine_Net_49 (show decode prog_7_method_12_code 63 = .ok (.getfield 49, 3) by decide +kernel) h ?_
        intro e7 h
        refine hg_riast (pc := 66) (r := e4) hC (show decode prog_7_method_12_code 66 = .ok (.iastore, 1) by decide +kernel) h ?_
        intro S8 h
        refine hg_aloadn (pc := 67) (j := 0) (i := 0) (r := (some o)) hC 0 rfl rfl (show decode prog_7_method_12_code 67 = .ok (.aload_n 0, 1) by decide +kernel) ?_
        refine hg_rgr (pc := 68) (r := (some o)) hC fl_SignalEngine_Net_36 (show decode prog_7_method_12_code 68 = .ok (.getfield 36, 3) by decide +kernel) h ?_
        intro e9 h
        refine hg_aloadn (pc := 71) (j := 0) (i := 0) (r := (some o)) hC 0 rfl rfl (show decode prog_7_method_12_code 71 = .ok (.aload_n 0, 1) by decide +kernel) ?_
        refine hg_rgr (pc := 72) (r := (some o)) hC fl_SignalEngine_Net_30 (show decode prog_7_method_12_code 72 = .ok (.getfield 30, 3) by decide +kernel) h ?_
        intro e10 h
        refine hg_iloadn (pc := 75) (j := 3) (i := 3) hC 2 rfl rfl (show decode prog_7_method_12_code 75 = .ok (.iload_n 3, 1) by decide +kernel) ?_
        refine hg_riald (pc := 76) (r := e10) hC (show decode prog_7_method_12_code 76 = .ok (.iaload, 1) by decide +kernel) h ?_
        intro e11 h
        refine hg_aloadn (pc := 77) (j := 0) (i := 0) (r := (some o)) hC 0 rfl rfl (show decode prog_7_method_12_code 77 = .ok (.aload_n 0, 1) by decide +kernel) ?_
        refine hg_rgi (pc := 78) (r := (some o)) hC fl_SignalEngine_Net_49 (show decode prog_7_method_12_code 78 = .ok (.getfield 49, 3) by decide +kernel) h ?_
        intro e12 h
        refine hg_riast (pc := 81) (r := e9) hC (show decode prog_7_method_12_code 81 = .ok (.iastore, 1) by decide +kernel) h ?_
        intro S13 h
        refine hg_iinc (pc := 82) (i := 2) (v := (x2 + 1)) (lv' := [(2, .int (x2 + 1)), (0, va_rf (some o)), (3, .int x3)]) hC 1 rfl rfl (Nat.le_of_ble_eq_true rfl) rfl (show decode prog_7_method_12_code 82 = .ok (.iinc 2 1, 3) by decide +kernel) ?_
        exact hg_sub [1, 0, 2] rfl (lab_85 S13 (x2 + 1) x3 h)
      · intro h
        exact lab_85 S x2 x3 h
  have lab_34 : ∀ (S : hg_S) (x2 : Int32) (x3 : Int32), dc_wp (hm_NT_multiplexersOf_L34 G S o x2 x3) F → hg_G X l (hg_rm 0 0 Z) D 4 S 34 [(0, va_rf (some o)), (2, .int x2), (3, .int x3)] [] := fun S x2 x3 h => loop_34  (S, x2, x3) (dc_bind h)
  show hg_G X l (hg_rm 0 0 Z) D 4 Z 0 [(0, va_rf (some o)), (1, .int p1)] []
  have h : dc_wp (hm_NT_multiplexersOf G Z o p1) F := h
  delta hm_NT_multiplexersOf at h
  refine hg_aloadn (pc := 0) (j := 0) (i := 0) (r := (some o)) hC 0 rfl rfl (show decode prog_7_method_12_code 0 = .ok (.aload_n 0, 1) by decide +kernel) ?_
  refine hg_dup (pc := 1) hC (show decode prog_7_method_12_code 1 = .ok (.dup, 1) by decide +kernel) rfl ?_
  refine hg_rgi (pc := 2) (r := (some o)) hC fl_SignalEngine_Net_49 (show decode prog_7_method_12_code 2 = .ok (.getfield 49, 3) by decide +kernel) h ?_
  intro e14 h
  refine hg_iconst (pc := 5) (v := 1) hC (show decode prog_7_method_12_code 5 = .ok (.iconst 1, 1) by decide +kernel) (by decide +kernel) ?_
  refine hg_iadd (pc := 6) hC (show decode prog_7_method_12_code 6 = .ok (.iadd, 1) by decide +kernel) ?_
  refine hg_rput (pc := 7) (r := (some o)) (v := .int (e14 + 1)) hC fp_SignalEngine_Net_49 rfl rfl (show decode prog_7_method_12_code 7 = .ok (.putfield 49, 3) by decide +kernel) h ?_
  intro S15 h
  refine hg_aloadn (pc := 10) (j := 0) (i := 0) (r := (some o)) hC 0 rfl rfl (show decode prog_7_method_12_code 10 = .ok (.aload_n 0, 1) by decide +kernel) ?_
  refine hg_rgr (pc := 11) (r := (some o)) hC fl_SignalEngine_Net_36 (show decode prog_7_method_12_code 11 = .ok (.getfield 36, 3) by decide +kernel) h ?_
  intro e16 h
  refine hg_aloadn (pc := 14) (j := 0) (i := 0) (r := (some o)) hC 0 rfl rfl (show decode prog_7_method_12_code 14 = .ok (.aload_n 0, 1) by decide +kernel) ?_
  refine hg_rgr (pc := 15) (r := (some o)) hC fl_SignalEngine_Net_21 (show decode prog_7_method_12_code 15 = .ok (.getfield 21, 3) by decide +kernel) h ?_
  intro e17 h
  refine hg_iloadn (pc := 18) (j := 1) (i := 1) hC 1 rfl rfl (show decode prog_7_method_12_code 18 = .ok (.iload_n 1, 1) by decide +kernel) ?_
  refine hg_riald (pc := 19) (r := e17) hC (show decode prog_7_method_12_code 19 = .ok (.iaload, 1) by decide +kernel) h ?_
  intro e18 h
  refine hg_aloadn (pc := 20) (j := 0) (i := 0) (r := (some o)) hC 0 rfl rfl (show decode prog_7_method_12_code 20 = .ok (.aload_n 0, 1) by decide +kernel) ?_
  refine hg_rgi (pc := 21) (r := (some o)) hC fl_SignalEngine_Net_49 (show decode prog_7_method_12_code 21 = .ok (.getfield 49, 3) by decide +kernel) h ?_
  intro e19 h
  refine hg_riast (pc := 24) (r := e16) hC (show decode prog_7_method_12_code 24 = .ok (.iastore, 1) by decide +kernel) h ?_
  intro S20 h
  refine hg_iconst (pc := 25) (v := 0) hC (show decode prog_7_method_12_code 25 = .ok (.iconst 0, 1) by decide +kernel) (by decide +kernel) ?_
  refine hg_istoren (pc := 26) (j := 2) (i := 2) (lv' := [(2, .int 0), (0, va_rf (some o)), (1, .int p1)]) hC rfl (Nat.le_of_ble_eq_true rfl) rfl (show decode prog_7_method_12_code 26 = .ok (.istore_n 2, 1) by decide +kernel) ?_
  refine hg_aloadn (pc := 27) (j := 0) (i := 0) (r := (some o)) hC 1 rfl rfl (show decode prog_7_method_12_code 27 = .ok (.aload_n 0, 1) by decide +kernel) ?_
  refine hg_rgr (pc := 28) (r := (some o)) hC fl_SignalEngine_Net_21 (show decode prog_7_method_12_code 28 = .ok (.getfield 21, 3) by decide +kernel) h ?_
  intro e21 h
  refine hg_iloadn (pc := 31) (j := 1) (i := 1) hC 2 rfl rfl (show decode prog_7_method_12_code 31 = .ok (.iload_n 1, 1) by decide +kernel) ?_
  refine hg_riald (pc := 32) (r := e21) hC (show decode prog_7_method_12_code 32 = .ok (.iaload, 1) by decide +kernel) h ?_
  intro e22 h
  refine hg_istoren (pc := 33) (j := 3) (i := 3) (lv' := [(3, .int e22), (2, .int 0), (0, va_rf (some o)), (1, .int p1)]) hC rfl (Nat.le_of_ble_eq_true rfl) rfl (show decode prog_7_method_12_code 33 = .ok (.istore_n 3, 1) by decide +kernel) ?_
  exact hg_sub [2, 1, 0] rfl (lab_34 S20 0 e22 h)
noncomputable def hm_SE_size_L34 (G : hg_E) (S : hg_S) (o : Nat) (y0 : Int32) : Option (hg_S × Int32) :=
  some (S, y0)
noncomputable def hm_SE_size_L33 (G : hg_E) (S : hg_S) (o : Nat) : Option (hg_S × Int32) :=
  hm_SE_size_L34 G S o (-1)
noncomputable def hm_SE_size (G : hg_E) (S : hg_S) (o : Nat) (p1 : Int32) : Option (hg_S × Int32) :=
  (hg_gi S (some o) 0 13).bind fun e1 => if e1 = 0 then (hm_SE_size_L33 G S o) else (if p1 < 0 then (hm_SE_size_L33 G S o) else ((hg_gr S (some o) 0 11).bind fun e2 => (hg_gi S e2 12 13).bind fun e3 => if p1 < e3 then ((hg_gr S (some o) 0 11).bind fun e4 => (hg_chk S e4 12).bind fun b5 => (hm_NT_multiplexersOf G S b5 p1).bind fun q8 => hm_SE_size_L34 G q8.1 o q8.2) else (hm_SE_size_L33 G S o)))
set_option maxHeartbeats 4000000 in
set_option maxRecDepth 100000 in
/-- SignalEngine.size(I)I -/
theorem hm_SE_size_ok (l : Launch) (D : va_G) (G : hg_E) (Z : hg_S) (o : Nat) (p1 : Int32) (q : hg_S × Int32) (hq : hm_SE_size G Z o p1 = some q) : hg_C l ⟨"SignalEngine", "size", "(I)I"⟩ prog_1_method_29_code 2 (some (.int)) 1 23 D G [.ref o, .int p1] Z (.inl (some (.int q.2), q.1) : hg_O) := by
  refine hg_start (cv := fun q => (.inl (some (.int q.2), q.1) : hg_O)) hq ?_
  intro F hF h
  refine hg_enter (lv := [(0, va_rf (some o)), (1, .int p1)]) (by decide +kernel) (by simp [lg_sl, va_rf_cat, hg_cti, hg_ctr]) (by simp [lv_args, va_rf_cat, va_rf_some, hg_cti, hg_ctr]) ?_
  intro X hC hR
  have lab_34 : ∀ (S : hg_S) (y0 : Int32), dc_wp (hm_SE_size_L34 G S o y0) F → hg_G X l (hg_rm 1 23 Z) D 2 S 34 [(0, va_rf (some o))] [.int y0] := by
    intro S y0 h
    delta hm_SE_size_L34 at h
    exact hg_iret (pc := 34) hC hR (hF _ (dc_some h)) (show decode prog_1_method_29_code 34 = .ok (.ireturn, 1) by decide +kernel)
  have lab_33 : ∀ (S : hg_S), dc_wp (hm_SE_size_L33 G S o) F → hg_G X l (hg_rm 1 23 Z) D 2 S 33 [(0, va_rf (some o))] [] := by
    intro S  h
    delta hm_SE_size_L33 at h
    refine hg_iconst (pc := 33) (v := (-1)) hC (show decode prog_1_method_29_code 33 = .ok (.iconst (-1), 1) by decide +kernel) (by decide +kernel) ?_
    exact lab_34 S (-1) h
  show hg_G X l (hg_rm 1 23 Z) D 2 Z 0 [(0, va_rf (some o)), (1, .int p1)] []
  have h : dc_wp (hm_SE_size G Z o p1) F := h
  delta hm_SE_size at h
  refine hg_aloadn (pc := 0) (j := 0) (i := 0) (r := (some o)) hC 0 rfl rfl (show decode prog_1_method_29_code 0 = .ok (.aload_n 0, 1) by decide +kernel) ?_
  refine hg_rgi (pc := 1) (r := (some o)) hC fl_SignalEngine_94 (show decode prog_1_method_29_code 1 = .ok (.getfield 94, 3) by decide +kernel) h ?_
  intro e1 h
  refine hg_if_eq (pc := 4) (tgt := 33) hC (show decode prog_1_method_29_code 4 = .ok (.ifCond .eq 29, 3) by decide +kernel) (by decide +kernel) h ?_ ?_
  · intro h
    exact hg_sub [0] rfl (lab_33 Z h)
  · intro h
    refine hg_iloadn (pc := 7) (j := 1) (i := 1) hC 1 rfl rfl (show decode prog_1_method_29_code 7 = .ok (.iload_n 1, 1) by decide +kernel) ?_
    refine hg_if_lt (pc := 8) (tgt := 33) hC (show decode prog_1_method_29_code 8 = .ok (.ifCond .lt 25, 3) by decide +kernel) (by decide +kernel) h ?_ ?_
    · intro h
      exact hg_sub [0] rfl (lab_33 Z h)
    · intro h
      refine hg_iloadn (pc := 11) (j := 1) (i := 1) hC 1 rfl rfl (show decode prog_1_method_29_code 11 = .ok (.iload_n 1, 1) by decide +kernel) ?_
      refine hg_aloadn (pc := 12) (j := 0) (i := 0) (r := (some o)) hC 0 rfl rfl (show decode prog_1_method_29_code 12 = .ok (.aload_n 0, 1) by decide +kernel) ?_
      refine hg_rgr (pc := 13) (r := (some o)) hC fl_SignalEngine_233 (show decode prog_1_method_29_code 13 = .ok (.getfield 233, 3) by decide +kernel) h ?_
      intro e2 h
      refine hg_rgi (pc := 16) (r := e2) hC fl_SignalEngine_254 (show decode prog_1_method_29_code 16 = .ok (.getfield 254, 3) by decide +kernel) h ?_
      intro e3 h
      refine hg_icmp_ge (pc := 19) (tgt := 33) hC (show decode prog_1_method_29_code 19 = .ok (.if_icmp .ge 14, 3) by decide +kernel) (by decide +kernel) h ?_ ?_
      · intro h
        refine hg_aloadn (pc := 22) (j := 0) (i := 0) (r := (some o)) hC 0 rfl rfl (show decode prog_1_method_29_code 22 = .ok (.aload_n 0, 1) by decide +kernel) ?_
        refine hg_rgr (pc := 23) (r := (some o)) hC fl_SignalEngine_233 (show decode prog_1_method_29_code 23 = .ok (.getfield 233, 3) by decide +kernel) h ?_
        intro e4 h
        refine hg_iloadn (pc := 26) (j := 1) (i := 1) hC 1 rfl rfl (show decode prog_1_method_29_code 26 = .ok (.iload_n 1, 1) by decide +kernel) ?_
        obtain ⟨b5, hb6, h⟩ := dc_bind h
        obtain ⟨hb6, hv7⟩ := hg_chk_of (C := R_NT) rfl hb6
        refine hg_kVi (pc := 27) (b := b5) (r := e4) (As := [.int p1]) (rest := []) (vo := fun q => q.2) (so := fun q => q.1) hC cw_SignalEngine_257 (fun q hq => hm_NT_multiplexersOf_ok l D G Z b5 p1 q hq) (Nat.le_of_ble_eq_true rfl) (Nat.le_of_ble_eq_true rfl) hb6 hv7 rfl (Nat.le_of_ble_eq_true rfl) (show decode prog_1_method_29_code 27 = .ok (.invokevirtual 257, 3) by decide +kernel) h ?_
        intro q8 h
        refine hg_goto (pc := 30) (tgt := 34) hC (show decode prog_1_method_29_code 30 = .ok (.goto 4, 3) by decide +kernel) (by decide +kernel) ?_
        exact hg_sub [0] rfl (lab_34 q8.1 q8.2 h)
      · intro h
        exact hg_sub [0] rfl (lab_33 Z h)
