noncomputable def hm_PA_parse (G : hg_E) (S : hg_S) (o : Nat) : Option (hg_S × Int32) :=
  (hg_chk S (some o) 4).bind fun b1 => (hm_PA_takeProgram G S b1).bind (Sum.elim (fun q2 => some (q2, (0 : Int32))) (fun z => if z.2.2 = true then ((hg_gr z.1 (some o) 4 0).bind fun e1 => (hg_gi z.1 e1 2 5).bind fun e2 => some (z.1, e2)) else none))
set_option maxHeartbeats 4000000 in
set_option maxRecDepth 100000 in
/-- SignalEngine$Parser.parse()I -/
theorem hm_PA_parse_ok (l : Launch) (hlt : l.stackTraces = false) (D : va_G) (G : hg_E) (Z : hg_S) (o : Nat) (q : hg_S × Int32) (hq : hm_PA_parse G Z o = some q) : hg_CH l ⟨"SignalEngine$Parser", "parse", "()I"⟩ prog_9_method_2_code 2 (some (.int)) [(0, 4, 7, 40)] 812 19429 D G [.ref o] Z (some (.int q.2)) q.1 := by
  refine hg_start (cv := fun q => (.inl (some (.int q.2), q.1) : hg_O)) hq ?_
  intro F hF h
  refine hg_enterH (lv := [(0, va_rf (some o))]) (by decide +kernel) (by simp [lg_sl, va_rf_cat, hg_cti, hg_ctr]) (by simp [lv_args, va_rf_cat, va_rf_some, hg_cti, hg_ctr]) ?_
  intro X hC hT hR
  have h : dc_wp (hm_PA_parse G Z o) F := h
  delta hm_PA_parse at h
  show hg_G X l (hg_rm 812 19429 Z) D 2 Z 0 [(0, va_rf (some o))] []
  refine hg_aloadn (pc := 0) (j := 0) (i := 0) (r := (some o)) hC 0 rfl rfl (show decode prog_9_method_2_code 0 = .ok (.aload_n 0, 1) by decide +kernel) ?_
  obtain ⟨b1, hb1, h⟩ := dc_bind h
  obtain ⟨hb2, hv⟩ := hg_chk_of (C := R_PA) rfl hb1
  have hbo : o = b1 := Option.some.inj hb2
  subst hbo
  obtain ⟨q2, hq2, h⟩ := dc_bind h
  have hM := hm_PA_takeProgram_ok l hlt D G Z o q2 hq2
  rcases q2 with u | ⟨zs, zx, zb⟩
  · refine hg_cV (pc := 1) (As := []) (rest := []) (v := none) (u := u) (b := o) hC cw_SignalEngine_Parser_37 hM ⟨Nat.le_of_ble_eq_true rfl, Nat.le_of_ble_eq_true rfl⟩ hv rfl (Nat.le_of_ble_eq_true rfl) (show decode prog_9_method_2_code 1 = .ok (.invokevirtual 37, 3) by decide +kernel) ?_
    show hg_G X l (hg_rm 812 19429 Z) D 2 u 4 [(0, va_rf (some o))] []
    refine hg_goto (pc := 4) (tgt := 16) hC (show decode prog_9_method_2_code 4 = .ok (.goto 12, 3) by decide +kernel) (by decide +kernel) ?_
    refine hg_iconst (pc := 16) (v := 0) hC (show decode prog_9_method_2_code 16 = .ok (.iconst 0, 1) by decide +kernel) (by decide +kernel) ?_
    exact hg_iret (pc := 17) hC hR (hF _ (dc_some h)) (show decode prog_9_method_2_code 17 = .ok (.ireturn, 1) by decide +kernel)
  · rcases dc_ite h with ⟨hz, h⟩ | ⟨_, h⟩
    · have hz2 : zb = true := hz
      subst hz2
      refine hg_catch (pc := 1) (As := []) (rest := []) (b := o) (C := "java/lang/IllegalArgumentException") (x := zx) (u := zs) hC hT (by decide) (by decide) w_316 cw_SignalEngine_Parser_37 hM ⟨Nat.le_of_ble_eq_true rfl, Nat.le_of_ble_eq_true rfl⟩ hv rfl (Nat.le_of_ble_eq_true rfl) (show decode prog_9_method_2_code 1 = .ok (.invokevirtual 37, 3) by decide +kernel) ?_
      refine hg_astoren (pc := 7) (j := 1) (i := 1) (r := some zx) (lv' := [(1, va_rf (some zx)), (0, va_rf (some o))]) hC rfl (Nat.le_of_ble_eq_true rfl) rfl (show decode prog_9_method_2_code 7 = .ok (.astore_n 1, 1) by decide +kernel) ?_
      refine hg_aloadn (pc := 8) (j := 0) (i := 0) (r := (some o)) hC 1 rfl rfl (show decode prog_9_method_2_code 8 = .ok (.aload_n 0, 1) by decide +kernel) ?_
      refine hg_rgr (pc := 9) (r := (some o)) hC fl_SignalEngine_Parser_23 (show decode prog_9_method_2_code 9 = .ok (.getfield 23, 3) by decide +kernel) h ?_
      intro e1 h
      refine hg_rgi (pc := 12) (r := e1) hC fl_SignalEngine_Parser_42 (show decode prog_9_method_2_code 12 = .ok (.getfield 42, 3) by decide +kernel) h ?_
      intro e2 h
      exact hg_iret (pc := 15) hC hR (hF _ (dc_some h)) (show decode prog_9_method_2_code 15 = .ok (.ireturn, 1) by decide +kernel)
    · exact (dc_not h).elim
noncomputable def hm_SE_read_L114 (G : hg_E) (S : hg_S) (o : Nat) (x3 : Int32) : Option (hg_S × Int32) :=
  some (S, x3)
noncomputable def hm_SE_read_L49 (G : hg_E) (S : hg_S) (o : Nat) (x2 : Option Nat) (x3 : Int32) : Option (hg_S × Int32) :=
  if x3 = 0 then ((hg_new S 9 17 [.null, .int 0, .int 0, .int 0, .int 0, .int 0, .null, .null, .null, .null, .null, .null, .null, .null, .null, .null, .null]).bind fun S1 => (hm_PG_init G S1 S.2.1 x2).bind fun q2 => (hg_pf q2 (some o) 0 3 (va_rf (some S.2.1))).bind fun S3 => (hg_new S3 10 18 [.null, .null, .null, .null, .null, .null, .null, .null, .null, .null, .null, .null, .int 0, .int 0, .int 0, .int 0, .int 0, .int 0]).bind fun S4 => (hg_gr S4 (some o) 0 3).bind fun e5 => (hm_RE_init G S4 S3.2.1 e5).bind fun q6 => (hg_pf q6 (some o) 0 4 (va_rf (some S3.2.1))).bind fun S7 => (hg_gr S7 (some o) 0 3).bind fun e8 => (hg_gi S7 e8 9 3).bind fun e9 => (hg_newa G S7 2 e9).bind fun S10 => (hg_pf S10 (some o) 0 7 (va_rf (some S7.2.1))).bind fun S11 => (hg_gr S11 (some o) 0 3).bind fun e12 => (hg_gi S11 e12 9 1).bind fun e13 => (hg_gr S11 (some o) 0 3).bind fun e14 => (hg_gi S11 e14 9 2).bind fun e15 => (hg_newa G S11 0 (e13 + e15)).bind fun S16 => (hg_pf S16 (some o) 0 8 (va_rf (some S11.2.1))).bind fun S17 => hm_SE_read_L114 G S17 o x3) else (hm_SE_read_L114 G S o x3)
noncomputable def hm_SE_read (G : hg_E) (S : hg_S) (o : Nat) : Option (hg_S × Int32) :=
  (hg_gr S (some o) 0 0).bind fun e18 => (hg_gi S (some o) 0 1).bind fun e19 => (hm_JA_copyB G S e18 e19).bind fun q20 => (hg_pf q20.1 (some o) 0 1 (.int 0)).bind fun S21 => (hg_pf S21 (some o) 0 2 (.int 0)).bind fun S22 => (hg_chk S22 (some o) 0).bind fun b23 => (hm_SE_forget G S22 b23).bind fun q26 => (hg_new q26 4 7 [.null, .null, .null, .null, .int 0, .int 0, .int 0]).bind fun S27 => (hm_PA_init G S27 q26.2.1 q20.2).bind fun q28 => dc_let ((some q26.2.1) : Option Nat) fun v29 => (hg_chk q28 v29 4).bind fun b31 => (hm_PA_parse G q28 b31).bind fun q30 => if q30.2 = 0 then ((hg_chk q30.1 v29 4).bind fun b34 => (hm_PA_judge G q30.1 b34).bind fun q37 => hm_SE_read_L49 G q37.1 o v29 q37.2) else (hm_SE_read_L49 G q30.1 o v29 q30.2)
set_option maxHeartbeats 4000000 in
set_option maxRecDepth 100000 in
/-- SignalEngine.read()I -/
theorem hm_SE_read_ok (l : Launch) (hlt : l.stackTraces = false) (D : va_G) (G : hg_E) (Z : hg_S) (o : Nat) (q : hg_S × Int32) (hq : hm_SE_read G Z o = some q) : hg_C l ⟨"SignalEngine", "read", "()I"⟩ prog_1_method_5_code 4 (some (.int)) 813 19450 D G [.ref o] Z (.inl (some (.int q.2), q.1) : hg_O) := by
  refine hg_start (cv := fun q => (.inl (some (.int q.2), q.1) : hg_O)) hq ?_
  intro F hF h
  refine hg_enter (lv := [(0, va_rf (some o))]) (by decide +kernel) (by simp [lg_sl, va_rf_cat, hg_cti, hg_ctr]) (by simp [lv_args, va_rf_cat, va_rf_some, hg_cti, hg_ctr]) ?_
  intro X hC hR
  have lab_114 : ∀ (S : hg_S) (x3 : Int32), dc_wp (hm_SE_read_L114 G S o x3) F → hg_G X l (hg_rm 813 19450 Z) D 4 S 114 [(0, va_rf (some o)), (3, .int x3)] [] := by
    intro S x3 h
    delta hm_SE_read_L114 at h
    refine hg_iloadn (pc := 114) (j := 3) (i := 3) hC 1 rfl rfl (show decode prog_1_method_5_code 114 = .ok (.iload_n 3, 1) by decide +kernel) ?_
    exact hg_iret (pc := 115) hC hR (hF _ (dc_some h)) (show decode prog_1_method_5_code 115 = .ok (.ireturn, 1) by decide +kernel)
  have lab_49 : ∀ (S : hg_S) (x2 : Option Nat) (x3 : Int32), dc_wp (hm_SE_read_L49 G S o x2 x3) F → hg_G X l (hg_rm 813 19450 Z) D 4 S 49 [(0, va_rf (some o)), (2, va_rf x2), (3, .int x3)] [] := by
    intro S x2 x3 h
    delta hm_SE_read_L49 at h
    refine hg_iloadn (pc := 49) (j := 3) (i := 3) hC 2 rfl rfl (show decode prog_1_method_5_code 49 = .ok (.iload_n 3, 1) by decide +kernel) ?_
    refine hg_if_ne (pc := 50) (tgt := 114) hC (show decode prog_1_method_5_code 50 = .ok (.ifCond .ne 64, 3) by decide +kernel) (by decide +kernel) h ?_ ?_
    · intro h
      refine hg_aloadn (pc := 53) (j := 0) (i := 0) (r := (some o)) hC 0 rfl rfl (show decode prog_1_method_5_code 53 = .ok (.aload_n 0, 1) by decide +kernel) ?_
      refine hg_rnew (pc := 54) hC nw_SignalEngine_47 (show decode prog_1_method_5_code 54 = .ok (.new 47, 3) by decide +kernel) h ?_
      intro S1 h
      refine hg_dup (pc := 57) hC (show decode prog_1_method_5_code 57 = .ok (.dup, 1) by decide +kernel) (va_rf_cat _) ?_
      refine hg_aloadn (pc := 58) (j := 2) (i := 2) (r := x2) hC 1 rfl rfl (show decode prog_1_method_5_code 58 = .ok (.aload_n 2, 1) by decide +kernel) ?_
      refine hg_kIv (pc := 59) (b := S.2.1) (r := (some S.2.1)) (As := [va_rf x2]) (rest := [va_rf (some S.2.1), va_rf (some o)]) (so := fun q => q) hC cw_SignalEngine_49 (fun q hq => hm_PG_init_ok l D G S1 S.2.1 x2 q hq) (Nat.le_of_ble_eq_true rfl) (Nat.le_of_ble_eq_true rfl) rfl rfl (by simp only [List.map, va_rf_cat]; exact Nat.le_of_ble_eq_true rfl) (show decode prog_1_method_5_code 59 = .ok (.invokespecial 49, 3) by decide +kernel) h ?_
      intro q2 h
      refine hg_rput (pc := 62) (r := (some o)) (v := va_rf (some S.2.1)) hC fp_SignalEngine_52 (hg_nr _).1 (hg_nr _).2 (show decode prog_1_method_5_code 62 = .ok (.putfield 52, 3) by decide +kernel) h ?_
      intro S3 h
      refine hg_aloadn (pc := 65) (j := 0) (i := 0) (r := (some o)) hC 0 rfl rfl (show decode prog_1_method_5_code 65 = .ok (.aload_n 0, 1) by decide +kernel) ?_
      refine hg_rnew (pc := 66) hC nw_SignalEngine_56 (show decode prog_1_method_5_code 66 = .ok (.new 56, 3) by decide +kernel) h ?_
      intro S4 h
      refine hg_dup (pc := 69) hC (show decode prog_1_method_5_code 69 = .ok (.dup, 1) by decide +kernel) (va_rf_cat _) ?_
      refine hg_aloadn (pc := 70) (j := 0) (i := 0) (r := (some o)) hC 0 rfl rfl (show decode prog_1_method_5_code 70 = .ok (.aload_n 0, 1) by decide +kernel) ?_
      refine hg_rgr (pc := 71) (r := (some o)) hC fl_SignalEngine_52 (show decode prog_1_method_5_code 71 = .ok (.getfield 52, 3) by decide +kernel) h ?_
      intro e5 h
      refine hg_kIv (pc := 74) (b := S3.2.1) (r := (some S3.2.1)) (As := [va_rf e5]) (rest := [va_rf (some S3.2.1), va_rf (some o)]) (so := fun q => q) hC cw_SignalEngine_58 (fun q hq => hm_RE_init_ok l D G S4 S3.2.1 e5 q hq) (Nat.le_of_ble_eq_true rfl) (Nat.le_of_ble_eq_true rfl) rfl rfl (by simp only [List.map, va_rf_cat]; exact Nat.le_of_ble_eq_true rfl) (show decode prog_1_method_5_code 74 = .ok (.invokespecial 58, 3) by decide +kernel) h ?_
      intro q6 h
      refine hg_rput (pc := 77) (r := (some o)) (v := va_rf (some S3.2.1)) hC fp_SignalEngine_61 (hg_nr _).1 (hg_nr _).2 (show decode prog_1_method_5_code 77 = .ok (.putfield 61, 3) by decide +kernel) h ?_
      intro S7 h
      refine hg_aloadn (pc := 80) (j := 0) (i := 0) (r := (some o)) hC 0 rfl rfl (show decode prog_1_method_5_code 80 = .ok (.aload_n 0, 1) by decide +kernel) ?_
      refine hg_aloadn (pc := 81) (j := 0) (i := 0) (r := (some o)) hC 0 rfl rfl (show decode prog_1_method_5_code 81 = .ok (.aload_n 0, 1) by decide +kernel) ?_
      refine hg_rgr (pc := 82) (r := (some o)) hC fl_SignalEngine_52 (show decode prog_1_method_5_code 82 = .ok (.getfield 52, 3) by decide +kernel) h ?_
      intro e8 h
      refine hg_rgi (pc := 85) (r := e8) hC fl_SignalEngine_65 (show decode prog_1_method_5_code 85 = .ok (.getfield 65, 3) by decide +kernel) h ?_
      intro e9 h
      refine hg_rnewa (pc := 88) (t := 2) (atype := .boolean) hC rfl rfl (fun _ h9 => h9) rfl (by decide) w_1043 (show decode prog_1_method_5_code 88 = .ok (.newarray .boolean, 2) by decide +kernel) h ?_
      intro S10 h
      refine hg_rput (pc := 90) (r := (some o)) (v := va_rf (some S7.2.1)) hC fp_SignalEngine_68 (hg_na _).1 (hg_na _).2 (show decode prog_1_method_5_code 90 = .ok (.putfield 68, 3) by decide +kernel) h ?_
      intro S11 h
      refine hg_aloadn (pc := 93) (j := 0) (i := 0) (r := (some o)) hC 0 rfl rfl (show decode prog_1_method_5_code 93 = .ok (.aload_n 0, 1) by decide +kernel) ?_
      refine hg_aloadn (pc := 94) (j := 0) (i := 0) (r := (some o)) hC 0 rfl rfl (show decode prog_1_method_5_code 94 = .ok (.aload_n 0, 1) by decide +kernel) ?_
      refine hg_rgr (pc := 95) (r := (some o)) hC fl_SignalEngine_52 (show decode prog_1_method_5_code 95 = .ok (.getfield 52, 3) by decide +kernel) h ?_
      intro e12 h
      refine hg_rgi (pc := 98) (r := e12) hC fl_SignalEngine_72 (show decode prog_1_method_5_code 98 = .ok (.getfield 72, 3) by decide +kernel) h ?_
      intro e13 h
      refine hg_aloadn (pc := 101) (j := 0) (i := 0) (r := (some o)) hC 0 rfl rfl (show decode prog_1_method_5_code 101 = .ok (.aload_n 0, 1) by decide +kernel) ?_
      refine hg_rgr (pc := 102) (r := (some o)) hC fl_SignalEngine_52 (show decode prog_1_method_5_code 102 = .ok (.getfield 52, 3) by decide +kernel) h ?_
      intro e14 h
      refine hg_rgi (pc := 105) (r := e14) hC fl_SignalEngine_75 (show decode prog_1_method_5_code 105 = .ok (.getfield 75, 3) by decide +kernel) h ?_
      intro e15 h
      refine hg_iadd (pc := 108) hC (show decode prog_1_method_5_code 108 = .ok (.iadd, 1) by decide +kernel) ?_
      refine hg_rnewa (pc := 109) (t := 0) (atype := .int) hC rfl rfl (fun _ h9 => h9) rfl (by decide) w_197 (show decode prog_1_method_5_code 109 = .ok (.newarray .int, 2) by decide +kernel) h ?_
      intro S16 h
      refine hg_rput (pc := 111) (r := (some o)) (v := va_rf (some S11.2.1)) hC fp_SignalEngine_78 (hg_na _).1 (hg_na _).2 (show decode prog_1_method_5_code 111 = .ok (.putfield 78, 3) by decide +kernel) h ?_
      intro S17 h
      exact hg_sub [0, 2] rfl (lab_114 S17 x3 h)
    · intro h
      exact hg_sub [0, 2] rfl (lab_114 S x3 h)
  show hg_G X l (hg_rm 813 19450 Z) D 4 Z 0 [(0, va_rf (some o))] []
  have h : dc_wp (hm_SE_read G Z o) F := h
  delta hm_SE_read at h
  refine hg_aloadn (pc := 0) (j := 0) (i := 0) (r := (some o)) hC 0 rfl rfl (show decode prog_1_method_5_code 0 = .ok (.aload_n 0, 1) by decide +kernel) ?_
  refine hg_rgr (pc := 1) (r := (some o)) hC fl_SignalEngine_9 (show decode prog_1_method_5_code 1 = .ok (.getfield 9, 3) by decide +kernel) h ?_
  intro e18 h
  refine hg_aloadn (pc := 4) (j := 0) (i := 0) (r := (some o)) hC 0 rfl rfl (show decode prog_1_method_5_code 4 = .ok (.aload_n 0, 1) by decide +kernel) ?_
  refine hg_rgi (pc := 5) (r := (some o)) hC fl_SignalEngine_13 (show decode prog_1_method_5_code 5 = .ok (.getfield 13, 3) by decide +kernel) h ?_
  intro e19 h
  refine hg_kSr (pc := 8) (As := [va_rf e18, .int e19]) (rest := []) (vo := fun q => q.2) (so := fun q => q.1) hC cw_SignalEngine_18 (fun q hq => hm_JA_copyB_ok l D G Z e18 e19 q hq) (Nat.le_of_ble_eq_true rfl) (Nat.le_of_ble_eq_true rfl) rfl (Nat.le_of_ble_eq_true rfl) (show decode prog_1_method_5_code 8 = .ok (.invokestatic 18, 3) by decide +kernel) h ?_
  intro q20 h
  refine hg_astoren (pc := 11) (j := 1) (i := 1) (r := q20.2) (lv' := [(1, va_rf q20.2), (0, va_rf (some o))]) hC rfl (Nat.le_of_ble_eq_true rfl) rfl (show decode prog_1_method_5_code 11 = .ok (.astore_n 1, 1) by decide +kernel) ?_
  refine hg_aloadn (pc := 12) (j := 0) (i := 0) (r := (some o)) hC 1 rfl rfl (show decode prog_1_method_5_code 12 = .ok (.aload_n 0, 1) by decide +kernel) ?_
  refine hg_iconst (pc := 13) (v := 0) hC (show decode prog_1_method_5_code 13 = .ok (.iconst 0, 1) by decide +kernel) (by decide +kernel) ?_
  refine hg_rput (pc := 14) (r := (some o)) (v := .int 0) hC fp_SignalEngine_13 rfl rfl (show decode prog_1_method_5_code 14 = .ok (.putfield 13, 3) by decide +kernel) h ?_
  intro S21 h
  refine hg_aloadn (pc := 17) (j := 0) (i := 0) (r := (some o)) hC 1 rfl rfl (show decode prog_1_method_5_code 17 = .ok (.aload_n 0, 1) by decide +kernel) ?_
  refine hg_iconst (pc := 18) (v := 0) hC (show decode prog_1_method_5_code 18 = .ok (.iconst 0, 1) by decide +kernel) (by decide +kernel) ?_
  refine hg_rput (pc := 19) (r := (some o)) (v := .int 0) hC fp_SignalEngine_28 (dc_nar (Or.inl rfl)).2.1 (dc_nar (Or.inl rfl)).2.2 (show decode prog_1_method_5_code 19 = .ok (.putfield 28, 3) by decide +kernel) h ?_
  intro S22 h
  refine hg_aloadn (pc := 22) (j := 0) (i := 0) (r := (some o)) hC 1 rfl rfl (show decode prog_1_method_5_code 22 = .ok (.aload_n 0, 1) by decide +kernel) ?_
  obtain ⟨b23, hb24, h⟩ := dc_bind h
  obtain ⟨hb24, hv25⟩ := hg_chk_of (C := R_SE) rfl hb24
  refine hg_kVv (pc := 23) (b := b23) (r := (some o)) (As := []) (rest := []) (so := fun q => q) hC cw_SignalEngine_32 (fun q hq => hm_SE_forget_ok l D G S22 b23 q hq) (Nat.le_of_ble_eq_true rfl) (Nat.le_of_ble_eq_true rfl) hb24 hv25 rfl (Nat.le_of_ble_eq_true rfl) (show decode prog_1_method_5_code 23 = .ok (.invokevirtual 32, 3) by decide +kernel) h ?_
  intro q26 h
  refine hg_rnew (pc := 26) hC nw_SignalEngine_35 (show decode prog_1_method_5_code 26 = .ok (.new 35, 3) by decide +kernel) h ?_
  intro S27 h
  refine hg_dup (pc := 29) hC (show decode prog_1_method_5_code 29 = .ok (.dup, 1) by decide +kernel) (va_rf_cat _) ?_
  refine hg_aloadn (pc := 30) (j := 1) (i := 1) (r := q20.2) hC 0 rfl rfl (show decode prog_1_method_5_code 30 = .ok (.aload_n 1, 1) by decide +kernel) ?_
  refine hg_kIv (pc := 31) (b := q26.2.1) (r := (some q26.2.1)) (As := [va_rf q20.2]) (rest := [va_rf (some q26.2.1)]) (so := fun q => q) hC cw_SignalEngine_37 (fun q hq => hm_PA_init_ok l D G S27 q26.2.1 q20.2 q hq) (Nat.le_of_ble_eq_true rfl) (Nat.le_of_ble_eq_true rfl) rfl rfl (by simp only [List.map, va_rf_cat]; exact Nat.le_of_ble_eq_true rfl) (show decode prog_1_method_5_code 31 = .ok (.invokespecial 37, 3) by decide +kernel) h ?_
  intro q28 h
  refine hg_letR h ?_
  intro v29 h
  refine hg_astoren (pc := 34) (j := 2) (i := 2) (r := v29) (lv' := [(2, va_rf v29), (1, va_rf q20.2), (0, va_rf (some o))]) hC rfl (Nat.le_of_ble_eq_true rfl) (by simp [va_rf_cat, hg_cti]) (show decode prog_1_method_5_code 34 = .ok (.astore_n 2, 1) by decide +kernel) ?_
  refine hg_aloadn (pc := 35) (j := 2) (i := 2) (r := v29) hC 0 rfl rfl (show decode prog_1_method_5_code 35 = .ok (.aload_n 2, 1) by decide +kernel) ?_
  obtain ⟨b31, hb32, h⟩ := dc_bind h
  obtain ⟨hb32, hv33⟩ := hg_chk_of (C := R_PA) rfl hb32
  refine hg_kHi (pc := 36) (b := b31) (r := v29) (rest := []) (vo := fun q => q.2) (so := fun q => q.1) hC cw_SignalEngine_40 (fun q hq => hm_PA_parse_ok l hlt D G q28 b31 q hq) (Nat.le_of_ble_eq_true rfl) (Nat.le_of_ble_eq_true rfl) hb32 hv33 rfl (Nat.le_of_ble_eq_true rfl) (show decode prog_1_method_5_code 36 = .ok (.invokevirtual 40, 3) by decide +kernel) h ?_
  intro q30 h
  refine hg_istoren (pc := 39) (j := 3) (i := 3) (lv' := [(3, .int q30.2), (2, va_rf v29), (1, va_rf q20.2), (0, va_rf (some o))]) hC rfl (Nat.le_of_ble_eq_true rfl) (by simp [va_rf_cat, hg_cti]) (show decode prog_1_method_5_code 39 = .ok (.istore_n 3, 1) by decide +kernel) ?_
  refine hg_iloadn (pc := 40) (j := 3) (i := 3) hC 0 rfl rfl (show decode prog_1_method_5_code 40 = .ok (.iload_n 3, 1) by decide +kernel) ?_
  refine hg_if_ne (pc := 41) (tgt := 49) hC (show decode prog_1_method_5_code 41 = .ok (.ifCond .ne 8, 3) by decide +kernel) (by decide +kernel) h ?_ ?_
  · intro h
    refine hg_aloadn (pc := 44) (j := 2) (i := 2) (r := v29) hC 1 rfl rfl (show decode prog_1_method_5_code 44 = .ok (.aload_n 2, 1) by decide +kernel) ?_
    obtain ⟨b34, hb35, h⟩ := dc_bind h
    obtain ⟨hb35, hv36⟩ := hg_chk_of (C := R_PA) rfl hb35
    refine hg_kVi (pc := 45) (b := b34) (r := v29) (As := []) (rest := []) (vo := fun q => q.2) (so := fun q => q.1) hC cw_SignalEngine_44 (fun q hq => hm_PA_judge_ok l D G q30.1 b34 q hq) (Nat.le_of_ble_eq_true rfl) (Nat.le_of_ble_eq_true rfl) hb35 hv36 rfl (Nat.le_of_ble_eq_true rfl) (show decode prog_1_method_5_code 45 = .ok (.invokevirtual 44, 3) by decide +kernel) h ?_
    intro q37 h
    refine hg_istoren (pc := 48) (j := 3) (i := 3) (lv' := [(3, .int q37.2), (2, va_rf v29), (1, va_rf q20.2), (0, va_rf (some o))]) hC rfl (Nat.le_of_ble_eq_true rfl) (by simp [va_rf_cat, hg_cti]) (show decode prog_1_method_5_code 48 = .ok (.istore_n 3, 1) by decide +kernel) ?_
    exact hg_sub [3, 1, 0] rfl (lab_49 q37.1 v29 q37.2 h)
  · intro h
    exact hg_sub [3, 1, 0] rfl (lab_49 q30.1 v29 q30.2 h)
