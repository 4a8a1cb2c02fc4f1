noncomputable def hm_RE_startBehind_L52 (G : hg_E) (S : hg_S) (o : Nat) (y0 : Int32) (y1 : Int32) : Option (hg_S × Int32) :=
  (hg_chk S (some o) 10).bind fun b1 => (hm_RE_within G S b1 y1 y0).bind fun q4 => some (q4.1, q4.2)
noncomputable def hm_RE_startBehind (G : hg_E) (S : hg_S) (o : Nat) (p1 : Int32) (p2 : Int32) : Option (hg_S × Int32) :=
  (hg_gr S (some o) 10 7).bind fun e5 => (hg_ld S e5 (G.1 0) p1).bind fun e6 => if (e6 &&& 1) = 0 then (some (S, (-1))) else ((hg_pf S (some o) 10 15 (.int 1)).bind fun S7 => (hg_pf S7 (some o) 10 16 (.int p2)).bind fun S8 => (hg_gr S8 (some o) 10 0).bind fun e9 => (hg_gr S8 e9 9 14).bind fun e10 => (hg_ld S8 e10 (G.1 0) p1).bind fun e11 => (hg_pf S8 (some o) 10 17 (.int e11)).bind fun S12 => (hg_gr S12 (some o) 10 8).bind fun e13 => (hg_ld S12 e13 (G.1 0) p1).bind fun e14 => if e14 = 0 then (hm_RE_startBehind_L52 G S12 o 1 p2) else (hm_RE_startBehind_L52 G S12 o 0 p2))
set_option maxHeartbeats 4000000 in
set_option maxRecDepth 100000 in
/-- SignalEngine$Reactor.startBehind(II)I -/
theorem hm_RE_startBehind_ok (l : Launch) (D : va_G) (G : hg_E) (Z : hg_S) (o : Nat) (p1 : Int32) (p2 : Int32) (q : hg_S × Int32) (hq : hm_RE_startBehind G Z o p1 p2 = some q) : hg_C l ⟨"SignalEngine$Reactor", "startBehind", "(II)I"⟩ prog_12_method_25_code 3 (some (.int)) 1 22 D G [.ref o, .int p1, .int p2] Z (.inl (some (.int q.2), q.1) : hg_O) := by
  refine hg_start (cv := fun q => (.inl (some (.int q.2), q.1) : hg_O)) hq ?_
  intro F hF h
  refine hg_enter (lv := [(0, va_rf (some o)), (1, .int p1), (2, .int p2)]) (by decide +kernel) (by simp [lg_sl, va_rf_cat, hg_cti, hg_ctr]) (by simp [lv_args, va_rf_cat, va_rf_some, hg_cti, hg_ctr]) ?_
  intro X hC hR
  have lab_52 : ∀ (S : hg_S) (y0 : Int32) (y1 : Int32), dc_wp (hm_RE_startBehind_L52 G S o y0 y1) F → hg_G X l (hg_rm 1 22 Z) D 3 S 52 [(0, va_rf (some o))] [.int y0, .int y1, va_rf (some o)] := by
    intro S y0 y1 h
    delta hm_RE_startBehind_L52 at h
    obtain ⟨b1, hb2, h⟩ := dc_bind h
    obtain ⟨hb2, hv3⟩ := hg_chk_of (C := R_RE) rfl hb2
    refine hg_kVi (pc := 52) (b := b1) (r := (some o)) (As := [.int y1, .int y0]) (rest := []) (vo := fun q => q.2) (so := fun q => q.1) hC cw_SignalEngine_Reactor_135 (fun q hq => hm_RE_within_ok l D G S b1 y1 y0 q hq) (Nat.le_of_ble_eq_true rfl) (Nat.le_of_ble_eq_true rfl) hb2 hv3 rfl (Nat.le_of_ble_eq_true rfl) (show decode prog_12_method_25_code 52 = .ok (.invokevirtual 135, 3) by decide +kernel) h ?_
    intro q4 h
    exact hg_iret (pc := 55) hC hR (hF _ (dc_some h)) (show decode prog_12_method_25_code 55 = .ok (.ireturn, 1) by decide +kernel)
  show hg_G X l (hg_rm 1 22 Z) D 3 Z 0 [(0, va_rf (some o)), (1, .int p1), (2, .int p2)] []
  have h : dc_wp (hm_RE_startBehind G Z o p1 p2) F := h
  delta hm_RE_startBehind at h
  refine hg_aloadn (pc := 0) (j := 0) (i := 0) (r := (some o)) hC 0 rfl rfl (show decode prog_12_method_25_code 0 = .ok (.aload_n 0, 1) by decide +kernel) ?_
  refine hg_rgr (pc := 1) (r := (some o)) hC fl_SignalEngine_Reactor_60 (show decode prog_12_method_25_code 1 = .ok (.getfield 60, 3) by decide +kernel) h ?_
  intro e5 h
  refine hg_iloadn (pc := 4) (j := 1) (i := 1) hC 1 rfl rfl (show decode prog_12_method_25_code 4 = .ok (.iload_n 1, 1) by decide +kernel) ?_
  refine hg_riald (pc := 5) (r := e5) hC (show decode prog_12_method_25_code 5 = .ok (.iaload, 1) by decide +kernel) h ?_
  intro e6 h
  refine hg_iconst (pc := 6) (v := 1) hC (show decode prog_12_method_25_code 6 = .ok (.iconst 1, 1) by decide +kernel) (by decide +kernel) ?_
  refine hg_iand (pc := 7) hC (show decode prog_12_method_25_code 7 = .ok (.iand, 1) by decide +kernel) ?_
  refine hg_if_ne (pc := 8) (tgt := 13) hC (show decode prog_12_method_25_code 8 = .ok (.ifCond .ne 5, 3) by decide +kernel) (by decide +kernel) h ?_ ?_
  · intro h
    refine hg_iconst (pc := 11) (v := (-1)) hC (show decode prog_12_method_25_code 11 = .ok (.iconst (-1), 1) by decide +kernel) (by decide +kernel) ?_
    exact hg_iret (pc := 12) hC hR (hF _ (dc_some h)) (show decode prog_12_method_25_code 12 = .ok (.ireturn, 1) by decide +kernel)
  · intro h
    refine hg_aloadn (pc := 13) (j := 0) (i := 0) (r := (some o)) hC 0 rfl rfl (show decode prog_12_method_25_code 13 = .ok (.aload_n 0, 1) by decide +kernel) ?_
    refine hg_iconst (pc := 14) (v := 1) hC (show decode prog_12_method_25_code 14 = .ok (.iconst 1, 1) by decide +kernel) (by decide +kernel) ?_
    refine hg_rput (pc := 15) (r := (some o)) (v := .int 1) hC fp_SignalEngine_Reactor_126 (dc_nar (Or.inr rfl)).2.1 (dc_nar (Or.inr rfl)).2.2 (show decode prog_12_method_25_code 15 = .ok (.putfield 126, 3) by decide +kernel) h ?_
    intro S7 h
    refine hg_aloadn (pc := 18) (j := 0) (i := 0) (r := (some o)) hC 0 rfl rfl (show decode prog_12_method_25_code 18 = .ok (.aload_n 0, 1) by decide +kernel) ?_
    refine hg_iloadn (pc := 19) (j := 2) (i := 2) hC 2 rfl rfl (show decode prog_12_method_25_code 19 = .ok (.iload_n 2, 1) by decide +kernel) ?_
    refine hg_rput (pc := 20) (r := (some o)) (v := .int p2) hC fp_SignalEngine_Reactor_129 rfl rfl (show decode prog_12_method_25_code 20 = .ok (.putfield 129, 3) by decide +kernel) h ?_
    intro S8 h
    refine hg_aloadn (pc := 23) (j := 0) (i := 0) (r := (some o)) hC 0 rfl rfl (show decode prog_12_method_25_code 23 = .ok (.aload_n 0, 1) by decide +kernel) ?_
    refine hg_aloadn (pc := 24) (j := 0) (i := 0) (r := (some o)) hC 0 rfl rfl (show decode prog_12_method_25_code 24 = .ok (.aload_n 0, 1) by decide +kernel) ?_
    refine hg_rgr (pc := 25) (r := (some o)) hC fl_SignalEngine_Reactor_9 (show decode prog_12_method_25_code 25 = .ok (.getfield 9, 3) by decide +kernel) h ?_
    intro e9 h
    refine hg_rgr (pc := 28) (r := e9) hC fl_SignalEngine_Reactor_88 (show decode prog_12_method_25_code 28 = .ok (.getfield 88, 3) by decide +kernel) h ?_
    intro e10 h
    refine hg_iloadn (pc := 31) (j := 1) (i := 1) hC 1 rfl rfl (show decode prog_12_method_25_code 31 = .ok (.iload_n 1, 1) by decide +kernel) ?_
    refine hg_riald (pc := 32) (r := e10) hC (show decode prog_12_method_25_code 32 = .ok (.iaload, 1) by decide +kernel) h ?_
    intro e11 h
    refine hg_rput (pc := 33) (r := (some o)) (v := .int e11) hC fp_SignalEngine_Reactor_132 rfl rfl (show decode prog_12_method_25_code 33 = .ok (.putfield 132, 3) by decide +kernel) h ?_
    intro S12 h
    refine hg_aloadn (pc := 36) (j := 0) (i := 0) (r := (some o)) hC 0 rfl rfl (show decode prog_12_method_25_code 36 = .ok (.aload_n 0, 1) by decide +kernel) ?_
    refine hg_iloadn (pc := 37) (j := 2) (i := 2) hC 2 rfl rfl (show decode prog_12_method_25_code 37 = .ok (.iload_n 2, 1) by decide +kernel) ?_
    refine hg_aloadn (pc := 38) (j := 0) (i := 0) (r := (some o)) hC 0 rfl rfl (show decode prog_12_method_25_code 38 = .ok (.aload_n 0, 1) by decide +kernel) ?_
    refine hg_rgr (pc := 39) (r := (some o)) hC fl_SignalEngine_Reactor_63 (show decode prog_12_method_25_code 39 = .ok (.getfield 63, 3) by decide +kernel) h ?_
    intro e13 h
    refine hg_iloadn (pc := 42) (j := 1) (i := 1) hC 1 rfl rfl (show decode prog_12_method_25_code 42 = .ok (.iload_n 1, 1) by decide +kernel) ?_
    refine hg_riald (pc := 43) (r := e13) hC (show decode prog_12_method_25_code 43 = .ok (.iaload, 1) by decide +kernel) h ?_
    intro e14 h
    refine hg_if_ne (pc := 44) (tgt := 51) hC (show decode prog_12_method_25_code 44 = .ok (.ifCond .ne 7, 3) by decide +kernel) (by decide +kernel) h ?_ ?_
    · intro h
      refine hg_iconst (pc := 47) (v := 1) hC (show decode prog_12_method_25_code 47 = .ok (.iconst 1, 1) by decide +kernel) (by decide +kernel) ?_
      refine hg_goto (pc := 48) (tgt := 52) hC (show decode prog_12_method_25_code 48 = .ok (.goto 4, 3) by decide +kernel) (by decide +kernel) ?_
      exact hg_sub [0] rfl (lab_52 S12 1 p2 h)
    · intro h
      refine hg_iconst (pc := 51) (v := 0) hC (show decode prog_12_method_25_code 51 = .ok (.iconst 0, 1) by decide +kernel) (by decide +kernel) ?_
      exact hg_sub [0] rfl (lab_52 S12 0 p2 h)
noncomputable def hm_RE_goOnResume_L160 (G : hg_E) (S : hg_S) (o : Nat) (x2 : Int32) (y0 : Int32) (y1 : Int32) (y2 : Int32) : Option (hg_S × Int32) :=
  (hg_gr S (some o) 10 8).bind fun e1 => (hg_ld S e1 (G.1 0) x2).bind fun e2 => (hg_chk S (some o) 10).bind fun b3 => (hm_RE_answer G S b3 y2 (y1 ||| y0) e2).bind fun q6 => some (q6, (-1))
noncomputable def hm_RE_goOnResume_L130 (G : hg_E) (S : hg_S) (o : Nat) (x1 : Int32) : Option (hg_S × Int32) :=
  (hg_chk S (some o) 10).bind fun b7 => (hm_RE_closeBoth G S b7 x1).bind fun q10 => some (q10, (-1))
noncomputable def hm_RE_goOnResume_L80 (G : hg_E) (S : hg_S) (o : Nat) (y0 : Int32) : Option (hg_S × Int32) :=
  some (S, y0)
noncomputable def hm_RE_goOnResume (G : hg_E) (S : hg_S) (o : Nat) (p1 : Int32) (p2 : Int32) : Option (hg_S × Int32) :=
  (hg_gr S (some o) 10 0).bind fun e11 => (hg_gr S e11 9 9).bind fun e12 => (hg_ld S e12 (G.1 0) p1).bind fun e13 => (hg_gr S (some o) 10 0).bind fun e14 => (hg_gr S e14 9 7).bind fun e15 => (hg_ld S e15 (G.1 0) p1).bind fun e16 => dc_let (e16 : Int32) fun v17 => if v17 = 4 then ((hg_gr S (some o) 10 7).bind fun e18 => (hg_ld S e18 (G.1 0) p2).bind fun e19 => (hg_gr S (some o) 10 6).bind fun e20 => (hg_ld S e20 (G.1 0) p1).bind fun e21 => if e21 = 2 then (hm_RE_goOnResume_L160 G S o p2 2 e19 p1) else (hm_RE_goOnResume_L160 G S o p2 0 e19 p1)) else if v17 = 5 then ((hg_gr S (some o) 10 7).bind fun e23 => (hg_ld S e23 (G.1 0) p2).bind fun e24 => (hg_gr S (some o) 10 8).bind fun e25 => (hg_ld S e25 (G.1 0) p2).bind fun e26 => (hg_chk S (some o) 10).bind fun b27 => (hm_RE_answer G S b27 p1 e24 e26).bind fun q30 => if p2 = e13 then (hm_RE_goOnResume_L80 G q30 o (-1)) else ((hg_chk q30 (some o) 10).bind fun b31 => (hm_RE_startBehind G q30 b31 p1 e13).bind fun q34 => hm_RE_goOnResume_L80 G q34.1 o q34.2)) else if v17 = 6 then ((hg_gr S (some o) 10 7).bind fun e36 => (hg_ld S e36 (G.1 0) p2).bind fun e37 => (hg_gr S (some o) 10 8).bind fun e38 => (hg_ld S e38 (G.1 0) p2).bind fun e39 => (hg_chk S (some o) 10).bind fun b40 => (hm_RE_answer G S b40 p1 e37 e39).bind fun q43 => (hg_chk q43 (some o) 10).bind fun b44 => (hm_RE_startBehind G q43 b44 p1 p2).bind fun q47 => some (q47.1, q47.2)) else if v17 = 7 then (if p2 = e13 then (hm_RE_goOnResume_L130 G S o p1) else ((hg_chk S (some o) 10).bind fun b49 => (hm_RE_isHeld G S b49 e13).bind fun q52 => if q52 = 0 then (hm_RE_goOnResume_L130 G S o p1) else ((hg_gr S (some o) 10 9).bind fun e53 => (hg_ld S e53 (G.1 2) p1).bind fun e54 => (hg_chk S (some o) 10).bind fun b55 => (hm_RE_within G S b55 e13 e54).bind fun q58 => some (q58.1, q58.2)))) else ((hg_chk S (some o) 10).bind fun b60 => (hm_RE_closeSingle G S b60 p1 p2).bind fun q63 => some (q63, (-1)))
set_option maxHeartbeats 4000000 in
set_option maxRecDepth 100000 in
/-- SignalEngine$Reactor.goOnResume(II)I -/
theorem hm_RE_goOnResume_ok (l : Launch) (D : va_G) (G : hg_E) (Z : hg_S) (o : Nat) (p1 : Int32) (p2 : Int32) (q : hg_S × Int32) (hq : hm_RE_goOnResume G Z o p1 p2 = some q) : hg_C l ⟨"SignalEngine$Reactor", "goOnResume", "(II)I"⟩ prog_12_method_24_code 4 (some (.int)) 3 65 D G [.ref o, .int p1, .int p2] Z (.inl (some (.int q.2), q.1) : hg_O) := by
  refine hg_start (cv := fun q => (.inl (some (.int q.2), q.1) : hg_O)) hq ?_
  intro F hF h
  refine hg_enter (lv := [(0, va_rf (some o)), (1, .int p1), (2, .int p2)]) (by decide +kernel) (by simp [lg_sl, va_rf_cat, hg_cti, hg_ctr]) (by simp [lv_args, va_rf_cat, va_rf_some, hg_cti, hg_ctr]) ?_
  intro X hC hR
  have lab_160 : ∀ (S : hg_S) (x2 : Int32) (y0 : Int32) (y1 : Int32) (y2 : Int32), dc_wp (hm_RE_goOnResume_L160 G S o x2 y0 y1 y2) F → hg_G X l (hg_rm 3 65 Z) D 4 S 160 [(0, va_rf (some o)), (2, .int x2)] [.int y0, .int y1, .int y2, va_rf (some o)] := by
    intro S x2 y0 y1 y2 h
    delta hm_RE_goOnResume_L160 at h
    refine hg_ior (pc := 160) hC (show decode prog_12_method_24_code 160 = .ok (.ior, 1) by decide +kernel) ?_
    refine hg_aloadn (pc := 161) (j := 0) (i := 0) (r := (some o)) hC 0 rfl rfl (show decode prog_12_method_24_code 161 = .ok (.aload_n 0, 1) by decide +kernel) ?_
    refine hg_rgr (pc := 162) (r := (some o)) hC fl_SignalEngine_Reactor_63 (show decode prog_12_method_24_code 162 = .ok (.getfield 63, 3) by decide +kernel) h ?_
    intro e1 h
    refine hg_iloadn (pc := 165) (j := 2) (i := 2) hC 1 rfl rfl (show decode prog_12_method_24_code 165 = .ok (.iload_n 2, 1) by decide +kernel) ?_
    refine hg_riald (pc := 166) (r := e1) hC (show decode prog_12_method_24_code 166 = .ok (.iaload, 1) by decide +kernel) h ?_
    intro e2 h
    obtain ⟨b3, hb4, h⟩ := dc_bind h
    obtain ⟨hb4, hv5⟩ := hg_chk_of (C := R_RE) rfl hb4
    refine hg_kVv (pc := 167) (b := b3) (r := (some o)) (As := [.int y2, .int (y1 ||| y0), .int e2]) (rest := []) (so := fun q => q) hC cw_SignalEngine_Reactor_171 (fun q hq => hm_RE_answer_ok l D G S b3 y2 (y1 ||| y0) e2 q hq) (Nat.le_of_ble_eq_true rfl) (Nat.le_of_ble_eq_true rfl) hb4 hv5 rfl (Nat.le_of_ble_eq_true rfl) (show decode prog_12_method_24_code 167 = .ok (.invokevirtual 171, 3) by decide +kernel) h ?_
    intro q6 h
    refine hg_iconst (pc := 170) (v := (-1)) hC (show decode prog_12_method_24_code 170 = .ok (.iconst (-1), 1) by decide +kernel) (by decide +kernel) ?_
    exact hg_iret (pc := 171) hC hR (hF _ (dc_some h)) (show decode prog_12_method_24_code 171 = .ok (.ireturn, 1) by decide +kernel)
  have lab_130 : ∀ (S : hg_S) (x1 : Int32), dc_wp (hm_RE_goOnResume_L130 G S o x1) F → hg_G X l (hg_rm 3 65 Z) D 4 S 130 [(0, va_rf (some o)), (1, .int x1)] [] := by
    intro S x1 h
    delta hm_RE_goOnResume_L130 at h
    refine hg_aloadn (pc := 130) (j := 0) (i := 0) (r := (some o)) hC 0 rfl rfl (show decode prog_12_method_24_code 130 = .ok (.aload_n 0, 1) by decide +kernel) ?_
    refine hg_iloadn (pc := 131) (j := 1) (i := 1) hC 1 rfl rfl (show decode prog_12_method_24_code 131 = .ok (.iload_n 1, 1) by decide +kernel) ?_
    obtain ⟨b7, hb8, h⟩ := dc_bind h
    obtain ⟨hb8, hv9⟩ := hg_chk_of (C := R_RE) rfl hb8
    refine hg_kVv (pc := 132) (b := b7) (r := (some o)) (As := [.int x1]) (rest := []) (so := fun q => q) hC cw_SignalEngine_Reactor_198 (fun q hq => hm_RE_closeBoth_ok l D G S b7 x1 q hq) (Nat.le_of_ble_eq_true rfl) (Nat.le_of_ble_eq_true rfl) hb8 hv9 rfl (Nat.le_of_ble_eq_true rfl) (show decode prog_12_method_24_code 132 = .ok (.invokevirtual 198, 3) by decide +kernel) h ?_
    intro q10 h
    refine hg_iconst (pc := 135) (v := (-1)) hC (show decode prog_12_method_24_code 135 = .ok (.iconst (-1), 1) by decide +kernel) (by decide +kernel) ?_
    exact hg_iret (pc := 136) hC hR (hF _ (dc_some h)) (show decode prog_12_method_24_code 136 = .ok (.ireturn, 1) by decide +kernel)
  have lab_80 : ∀ (S : hg_S) (y0 : Int32), dc_wp (hm_RE_goOnResume_L80 G S o y0) F → hg_G X l (hg_rm 3 65 Z) D 4 S 80 [(0, va_rf (some o))] [.int y0] := by
    intro S y0 h
    delta hm_RE_goOnResume_L80 at h
    exact hg_iret (pc := 80) hC hR (hF _ (dc_some h)) (show decode prog_12_method_24_code 80 = .ok (.ireturn, 1) by decide +kernel)
  show hg_G X l (hg_rm 3 65 Z) D 4 Z 0 [(0, va_rf (some o)), (1, .int p1), (2, .int p2)] []
  have h : dc_wp (hm_RE_goOnResume G Z o p1 p2) F := h
  delta hm_RE_goOnResume at h
  refine hg_aloadn (pc := 0) (j := 0) (i := 0) (r := (some o)) hC 0 rfl rfl (show decode prog_12_method_24_code 0 = .ok (.aload_n 0, 1) by decide +kernel) ?_
  refine hg_rgr (pc := 1) (r := (some o)) hC fl_SignalEngine_Reactor_9 (show decode prog_12_method_24_code 1 = .ok (.getfield 9, 3) by decide +kernel) h ?_
  intro e11 h
  refine hg_rgr (pc := 4) (r := e11) hC fl_SignalEngine_Reactor_188 (show decode prog_12_method_24_code 4 = .ok (.getfield 188, 3) by decide +kernel) h ?_
  intro e12 h
  refine hg_iloadn (pc := 7) (j := 1) (i := 1) hC 1 rfl rfl (show decode prog_12_method_24_code 7 = .ok (.iload_n 1, 1) by decide +kernel) ?_
  refine hg_riald (pc := 8) (r := e12) hC (show decode prog_12_method_24_code 8 = .ok (.iaload, 1) by decide +kernel) h ?_
  intro e13 h
  refine hg_istoren (pc := 9) (j := 3) (i := 3) (lv' := [(3, .int e13), (0, va_rf (some o)), (1, .int p1), (2, .int p2)]) hC rfl (Nat.le_of_ble_eq_true rfl) rfl (show decode prog_12_method_24_code 9 = .ok (.istore_n 3, 1) by decide +kernel) ?_
  refine hg_aloadn (pc := 10) (j := 0) (i := 0) (r := (some o)) hC 1 rfl rfl (show decode prog_12_method_24_code 10 = .ok (.aload_n 0, 1) by decide +kernel) ?_
  refine hg_rgr (pc := 11) (r := (some o)) hC fl_SignalEngine_Reactor_9 (show decode prog_12_method_24_code 11 = .ok (.getfield 9, 3) by decide +kernel) h ?_
  intro e14 h
  refine hg_rgr (pc := 14) (r := e14) hC fl_SignalEngine_Reactor_15 (show decode prog_12_method_24_code 14 = .ok (.getfield 15, 3) by decide +kernel) h ?_
  intro e15 h
  refine hg_iloadn (pc := 17) (j := 1) (i := 1) hC 2 rfl rfl (show decode prog_12_method_24_code 17 = .ok (.iload_n 1, 1) by decide +kernel) ?_
  refine hg_riald (pc := 18) (r := e15) hC (show decode prog_12_method_24_code 18 = .ok (.iaload, 1) by decide +kernel) h ?_
  intro e16 h
  refine hg_letI h ?_
  intro v17 h
  rcases dc_ite h with ⟨hk22, h2⟩ | ⟨hk22, h2⟩
  · subst hk22; clear h; have h := h2; clear h2
    refine hg_tabIn (pc := 19) (off := 118) (tgt := 137) hC dsw_prog_12_method_24_code_19 (by decide +kernel) (by decide +kernel) (by decide +kernel) (by decide +kernel) ?_
    refine hg_aloadn (pc := 137) (j := 0) (i := 0) (r := (some o)) hC 1 rfl rfl (show decode prog_12_method_24_code 137 = .ok (.aload_n 0, 1) by decide +kernel) ?_
    refine hg_iloadn (pc := 138) (j := 1) (i := 1) hC 2 rfl rfl (show decode prog_12_method_24_code 138 = .ok (.iload_n 1, 1) by decide +kernel) ?_
    refine hg_aloadn (pc := 139) (j := 0) (i := 0) (r := (some o)) hC 1 rfl rfl (show decode prog_12_method_24_code 139 = .ok (.aload_n 0, 1) by decide +kernel) ?_
    refine hg_rgr (pc := 140) (r := (some o)) hC fl_SignalEngine_Reactor_60 (show decode prog_12_method_24_code 140 = .ok (.getfield 60, 3) by decide +kernel) h ?_
    intro e18 h
    refine hg_iloadn (pc := 143) (j := 2) (i := 2) hC 3 rfl rfl (show decode prog_12_method_24_code 143 = .ok (.iload_n 2, 1) by decide +kernel) ?_
    refine hg_riald (pc := 144) (r := e18) hC (show decode prog_12_method_24_code 144 = .ok (.iaload, 1) by decide +kernel) h ?_
    intro e19 h
    refine hg_aloadn (pc := 145) (j := 0) (i := 0) (r := (some o)) hC 1 rfl rfl (show decode prog_12_method_24_code 145 = .ok (.aload_n 0, 1) by decide +kernel) ?_
    refine hg_rgr (pc := 146) (r := (some o)) hC fl_SignalEngine_Reactor_57 (show decode prog_12_method_24_code 146 = .ok (.getfield 57, 3) by decide +kernel) h ?_
    intro e20 h
    refine hg_iloadn (pc := 149) (j := 1) (i := 1) hC 2 rfl rfl (show decode prog_12_method_24_code 149 = .ok (.iload_n 1, 1) by decide +kernel) ?_
    refine hg_riald (pc := 150) (r := e20) hC (show decode prog_12_method_24_code 150 = .ok (.iaload, 1) by decide +kernel) h ?_
    intro e21 h
    refine hg_iconst (pc := 151) (v := 2) hC (show decode prog_12_method_24_code 151 = .ok (.iconst 2, 1) by decide +kernel) (by decide +kernel) ?_
    refine hg_icmp_ne (pc := 152) (tgt := 159) hC (show decode prog_12_method_24_code 152 = .ok (.if_icmp .ne 7, 3) by decide +kernel) (by decide +kernel) h ?_ ?_
    · intro h
      refine hg_iconst (pc := 155) (v := 2) hC (show decode prog_12_method_24_code 155 = .ok (.iconst 2, 1) by decide +kernel) (by decide +kernel) ?_
      refine hg_goto (pc := 156) (tgt := 160) hC (show decode prog_12_method_24_code 156 = .ok (.goto 4, 3) by decide +kernel) (by decide +kernel) ?_
      exact hg_sub [1, 3] rfl (lab_160 Z p2 2 e19 p1 h)
    · intro h
      refine hg_iconst (pc := 159) (v := 0) hC (show decode prog_12_method_24_code 159 = .ok (.iconst 0, 1) by decide +kernel) (by decide +kernel) ?_
      exact hg_sub [1, 3] rfl (lab_160 Z p2 0 e19 p1 h)
  clear h; have h := h2; clear h2
  rcases dc_ite h with ⟨hk35, h2⟩ | ⟨hk35, h2⟩
  · subst hk35; clear h; have h := h2; clear h2
    refine hg_tabIn (pc := 19) (off := 29) (tgt := 48) hC dsw_prog_12_method_24_code_19 (by decide +kernel) (by decide +kernel) (by decide +kernel) (by decide +kernel) ?_
    refine hg_aloadn (pc := 48) (j := 0) (i := 0) (r := (some o)) hC 1 rfl rfl (show decode prog_12_method_24_code 48 = .ok (.aload_n 0, 1) by decide +kernel) ?_
    refine hg_iloadn (pc := 49) (j := 1) (i := 1) hC 2 rfl rfl (show decode prog_12_method_24_code 49 = .ok (.iload_n 1, 1) by decide +kernel) ?_
    refine hg_aloadn (pc := 50) (j := 0) (i := 0) (r := (some o)) hC 1 rfl rfl (show decode prog_12_method_24_code 50 = .ok (.aload_n 0, 1) by decide +kernel) ?_
    refine hg_rgr (pc := 51) (r := (some o)) hC fl_SignalEngine_Reactor_60 (show decode prog_12_method_24_code 51 = .ok (.getfield 60, 3) by decide +kernel) h ?_
    intro e23 h
    refine hg_iloadn (pc := 54) (j := 2) (i := 2) hC 3 rfl rfl (show decode prog_12_method_24_code 54 = .ok (.iload_n 2, 1) by decide +kernel) ?_
    refine hg_riald (pc := 55) (r := e23) hC (show decode prog_12_method_24_code 55 = .ok (.iaload, 1) by decide +kernel) h ?_
    intro e24 h
    refine hg_aloadn (pc := 56) (j := 0) (i := 0) (r := (some o)) hC 1 rfl rfl (show decode prog_12_method_24_code 56 = .ok (.aload_n 0, 1) by decide +kernel) ?_
    refine hg_rgr (pc := 57) (r := (some o)) hC fl_SignalEngine_Reactor_63 (show decode prog_12_method_24_code 57 = .ok (.getfield 63, 3) by decide +kernel) h ?_
    intro e25 h
    refine hg_iloadn (pc := 60) (j := 2) (i := 2) hC 3 rfl rfl (show decode prog_12_method_24_code 60 = .ok (.iload_n 2, 1) by decide +kernel) ?_
    refine hg_riald (pc := 61) (r := e25) hC (show decode prog_12_method_24_code 61 = .ok (.iaload, 1) by decide +kernel) h ?_
    intro e26 h
    obtain ⟨b27, hb28, h⟩ := dc_bind h
    obtain ⟨hb28, hv29⟩ := hg_chk_of (C := R_RE) rfl hb28
    refine hg_kVv (pc := 62) (b := b27) (r := (some o)) (As := [.int p1, .int e24, .int e26]) (rest := []) (so := fun q => q) hC cw_SignalEngine_Reactor_171 (fun q hq => hm_RE_answer_ok l D G Z b27 p1 e24 e26 q hq) (Nat.le_of_ble_eq_true rfl) (Nat.le_of_ble_eq_true rfl) hb28 hv29 rfl (Nat.le_of_ble_eq_true rfl) (show decode prog_12_method_24_code 62 = .ok (.invokevirtual 171, 3) by decide +kernel) h ?_
    intro q30 h
    refine hg_iloadn (pc := 65) (j := 2) (i := 2) hC 3 rfl rfl (show decode prog_12_method_24_code 65 = .ok (.iload_n 2, 1) by decide +kernel) ?_
    refine hg_iloadn (pc := 66) (j := 3) (i := 3) hC 0 rfl rfl (show decode prog_12_method_24_code 66 = .ok (.iload_n 3, 1) by decide +kernel) ?_
    refine hg_icmp_ne (pc := 67) (tgt := 74) hC (show decode prog_12_method_24_code 67 = .ok (.if_icmp .ne 7, 3) by decide +kernel) (by decide +kernel) h ?_ ?_
    · intro h
      refine hg_iconst (pc := 70) (v := (-1)) hC (show decode prog_12_method_24_code 70 = .ok (.iconst (-1), 1) by decide +kernel) (by decide +kernel) ?_
      refine hg_goto (pc := 71) (tgt := 80) hC (show decode prog_12_method_24_code 71 = .ok (.goto 9, 3) by decide +kernel) (by decide +kernel) ?_
      exact hg_sub [1] rfl (lab_80 q30 (-1) h)
    · intro h
      refine hg_aloadn (pc := 74) (j := 0) (i := 0) (r := (some o)) hC 1 rfl rfl (show decode prog_12_method_24_code 74 = .ok (.aload_n 0, 1) by decide +kernel) ?_
      refine hg_iloadn (pc := 75) (j := 1) (i := 1) hC 2 rfl rfl (show decode prog_12_method_24_code 75 = .ok (.iload_n 1, 1) by decide +kernel) ?_
      refine hg_iloadn (pc := 76) (j := 3) (i := 3) hC 0 rfl rfl (show decode prog_12_method_24_code 76 = .ok (.iload_n 3, 1) by decide +kernel) ?_
      obtain ⟨b31, hb32, h⟩ := dc_bind h
      obtain ⟨hb32, hv33⟩ := hg_chk_of (C := R_RE) rfl hb32
      refine hg_kVi (pc := 77) (b := b31) (r := (some o)) (As := [.int p1, .int e13]) (rest := []) (vo := fun q => q.2) (so := fun q => q.1) hC cw_SignalEngine_Reactor_225 (fun q hq => hm_RE_startBehind_ok l D G q30 b31 p1 e13 q hq) (Nat.le_of_ble_eq_true rfl) (Nat.le_of_ble_eq_true rfl) hb32 hv33 rfl (Nat.le_of_ble_eq_true rfl) (show decode prog_12_method_24_code 77 = .ok (.invokevirtual 225, 3) by decide +kernel) h ?_
      intro q34 h
      exact hg_sub [1] rfl (lab_80 q34.1 q34.2 h)
  clear h; have h := h2; clear h2
  rcases dc_ite h with ⟨hk48, h2⟩ | ⟨hk48, h2⟩
  · subst hk48; clear h; have h := h2; clear h2
    refine hg_tabIn (pc := 19) (off := 62) (tgt := 81) hC dsw_prog_12_method_24_code_19 (by decide +kernel) (by decide +kernel) (by decide +kernel) (by decide +kernel) ?_
    refine hg_aloadn (pc := 81) (j := 0) (i := 0) (r := (some o)) hC 1 rfl rfl (show decode prog_12_method_24_code 81 = .ok (.aload_n 0, 1) by decide +kernel) ?_
    refine hg_iloadn (pc := 82) (j := 1) (i := 1) hC 2 rfl rfl (show decode prog_12_method_24_code 82 = .ok (.iload_n 1, 1) by decide +kernel) ?_
    refine hg_aloadn (pc := 83) (j := 0) (i := 0) (r := (some o)) hC 1 rfl rfl (show decode prog_12_method_24_code 83 = .ok (.aload_n 0, 1) by decide +kernel) ?_
    refine hg_rgr (pc := 84) (r := (some o)) hC fl_SignalEngine_Reactor_60 (show decode prog_12_method_24_code 84 = .ok (.getfield 60, 3) by decide +kernel) h ?_
    intro e36 h
    refine hg_iloadn (pc := 87) (j := 2) (i := 2) hC 3 rfl rfl (show decode prog_12_method_24_code 87 = .ok (.iload_n 2, 1) by decide +kernel) ?_
    refine hg_riald (pc := 88) (r := e36) hC (show decode prog_12_method_24_code 88 = .ok (.iaload, 1) by decide +kernel) h ?_
    intro e37 h
    refine hg_aloadn (pc := 89) (j := 0) (i := 0) (r := (some o)) hC 1 rfl rfl (show decode prog_12_method_24_code 89 = .ok (.aload_n 0, 1) by decide +kernel) ?_
    refine hg_rgr (pc := 90) (r := (some o)) hC fl_SignalEngine_Reactor_63 (show decode prog_12_method_24_code 90 = .ok (.getfield 63, 3) by decide +kernel) h ?_
    intro e38 h
    refine hg_iloadn (pc := 93) (j := 2) (i := 2) hC 3 rfl rfl (show decode prog_12_method_24_code 93 = .ok (.iload_n 2, 1) by decide +kernel) ?_
    refine hg_riald (pc := 94) (r := e38) hC (show decode prog_12_method_24_code 94 = .ok (.iaload, 1) by decide +kernel) h ?_
    intro e39 h
    obtain ⟨b40, hb41, h⟩ := dc_bind h
    obtain ⟨hb41, hv42⟩ := hg_chk_of (C := R_RE) rfl hb41
    refine hg_kVv (pc := 95) (b := b40) (r := (some o)) (As := [.int p1, .int e37, .int e39]) (rest := []) (so := fun q => q) hC cw_SignalEngine_Reactor_171 (fun q hq => hm_RE_answer_ok l D G Z b40 p1 e37 e39 q hq) (Nat.le_of_ble_eq_true rfl) (Nat.le_of_ble_eq_true rfl) hb41 hv42 rfl (Nat.le_of_ble_eq_true rfl) (show decode prog_12_method_24_code 95 = .ok (.invokevirtual 171, 3) by decide +kernel) h ?_
    intro q43 h
    refine hg_aloadn (pc := 98) (j := 0) (i := 0) (r := (some o)) hC 1 rfl rfl (show decode prog_12_method_24_code 98 = .ok (.aload_n 0, 1) by decide +kernel) ?_
    refine hg_iloadn (pc := 99) (j := 1) (i := 1) hC 2 rfl rfl (show decode prog_12_method_24_code 99 = .ok (.iload_n 1, 1) by decide +kernel) ?_
    refine hg_iloadn (pc := 100) (j := 2) (i := 2) hC 3 rfl rfl (show decode prog_12_method_24_code 100 = .ok (.iload_n 2, 1) by decide +kernel) ?_
    obtain ⟨b44, hb45, h⟩ := dc_bind h
    obtain ⟨hb45, hv46⟩ := hg_chk_of (C := R_RE) rfl hb45
    refine hg_kVi (pc := 101) (b := b44) (r := (some o)) (As := [.int p1, .int p2]) (rest := []) (vo := fun q => q.2) (so := fun q => q.1) hC cw_SignalEngine_Reactor_225 (fun q hq => hm_RE_startBehind_ok l D G q43 b44 p1 p2 q hq) (Nat.le_of_ble_eq_true rfl) (Nat.le_of_ble_eq_true rfl) hb45 hv46 rfl (Nat.le_of_ble_eq_true rfl) (show decode prog_12_method_24_code 101 = .ok (.invokevirtual 225, 3) by decide +kernel) h ?_
    intro q47 h
    exact hg_iret (pc := 104) hC hR (hF _ (dc_some h)) (show decode prog_12_method_24_code 104 = .ok (.ireturn, 1) by decide +kernel)
  clear h; have h := h2; clear h2
  rcases dc_ite h with ⟨hk59, h2⟩ | ⟨hk59, h2⟩
  · subst hk59; clear h; have h := h2; clear h2
    refine hg_tabIn (pc := 19) (off := 86) (tgt := 105) hC dsw_prog_12_method_24_code_19 (by decide +kernel) (by decide +kernel) (by decide +kernel) (by decide +kernel) ?_
    refine hg_iloadn (pc := 105) (j := 2) (i := 2) hC 3 rfl rfl (show decode prog_12_method_24_code 105 = .ok (.iload_n 2, 1) by decide +kernel) ?_
    refine hg_iloadn (pc := 106) (j := 3) (i := 3) hC 0 rfl rfl (show decode prog_12_method_24_code 106 = .ok (.iload_n 3, 1) by decide +kernel) ?_
    refine hg_icmp_eq (pc := 107) (tgt := 130) hC (show decode prog_12_method_24_code 107 = .ok (.if_icmp .eq 23, 3) by decide +kernel) (by decide +kernel) h ?_ ?_
    · intro h
      exact hg_sub [1, 2] rfl (lab_130 Z p1 h)
    · intro h
      refine hg_aloadn (pc := 110) (j := 0) (i := 0) (r := (some o)) hC 1 rfl rfl (show decode prog_12_method_24_code 110 = .ok (.aload_n 0, 1) by decide +kernel) ?_
      refine hg_iloadn (pc := 111) (j := 3) (i := 3) hC 0 rfl rfl (show decode prog_12_method_24_code 111 = .ok (.iload_n 3, 1) by decide +kernel) ?_
      obtain ⟨b49, hb50, h⟩ := dc_bind h
      obtain ⟨hb50, hv51⟩ := hg_chk_of (C := R_RE) rfl hb50
      refine hg_kVi (pc := 112) (b := b49) (r := (some o)) (As := [.int e13]) (rest := []) (vo := fun q => q) (so := fun q => Z) hC cw_SignalEngine_Reactor_221 (fun q hq => hm_RE_isHeld_ok l D G Z b49 e13 q hq) (Nat.le_of_ble_eq_true rfl) (Nat.le_of_ble_eq_true rfl) hb50 hv51 rfl (Nat.le_of_ble_eq_true rfl) (show decode prog_12_method_24_code 112 = .ok (.invokevirtual 221, 3) by decide +kernel) h ?_
      intro q52 h
      refine hg_if_eq (pc := 115) (tgt := 130) hC (show decode prog_12_method_24_code 115 = .ok (.ifCond .eq 15, 3) by decide +kernel) (by decide +kernel) h ?_ ?_
      · intro h
        exact hg_sub [1, 2] rfl (lab_130 Z p1 h)
      · intro h
        refine hg_aloadn (pc := 118) (j := 0) (i := 0) (r := (some o)) hC 1 rfl rfl (show decode prog_12_method_24_code 118 = .ok (.aload_n 0, 1) by decide +kernel) ?_
        refine hg_iloadn (pc := 119) (j := 3) (i := 3) hC 0 rfl rfl (show decode prog_12_method_24_code 119 = .ok (.iload_n 3, 1) by decide +kernel) ?_
        refine hg_aloadn (pc := 120) (j := 0) (i := 0) (r := (some o)) hC 1 rfl rfl (show decode prog_12_method_24_code 120 = .ok (.aload_n 0, 1) by decide +kernel) ?_
        refine hg_rgr (pc := 121) (r := (some o)) hC fl_SignalEngine_Reactor_66 (show decode prog_12_method_24_code 121 = .ok (.getfield 66, 3) by decide +kernel) h ?_
        intro e53 h
        refine hg_iloadn (pc := 124) (j := 1) (i := 1) hC 2 rfl rfl (show decode prog_12_method_24_code 124 = .ok (.iload_n 1, 1) by decide +kernel) ?_
        refine hg_rzald (pc := 125) (r := e53) hC (show decode prog_12_method_24_code 125 = .ok (.baload, 1) by decide +kernel) h ?_
        intro e54 h
        obtain ⟨b55, hb56, h⟩ := dc_bind h
        obtain ⟨hb56, hv57⟩ := hg_chk_of (C := R_RE) rfl hb56
        refine hg_kVi (pc := 126) (b := b55) (r := (some o)) (As := [.int e13, .int e54]) (rest := []) (vo := fun q => q.2) (so := fun q => q.1) hC cw_SignalEngine_Reactor_135 (fun q hq => hm_RE_within_ok l D G Z b55 e13 e54 q hq) (Nat.le_of_ble_eq_true rfl) (Nat.le_of_ble_eq_true rfl) hb56 hv57 rfl (Nat.le_of_ble_eq_true rfl) (show decode prog_12_method_24_code 126 = .ok (.invokevirtual 135, 3) by decide +kernel) h ?_
        intro q58 h
        exact hg_iret (pc := 129) hC hR (hF _ (dc_some h)) (show decode prog_12_method_24_code 129 = .ok (.ireturn, 1) by decide +kernel)
  clear h; have h := h2; clear h2
  refine hg_tabOut (pc := 19) (tgt := 172) hC dsw_prog_12_method_24_code_19 (by have := dc_swc hk22 (show (4 : Int32).toInt = 4 by decide +kernel); have := dc_swc hk35 (show (5 : Int32).toInt = 5 by decide +kernel); have := dc_swc hk48 (show (6 : Int32).toInt = 6 by decide +kernel); have := dc_swc hk59 (show (7 : Int32).toInt = 7 by decide +kernel); omega) (by decide +kernel) ?_
  refine hg_aloadn (pc := 172) (j := 0) (i := 0) (r := (some o)) hC 1 rfl rfl (show decode prog_12_method_24_code 172 = .ok (.aload_n 0, 1) by decide +kernel) ?_
  refine hg_iloadn (pc := 173) (j := 1) (i := 1) hC 2 rfl rfl (show decode prog_12_method_24_code 173 = .ok (.iload_n 1, 1) by decide +kernel) ?_
  refine hg_iloadn (pc := 174) (j := 2) (i := 2) hC 3 rfl rfl (show decode prog_12_method_24_code 174 = .ok (.iload_n 2, 1) by decide +kernel) ?_
  obtain ⟨b60, hb61, h⟩ := dc_bind h
  obtain ⟨hb61, hv62⟩ := hg_chk_of (C := R_RE) rfl hb61
  refine hg_kVv (pc := 175) (b := b60) (r := (some o)) (As := [.int p1, .int p2]) (rest := []) (so := fun q => q) hC cw_SignalEngine_Reactor_201 (fun q hq => hm_RE_closeSingle_ok l D G Z b60 p1 p2 q hq) (Nat.le_of_ble_eq_true rfl) (Nat.le_of_ble_eq_true rfl) hb61 hv62 rfl (Nat.le_of_ble_eq_true rfl) (show decode prog_12_method_24_code 175 = .ok (.invokevirtual 201, 3) by decide +kernel) h ?_
  intro q63 h
  refine hg_iconst (pc := 178) (v := (-1)) hC (show decode prog_12_method_24_code 178 = .ok (.iconst (-1), 1) by decide +kernel) (by decide +kernel) ?_
  exact hg_iret (pc := 179) hC hR (hF _ (dc_some h)) (show decode prog_12_method_24_code 179 = .ok (.ireturn, 1) by decide +kernel)
noncomputable def hm_RE_goThrough_L153 (G : hg_E) (S : hg_S) (o : Nat) : Option (hg_S) :=
  some S
noncomputable def hm_RE_goThrough_L89 (G : hg_E) (S : hg_S) (o : Nat) : Option (hg_S) :=
  some S
noncomputable def hm_RE_goThrough_L147 (G : hg_E) (S : hg_S) (o : Nat) (x2 : Int32) (x3 : Int32) (x4 : Int32) : Option ((hg_S × Int32 × Int32 × Int32) ⊕ ((hg_S) ⊕ (hg_S))) :=
  some (.inl (S, x2, x3, (x4 + 1)))
noncomputable def hm_RE_goThrough_L146 (G : hg_E) (S : hg_S) (o : Nat) (x2 : Int32) (x4 : Int32) (y0 : Int32) : Option ((hg_S × Int32 × Int32 × Int32) ⊕ ((hg_S) ⊕ (hg_S))) :=
  hm_RE_goThrough_L147 G S o x2 y0 x4
noncomputable def hm_RE_goThrough_L81 (G : hg_E) (S : hg_S) (o : Nat) (x2 : Int32) (x4 : Int32) (y0 : Int32) : Option ((hg_S × Int32 × Int32 × Int32) ⊕ ((hg_S) ⊕ (hg_S))) :=
  hm_RE_goThrough_L147 G S o x2 y0 x4
noncomputable def hm_RE_goThrough_b40 (G : hg_E) (S : hg_S) (o : Nat) (x2 : Int32) (x3 : Int32) (x4 : Int32) : Option ((hg_S × Int32 × Int32 × Int32) ⊕ ((hg_S) ⊕ (hg_S))) :=
  (hg_gr S (some o) 10 0).bind fun e1 => (hg_gi S e1 9 4).bind fun e2 => if x4 < (4 * e2) then (if x3 = (-1) then (if x2 = 0 then (some (.inr (.inl S))) else ((hg_gr S (some o) 10 0).bind fun e3 => (hg_gr S e3 9 10).bind fun e4 => (hg_ld S e4 (G.1 0) x2).bind fun e5 => (hg_gi S (some o) 10 16).bind fun e6 => if x2 = e6 then ((hg_chk S (some o) 10).bind fun b7 => (hm_RE_comeBack G S b7 e5 x2).bind fun q10 => hm_RE_goThrough_L146 G q10.1 o e5 x4 q10.2) else ((hg_gi S (some o) 10 15).bind fun e11 => if e11 = 0 then ((hg_chk S (some o) 10).bind fun b12 => (hm_RE_goOnResume G S b12 e5 x2).bind fun q15 => hm_RE_goThrough_L146 G q15.1 o e5 x4 q15.2) else ((hg_chk S (some o) 10).bind fun b16 => (hm_RE_goOnStart G S b16 e5 x2).bind fun q19 => hm_RE_goThrough_L146 G q19.1 o e5 x4 q19.2)))) else ((hg_gi S (some o) 10 15).bind fun e20 => if e20 = 0 then ((hg_chk S (some o) 10).bind fun b21 => (hm_RE_beginResume G S b21 x3).bind fun q24 => hm_RE_goThrough_L81 G q24.1 o x3 x4 q24.2) else ((hg_chk S (some o) 10).bind fun b25 => (hm_RE_beginStart G S b25 x3).bind fun q28 => hm_RE_goThrough_L81 G q28.1 o x3 x4 q28.2))) else (some (.inr (.inr S)))
noncomputable def hm_RE_goThrough_s40 (G : hg_E) (o : Nat) (q : hg_S × Int32 × Int32 × Int32) : Option ((hg_S × Int32 × Int32 × Int32) ⊕ ((hg_S) ⊕ (hg_S))) :=
  hm_RE_goThrough_b40 G q.1 o q.2.1 q.2.2.1 q.2.2.2
noncomputable def hm_RE_goThrough_L40 (G : hg_E) (S : hg_S) (o : Nat) (x2 : Int32) (x3 : Int32) (x4 : Int32) : Option (hg_S) :=
  (dc_it (hm_RE_goThrough_s40 G o) (S, x2, x3, x4)).bind (Sum.elim (fun (z : hg_S) => hm_RE_goThrough_L89 G z o) (fun (z : hg_S) => hm_RE_goThrough_L153 G z o))
noncomputable def hm_RE_goThrough_L15 (G : hg_E) (S : hg_S) (o : Nat) (y0 : Int32) : Option (hg_S) :=
  (dc_zb y0).bind fun _ => (hg_pf S (some o) 10 15 (.int y0)).bind fun S30 => (hg_pf S30 (some o) 10 16 (.int (-1))).bind fun S31 => (hg_pf S31 (some o) 10 17 (.int 0)).bind fun S32 => (hg_chk S32 (some o) 10).bind fun b33 => (hm_RE_within G S32 b33 (0 : Int32) (1 : Int32)).bind fun q36 => hm_RE_goThrough_L40 G q36.1 o 0 q36.2 0
noncomputable def hm_RE_goThrough (G : hg_E) (S : hg_S) (o : Nat) (p1 : Int32) : Option (hg_S) :=
  (hg_chk S (some o) 10).bind fun b37 => (hm_RE_clear G S b37 (0 : Int32)).bind fun q40 => if p1 = 0 then (hm_RE_goThrough_L15 G q40 o 1) else (hm_RE_goThrough_L15 G q40 o 0)
set_option maxHeartbeats 4000000 in
set_option maxRecDepth 100000 in
/-- SignalEngine$Reactor.goThrough(Z)V -/
theorem hm_RE_goThrough_ok (l : Launch) (D : va_G) (G : hg_E) (Z : hg_S) (o : Nat) (p1 : Int32) (q : hg_S) (hq : hm_RE_goThrough G Z o p1 = some q) : hg_C l ⟨"SignalEngine$Reactor", "goThrough", "(Z)V"⟩ prog_12_method_5_code 6 none 4 88 D G [.ref o, .int p1] Z (.inl (none, q) : hg_O) := by
  refine hg_start (cv := fun q => (.inl (none, q) : hg_O)) hq ?_
  intro F hF h
  refine hg_enter (lv := [(0, va_rf (some o)), (1, .int p1)]) (by decide +kernel) (by simp [lg_sl, va_rf_cat, hg_cti, hg_ctr]) (by simp [lv_args, va_rf_cat, va_rf_some, hg_cti, hg_ctr]) ?_
  intro X hC hR
  have lab_153 : ∀ (S : hg_S), dc_wp (hm_RE_goThrough_L153 G S o) F → hg_G X l (hg_rm 4 88 Z) D 6 S 153 [(0, va_rf (some o))] [] := by
    intro S  h
    delta hm_RE_goThrough_L153 at h
    exact hg_vret (pc := 153) hC hR (hF _ (dc_some h)) (show decode prog_12_method_5_code 153 = .ok (.return_, 1) by decide +kernel)
  have lab_89 : ∀ (S : hg_S), dc_wp (hm_RE_goThrough_L89 G S o) F → hg_G X l (hg_rm 4 88 Z) D 6 S 89 [(0, va_rf (some o))] [] := by
    intro S  h
    delta hm_RE_goThrough_L89 at h
    exact hg_vret (pc := 89) hC hR (hF _ (dc_some h)) (show decode prog_12_method_5_code 89 = .ok (.return_, 1) by decide +kernel)
  have loop_40 : ∀ (q : hg_S × Int32 × Int32 × Int32), dc_wp (dc_it (hm_RE_goThrough_s40 G o) q) (fun z => dc_wp ((Sum.elim (fun (z : hg_S) => hm_RE_goThrough_L89 G z o) (fun (z : hg_S) => hm_RE_goThrough_L153 G z o)) z) F) → hg_G X l (hg_rm 4 88 Z) D 6 q.1 40 [(0, va_rf (some o)), (2, .int q.2.1), (3, .int q.2.2.1), (4, .int q.2.2.2)] [] := by
    refine dc_loopF ?_
    intro F_40 hl_40 hr_40
    have lab_147 : ∀ (S : hg_S) (x2 : Int32) (x3 : Int32) (x4 : Int32), dc_wp (hm_RE_goThrough_L147 G S o x2 x3 x4) F_40 → hg_G X l (hg_rm 4 88 Z) D 6 S 147 [(0, va_rf (some o)), (2, .int x2), (3, .int x3), (4, .int x4)] [] := by
      intro S x2 x3 x4 h
      delta hm_RE_goThrough_L147 at h
      refine hg_iinc (pc := 147) (i := 4) (v := (x4 + 1)) (lv' := [(4, .int (x4 + 1)), (0, va_rf (some o)), (2, .int x2), (3, .int x3)]) hC 3 rfl rfl (Nat.le_of_ble_eq_true rfl) rfl (show decode prog_12_method_5_code 147 = .ok (.iinc 4 1, 3) by decide +kernel) ?_
      refine hg_goto (pc := 150) (tgt := 40) hC (show decode prog_12_method_5_code 150 = .ok (.goto (-110), 3) by decide +kernel) (by decide +kernel) ?_
      exact hg_sub [1, 2, 3, 0] rfl (hl_40 (S, x2, x3, (x4 + 1)) (dc_some h))
    have lab_146 : ∀ (S : hg_S) (x2 : Int32) (x4 : Int32) (y0 : Int32), dc_wp (hm_RE_goThrough_L146 G S o x2 x4 y0) F_40 → hg_G X l (hg_rm 4 88 Z) D 6 S 146 [(0, va_rf (some o)), (2, .int x2), (4, .int x4)] [.int y0] := by
      intro S x2 x4 y0 h
      delta hm_RE_goThrough_L146 at h
      refine hg_istoren (pc := 146) (j := 3) (i := 3) (lv' := [(3, .int y0), (0, va_rf (some o)), (2, .int x2), (4, .int x4)]) hC rfl (Nat.le_of_ble_eq_true rfl) rfl (show decode prog_12_method_5_code 146 = .ok (.istore_n 3, 1) by decide +kernel) ?_
      exact hg_sub [1, 2, 0, 3] rfl (lab_147 S x2 y0 x4 h)
    have lab_81 : ∀ (S : hg_S) (x2 : Int32) (x4 : Int32) (y0 : Int32), dc_wp (hm_RE_goThrough_L81 G S o x2 x4 y0) F_40 → hg_G X l (hg_rm 4 88 Z) D 6 S 81 [(0, va_rf (some o)), (2, .int x2), (4, .int x4)] [.int y0] := by
      intro S x2 x4 y0 h
      delta hm_RE_goThrough_L81 at h
      refine hg_istoren (pc := 81) (j := 3) (i := 3) (lv' := [(3, .int y0), (0, va_rf (some o)), (2, .int x2), (4, .int x4)]) hC rfl (Nat.le_of_ble_eq_true rfl) rfl (show decode prog_12_method_5_code 81 = .ok (.istore_n 3, 1) by decide +kernel) ?_
      refine hg_goto (pc := 82) (tgt := 147) hC (show decode prog_12_method_5_code 82 = .ok (.goto 65, 3) by decide +kernel) (by decide +kernel) ?_
      exact hg_sub [1, 2, 0, 3] rfl (lab_147 S x2 y0 x4 h)
    rintro ⟨S, x2, x3, x4⟩ h
    have h : dc_wp (hm_RE_goThrough_b40 G S o x2 x3 x4) F_40 := h
    delta hm_RE_goThrough_b40 at h
    refine hg_iload (pc := 40) (i := 4) hC 3 rfl (show decode prog_12_method_5_code 40 = .ok (.iload 4, 2) by decide +kernel) ?_
    refine hg_iconst (pc := 42) (v := 4) hC (show decode prog_12_method_5_code 42 = .ok (.iconst 4, 1) by decide +kernel) (by decide +kernel) ?_
    refine hg_aloadn (pc := 43) (j := 0) (i := 0) (r := (some o)) hC 0 rfl rfl (show decode prog_12_method_5_code 43 = .ok (.aload_n 0, 1) by decide +kernel) ?_
    refine hg_rgr (pc := 44) (r := (some o)) hC fl_SignalEngine_Reactor_9 (show decode prog_12_method_5_code 44 = .ok (.getfield 9, 3) by decide +kernel) h ?_
    intro e1 h
    refine hg_rgi (pc := 47) (r := e1) hC fl_SignalEngine_Reactor_139 (show decode prog_12_method_5_code 47 = .ok (.getfield 139, 3) by decide +kernel) h ?_
    intro e2 h
    refine hg_imul (pc := 50) hC (show decode prog_12_method_5_code 50 = .ok (.imul, 1) by decide +kernel) ?_
    refine hg_icmp_ge (pc := 51) (tgt := 153) hC (show decode prog_12_method_5_code 51 = .ok (.if_icmp .ge 102, 3) by decide +kernel) (by decide +kernel) h ?_ ?_
    · intro h
      refine hg_iloadn (pc := 54) (j := 3) (i := 3) hC 2 rfl rfl (show decode prog_12_method_5_code 54 = .ok (.iload_n 3, 1) by decide +kernel) ?_
      refine hg_iconst (pc := 55) (v := (-1)) hC (show decode prog_12_method_5_code 55 = .ok (.iconst (-1), 1) by decide +kernel) (by decide +kernel) ?_
      refine hg_icmp_eq (pc := 56) (tgt := 85) hC (show decode prog_12_method_5_code 56 = .ok (.if_icmp .eq 29, 3) by decide +kernel) (by decide +kernel) h ?_ ?_
      · intro h
        refine hg_iloadn (pc := 85) (j := 2) (i := 2) hC 1 rfl rfl (show decode prog_12_method_5_code 85 = .ok (.iload_n 2, 1) by decide +kernel) ?_
        refine hg_if_ne (pc := 86) (tgt := 90) hC (show decode prog_12_method_5_code 86 = .ok (.ifCond .ne 4, 3) by decide +kernel) (by decide +kernel) h ?_ ?_
        · intro h
          have h : dc_wp (hm_RE_goThrough_L89 G S o) F := hr_40 (.inl S) (dc_some h)
          exact hg_sub [0] rfl (lab_89 S h)
        · intro h
          refine hg_iloadn (pc := 90) (j := 2) (i := 2) hC 1 rfl rfl (show decode prog_12_method_5_code 90 = .ok (.iload_n 2, 1) by decide +kernel) ?_
          refine hg_istore (pc := 91) (i := 5) (lv' := [(5, .int x2), (0, va_rf (some o)), (2, .int x2), (3, .int x3), (4, .int x4)]) hC (Nat.le_of_ble_eq_true rfl) rfl (show decode prog_12_method_5_code 91 = .ok (.istore 5, 2) by decide +kernel) ?_
          refine hg_aloadn (pc := 93) (j := 0) (i := 0) (r := (some o)) hC 1 rfl rfl (show decode prog_12_method_5_code 93 = .ok (.aload_n 0, 1) by decide +kernel) ?_
          refine hg_rgr (pc := 94) (r := (some o)) hC fl_SignalEngine_Reactor_9 (show decode prog_12_method_5_code 94 = .ok (.getfield 9, 3) by decide +kernel) h ?_
          intro e3 h
          refine hg_rgr (pc := 97) (r := e3) hC fl_SignalEngine_Reactor_149 (show decode prog_12_method_5_code 97 = .ok (.getfield 149, 3) by decide +kernel) h ?_
          intro e4 h
          refine hg_iloadn (pc := 100) (j := 2) (i := 2) hC 2 rfl rfl (show decode prog_12_method_5_code 100 = .ok (.iload_n 2, 1) by decide +kernel) ?_
          refine hg_riald (pc := 101) (r := e4) hC (show decode prog_12_method_5_code 101 = .ok (.iaload, 1) by decide +kernel) h ?_
          intro e5 h
          refine hg_istoren (pc := 102) (j := 2) (i := 2) (lv' := [(2, .int e5), (5, .int x2), (0, va_rf (some o)), (3, .int x3), (4, .int x4)]) hC rfl (Nat.le_of_ble_eq_true rfl) rfl (show decode prog_12_method_5_code 102 = .ok (.istore_n 2, 1) by decide +kernel) ?_
          refine hg_iload (pc := 103) (i := 5) hC 1 rfl (show decode prog_12_method_5_code 103 = .ok (.iload 5, 2) by decide +kernel) ?_
          refine hg_aloadn (pc := 105) (j := 0) (i := 0) (r := (some o)) hC 2 rfl rfl (show decode prog_12_method_5_code 105 = .ok (.aload_n 0, 1) by decide +kernel) ?_
          refine hg_rgi (pc := 106) (r := (some o)) hC fl_SignalEngine_Reactor_129 (show decode prog_12_method_5_code 106 = .ok (.getfield 129, 3) by decide +kernel) h ?_
          intro e6 h
          refine hg_icmp_ne (pc := 109) (tgt := 122) hC (show decode prog_12_method_5_code 109 = .ok (.if_icmp .ne 13, 3) by decide +kernel) (by decide +kernel) h ?_ ?_
          · intro h
            refine hg_aloadn (pc := 112) (j := 0) (i := 0) (r := (some o)) hC 2 rfl rfl (show decode prog_12_method_5_code 112 = .ok (.aload_n 0, 1) by decide +kernel) ?_
            refine hg_iloadn (pc := 113) (j := 2) (i := 2) hC 0 rfl rfl (show decode prog_12_method_5_code 113 = .ok (.iload_n 2, 1) by decide +kernel) ?_
            refine hg_iload (pc := 114) (i := 5) hC 1 rfl (show decode prog_12_method_5_code 114 = .ok (.iload 5, 2) by decide +kernel) ?_
            obtain ⟨b7, hb8, h⟩ := dc_bind h
            obtain ⟨hb8, hv9⟩ := hg_chk_of (C := R_RE) rfl hb8
            refine hg_kVi (pc := 116) (b := b7) (r := (some o)) (As := [.int e5, .int x2]) (rest := []) (vo := fun q => q.2) (so := fun q => q.1) hC cw_SignalEngine_Reactor_152 (fun q hq => hm_RE_comeBack_ok l D G S b7 e5 x2 q hq) (Nat.le_of_ble_eq_true rfl) (Nat.le_of_ble_eq_true rfl) hb8 hv9 rfl (Nat.le_of_ble_eq_true rfl) (show decode prog_12_method_5_code 116 = .ok (.invokevirtual 152, 3) by decide +kernel) h ?_
            intro q10 h
            refine hg_goto (pc := 119) (tgt := 146) hC (show decode prog_12_method_5_code 119 = .ok (.goto 27, 3) by decide +kernel) (by decide +kernel) ?_
            exact hg_sub [2, 0, 4] rfl (lab_146 q10.1 e5 x4 q10.2 h)
          · intro h
            refine hg_aloadn (pc := 122) (j := 0) (i := 0) (r := (some o)) hC 2 rfl rfl (show decode prog_12_method_5_code 122 = .ok (.aload_n 0, 1) by decide +kernel) ?_
            refine hg_rgi (pc := 123) (r := (some o)) hC fl_SignalEngine_Reactor_126 (show decode prog_12_method_5_code 123 = .ok (.getfield 126, 3) by decide +kernel) h ?_
            intro e11 h
            refine hg_if_eq (pc := 126) (tgt := 139) hC (show decode prog_12_method_5_code 126 = .ok (.ifCond .eq 13, 3) by decide +kernel) (by decide +kernel) h ?_ ?_
            · intro h
              refine hg_aloadn (pc := 139) (j := 0) (i := 0) (r := (some o)) hC 2 rfl rfl (show decode prog_12_method_5_code 139 = .ok (.aload_n 0, 1) by decide +kernel) ?_
              refine hg_iloadn (pc := 140) (j := 2) (i := 2) hC 0 rfl rfl (show decode prog_12_method_5_code 140 = .ok (.iload_n 2, 1) by decide +kernel) ?_
              refine hg_iload (pc := 141) (i := 5) hC 1 rfl (show decode prog_12_method_5_code 141 = .ok (.iload 5, 2) by decide +kernel) ?_
              obtain ⟨b12, hb13, h⟩ := dc_bind h
              obtain ⟨hb13, hv14⟩ := hg_chk_of (C := R_RE) rfl hb13
              refine hg_kVi (pc := 143) (b := b12) (r := (some o)) (As := [.int e5, .int x2]) (rest := []) (vo := fun q => q.2) (so := fun q => q.1) hC cw_SignalEngine_Reactor_159 (fun q hq => hm_RE_goOnResume_ok l D G S b12 e5 x2 q hq) (Nat.le_of_ble_eq_true rfl) (Nat.le_of_ble_eq_true rfl) hb13 hv14 rfl (Nat.le_of_ble_eq_true rfl) (show decode prog_12_method_5_code 143 = .ok (.invokevirtual 159, 3) by decide +kernel) h ?_
              intro q15 h
              exact hg_sub [2, 0, 4] rfl (lab_146 q15.1 e5 x4 q15.2 h)
            · intro h
              refine hg_aloadn (pc := 129) (j := 0) (i := 0) (r := (some o)) hC 2 rfl rfl (show decode prog_12_method_5_code 129 = .ok (.aload_n 0, 1) by decide +kernel) ?_
              refine hg_iloadn (pc := 130) (j := 2) (i := 2) hC 0 rfl rfl (show decode prog_12_method_5_code 130 = .ok (.iload_n 2, 1) by decide +kernel) ?_
              refine hg_iload (pc := 131) (i := 5) hC 1 rfl (show decode prog_12_method_5_code 131 = .ok (.iload 5, 2) by decide +kernel) ?_
              obtain ⟨b16, hb17, h⟩ := dc_bind h
              obtain ⟨hb17, hv18⟩ := hg_chk_of (C := R_RE) rfl hb17
              refine hg_kVi (pc := 133) (b := b16) (r := (some o)) (As := [.int e5, .int x2]) (rest := []) (vo := fun q => q.2) (so := fun q => q.1) hC cw_SignalEngine_Reactor_156 (fun q hq => hm_RE_goOnStart_ok l D G S b16 e5 x2 q hq) (Nat.le_of_ble_eq_true rfl) (Nat.le_of_ble_eq_true rfl) hb17 hv18 rfl (Nat.le_of_ble_eq_true rfl) (show decode prog_12_method_5_code 133 = .ok (.invokevirtual 156, 3) by decide +kernel) h ?_
              intro q19 h
              refine hg_goto (pc := 136) (tgt := 146) hC (show decode prog_12_method_5_code 136 = .ok (.goto 10, 3) by decide +kernel) (by decide +kernel) ?_
              exact hg_sub [2, 0, 4] rfl (lab_146 q19.1 e5 x4 q19.2 h)
      · intro h
        refine hg_iloadn (pc := 59) (j := 3) (i := 3) hC 2 rfl rfl (show decode prog_12_method_5_code 59 = .ok (.iload_n 3, 1) by decide +kernel) ?_
        refine hg_istoren (pc := 60) (j := 2) (i := 2) (lv' := [(2, .int x3), (0, va_rf (some o)), (3, .int x3), (4, .int x4)]) hC rfl (Nat.le_of_ble_eq_true rfl) rfl (show decode prog_12_method_5_code 60 = .ok (.istore_n 2, 1) by decide +kernel) ?_
        refine hg_aloadn (pc := 61) (j := 0) (i := 0) (r := (some o)) hC 1 rfl rfl (show decode prog_12_method_5_code 61 = .ok (.aload_n 0, 1) by decide +kernel) ?_
        refine hg_rgi (pc := 62) (r := (some o)) hC fl_SignalEngine_Reactor_126 (show decode prog_12_method_5_code 62 = .ok (.getfield 126, 3) by decide +kernel) h ?_
        intro e20 h
        refine hg_if_eq (pc := 65) (tgt := 76) hC (show decode prog_12_method_5_code 65 = .ok (.ifCond .eq 11, 3) by decide +kernel) (by decide +kernel) h ?_ ?_
        · intro h
          refine hg_aloadn (pc := 76) (j := 0) (i := 0) (r := (some o)) hC 1 rfl rfl (show decode prog_12_method_5_code 76 = .ok (.aload_n 0, 1) by decide +kernel) ?_
          refine hg_iloadn (pc := 77) (j := 2) (i := 2) hC 0 rfl rfl (show decode prog_12_method_5_code 77 = .ok (.iload_n 2, 1) by decide +kernel) ?_
          obtain ⟨b21, hb22, h⟩ := dc_bind h
          obtain ⟨hb22, hv23⟩ := hg_chk_of (C := R_RE) rfl hb22
          refine hg_kVi (pc := 78) (b := b21) (r := (some o)) (As := [.int x3]) (rest := []) (vo := fun q => q.2) (so := fun q => q.1) hC cw_SignalEngine_Reactor_146 (fun q hq => hm_RE_beginResume_ok l D G S b21 x3 q hq) (Nat.le_of_ble_eq_true rfl) (Nat.le_of_ble_eq_true rfl) hb22 hv23 rfl (Nat.le_of_ble_eq_true rfl) (show decode prog_12_method_5_code 78 = .ok (.invokevirtual 146, 3) by decide +kernel) h ?_
          intro q24 h
          exact hg_sub [1, 0, 3] rfl (lab_81 q24.1 x3 x4 q24.2 h)
        · intro h
          refine hg_aloadn (pc := 68) (j := 0) (i := 0) (r := (some o)) hC 1 rfl rfl (show decode prog_12_method_5_code 68 = .ok (.aload_n 0, 1) by decide +kernel) ?_
          refine hg_iloadn (pc := 69) (j := 2) (i := 2) hC 0 rfl rfl (show decode prog_12_method_5_code 69 = .ok (.iload_n 2, 1) by decide +kernel) ?_
          obtain ⟨b25, hb26, h⟩ := dc_bind h
          obtain ⟨hb26, hv27⟩ := hg_chk_of (C := R_RE) rfl hb26
          refine hg_kVi (pc := 70) (b := b25) (r := (some o)) (As := [.int x3]) (rest := []) (vo := fun q => q.2) (so := fun q => q.1) hC cw_SignalEngine_Reactor_142 (fun q hq => hm_RE_beginStart_ok l D G S b25 x3 q hq) (Nat.le_of_ble_eq_true rfl) (Nat.le_of_ble_eq_true rfl) hb26 hv27 rfl (Nat.le_of_ble_eq_true rfl) (show decode prog_12_method_5_code 70 = .ok (.invokevirtual 142, 3) by decide +kernel) h ?_
          intro q28 h
          refine hg_goto (pc := 73) (tgt := 81) hC (show decode prog_12_method_5_code 73 = .ok (.goto 8, 3) by decide +kernel) (by decide +kernel) ?_
          exact hg_sub [1, 0, 3] rfl (lab_81 q28.1 x3 x4 q28.2 h)
    · intro h
      have h : dc_wp (hm_RE_goThrough_L153 G S o) F := hr_40 (.inr S) (dc_some h)
      exact hg_sub [0] rfl (lab_153 S h)
  have lab_40 : ∀ (S : hg_S) (x2 : Int32) (x3 : Int32) (x4 : Int32), dc_wp (hm_RE_goThrough_L40 G S o x2 x3 x4) F → hg_G X l (hg_rm 4 88 Z) D 6 S 40 [(0, va_rf (some o)), (2, .int x2), (3, .int x3), (4, .int x4)] [] := fun S x2 x3 x4 h => loop_40  (S, x2, x3, x4) (dc_bind h)
  have lab_15 : ∀ (S : hg_S) (y0 : Int32), dc_wp (hm_RE_goThrough_L15 G S o y0) F → hg_G X l (hg_rm 4 88 Z) D 6 S 15 [(0, va_rf (some o))] [.int y0, va_rf (some o)] := by
    intro S y0 h
    delta hm_RE_goThrough_L15 at h
    obtain ⟨hz29, h⟩ := dc_zb_wp (dc_bind h)
    refine hg_rput (pc := 15) (r := (some o)) (v := .int y0) hC fp_SignalEngine_Reactor_126 (dc_nar hz29).2.1 (dc_nar hz29).2.2 (show decode prog_12_method_5_code 15 = .ok (.putfield 126, 3) by decide +kernel) h ?_
    intro S30 h
    refine hg_aloadn (pc := 18) (j := 0) (i := 0) (r := (some o)) hC 0 rfl rfl (show decode prog_12_method_5_code 18 = .ok (.aload_n 0, 1) by decide +kernel) ?_
    refine hg_iconst (pc := 19) (v := (-1)) hC (show decode prog_12_method_5_code 19 = .ok (.iconst (-1), 1) by decide +kernel) (by decide +kernel) ?_
    refine hg_rput (pc := 20) (r := (some o)) (v := .int (-1)) hC fp_SignalEngine_Reactor_129 rfl rfl (show decode prog_12_method_5_code 20 = .ok (.putfield 129, 3) by decide +kernel) h ?_
    intro S31 h
    refine hg_aloadn (pc := 23) (j := 0) (i := 0) (r := (some o)) hC 0 rfl rfl (show decode prog_12_method_5_code 23 = .ok (.aload_n 0, 1) by decide +kernel) ?_
    refine hg_iconst (pc := 24) (v := 0) hC (show decode prog_12_method_5_code 24 = .ok (.iconst 0, 1) by decide +kernel) (by decide +kernel) ?_
    refine hg_rput (pc := 25) (r := (some o)) (v := .int 0) hC fp_SignalEngine_Reactor_132 rfl rfl (show decode prog_12_method_5_code 25 = .ok (.putfield 132, 3) by decide +kernel) h ?_
    intro S32 h
    refine hg_iconst (pc := 28) (v := 0) hC (show decode prog_12_method_5_code 28 = .ok (.iconst 0, 1) by decide +kernel) (by decide +kernel) ?_
    refine hg_istoren (pc := 29) (j := 2) (i := 2) (lv' := [(2, .int 0), (0, va_rf (some o))]) hC rfl (Nat.le_of_ble_eq_true rfl) rfl (show decode prog_12_method_5_code 29 = .ok (.istore_n 2, 1) by decide +kernel) ?_
    refine hg_aloadn (pc := 30) (j := 0) (i := 0) (r := (some o)) hC 1 rfl rfl (show decode prog_12_method_5_code 30 = .ok (.aload_n 0, 1) by decide +kernel) ?_
    refine hg_iconst (pc := 31) (v := 0) hC (show decode prog_12_method_5_code 31 = .ok (.iconst 0, 1) by decide +kernel) (by decide +kernel) ?_
    refine hg_iconst (pc := 32) (v := 1) hC (show decode prog_12_method_5_code 32 = .ok (.iconst 1, 1) by decide +kernel) (by decide +kernel) ?_
    obtain ⟨b33, hb34, h⟩ := dc_bind h
    obtain ⟨hb34, hv35⟩ := hg_chk_of (C := R_RE) rfl hb34
    refine hg_kVi (pc := 33) (b := b33) (r := (some o)) (As := [.int 0, .int 1]) (rest := []) (vo := fun q => q.2) (so := fun q => q.1) hC cw_SignalEngine_Reactor_135 (fun q hq => hm_RE_within_ok l D G S32 b33 (0 : Int32) (1 : Int32) q hq) (Nat.le_of_ble_eq_true rfl) (Nat.le_of_ble_eq_true rfl) hb34 hv35 rfl (Nat.le_of_ble_eq_true rfl) (show decode prog_12_method_5_code 33 = .ok (.invokevirtual 135, 3) by decide +kernel) h ?_
    intro q36 h
    refine hg_istoren (pc := 36) (j := 3) (i := 3) (lv' := [(3, .int q36.2), (2, .int 0), (0, va_rf (some o))]) hC rfl (Nat.le_of_ble_eq_true rfl) rfl (show decode prog_12_method_5_code 36 = .ok (.istore_n 3, 1) by decide +kernel) ?_
    refine hg_iconst (pc := 37) (v := 0) hC (show decode prog_12_method_5_code 37 = .ok (.iconst 0, 1) by decide +kernel) (by decide +kernel) ?_
    refine hg_istore (pc := 38) (i := 4) (lv' := [(4, .int 0), (3, .int q36.2), (2, .int 0), (0, va_rf (some o))]) hC (Nat.le_of_ble_eq_true rfl) rfl (show decode prog_12_method_5_code 38 = .ok (.istore 4, 2) by decide +kernel) ?_
    exact hg_sub [3, 2, 1, 0] rfl (lab_40 q36.1 0 q36.2 0 h)
  show hg_G X l (hg_rm 4 88 Z) D 6 Z 0 [(0, va_rf (some o)), (1, .int p1)] []
  have h : dc_wp (hm_RE_goThrough G Z o p1) F := h
  delta hm_RE_goThrough at h
  refine hg_aloadn (pc := 0) (j := 0) (i := 0) (r := (some o)) hC 0 rfl rfl (show decode prog_12_method_5_code 0 = .ok (.aload_n 0, 1) by decide +kernel) ?_
  refine hg_iconst (pc := 1) (v := 0) hC (show decode prog_12_method_5_code 1 = .ok (.iconst 0, 1) by decide +kernel) (by decide +kernel) ?_
  obtain ⟨b37, hb38, h⟩ := dc_bind h
  obtain ⟨hb38, hv39⟩ := hg_chk_of (C := R_RE) rfl hb38
  refine hg_kVv (pc := 2) (b := b37) (r := (some o)) (As := [.int 0]) (rest := []) (so := fun q => q) hC cw_SignalEngine_Reactor_122 (fun q hq => hm_RE_clear_ok l D G Z b37 (0 : Int32) q hq) (Nat.le_of_ble_eq_true rfl) (Nat.le_of_ble_eq_true rfl) hb38 hv39 rfl (Nat.le_of_ble_eq_true rfl) (show decode prog_12_method_5_code 2 = .ok (.invokevirtual 122, 3) by decide +kernel) h ?_
  intro q40 h
  refine hg_aloadn (pc := 5) (j := 0) (i := 0) (r := (some o)) hC 0 rfl rfl (show decode prog_12_method_5_code 5 = .ok (.aload_n 0, 1) by decide +kernel) ?_
  refine hg_iloadn (pc := 6) (j := 1) (i := 1) hC 1 rfl rfl (show decode prog_12_method_5_code 6 = .ok (.iload_n 1, 1) by decide +kernel) ?_
  refine hg_if_ne (pc := 7) (tgt := 14) hC (show decode prog_12_method_5_code 7 = .ok (.ifCond .ne 7, 3) by decide +kernel) (by decide +kernel) h ?_ ?_
  · intro h
    refine hg_iconst (pc := 10) (v := 1) hC (show decode prog_12_method_5_code 10 = .ok (.iconst 1, 1) by decide +kernel) (by decide +kernel) ?_
    refine hg_goto (pc := 11) (tgt := 15) hC (show decode prog_12_method_5_code 11 = .ok (.goto 4, 3) by decide +kernel) (by decide +kernel) ?_
    exact hg_sub [0] rfl (lab_15 q40 1 h)
  · intro h
    refine hg_iconst (pc := 14) (v := 0) hC (show decode prog_12_method_5_code 14 = .ok (.iconst 0, 1) by decide +kernel) (by decide +kernel) ?_
    exact hg_sub [0] rfl (lab_15 q40 0 h)
noncomputable def hm_RE_closeOutputs_L38 (G : hg_E) (S : hg_S) (o : Nat) : Option (hg_S) :=
  some S
noncomputable def hm_RE_closeOutputs_b8 (G : hg_E) (S : hg_S) (o : Nat) (x1 : Int32) : Option ((hg_S × Int32) ⊕ ((hg_S))) :=
  (hg_gr S (some o) 10 0).bind fun e1 => (hg_gi S e1 9 1).bind fun e2 => (hg_gr S (some o) 10 0).bind fun e3 => (hg_gi S e3 9 2).bind fun e4 => if x1 < (e2 + e4) then ((hg_chk S (some o) 10).bind fun b5 => (hm_RE_settleAbsent G S b5 x1).bind fun q8 => some (.inl (q8, (x1 + 1)))) else (some (.inr S))
noncomputable def hm_RE_closeOutputs_s8 (G : hg_E) (o : Nat) (q : hg_S × Int32) : Option ((hg_S × Int32) ⊕ ((hg_S))) :=
  hm_RE_closeOutputs_b8 G q.1 o q.2
noncomputable def hm_RE_closeOutputs_L8 (G : hg_E) (S : hg_S) (o : Nat) (x1 : Int32) : Option (hg_S) :=
  (dc_it (hm_RE_closeOutputs_s8 G o) (S, x1)).bind (fun (z : hg_S) => hm_RE_closeOutputs_L38 G z o)
noncomputable def hm_RE_closeOutputs (G : hg_E) (S : hg_S) (o : Nat) : Option (hg_S) :=
  (hg_gr S (some o) 10 0).bind fun e9 => (hg_gi S e9 9 1).bind fun e10 => hm_RE_closeOutputs_L8 G S o e10
set_option maxHeartbeats 4000000 in
set_option maxRecDepth 100000 in
/-- SignalEngine$Reactor.closeOutputs()V -/
theorem hm_RE_closeOutputs_ok (l : Launch) (D : va_G) (G : hg_E) (Z : hg_S) (o : Nat) (q : hg_S) (hq : hm_RE_closeOutputs G Z o = some q) : hg_C l ⟨"SignalEngine$Reactor", "closeOutputs", "()V"⟩ prog_12_method_6_code 2 none 1 21 D G [.ref o] Z (.inl (none, q) : hg_O) := by
  refine hg_start (cv := fun q => (.inl (none, q) : hg_O)) hq ?_
  intro F hF h
  refine hg_enter (lv := [(0, va_rf (some o))]) (by decide +kernel) (by simp [lg_sl, va_rf_cat, hg_cti, hg_ctr]) (by simp [lv_args, va_rf_cat, va_rf_some, hg_cti, hg_ctr]) ?_
  intro X hC hR
  have lab_38 : ∀ (S : hg_S), dc_wp (hm_RE_closeOutputs_L38 G S o) F → hg_G X l (hg_rm 1 21 Z) D 2 S 38 [(0, va_rf (some o))] [] := by
    intro S  h
    delta hm_RE_closeOutputs_L38 at h
    exact hg_vret (pc := 38) hC hR (hF _ (dc_some h)) (show decode prog_12_method_6_code 38 = .ok (.return_, 1) by decide +kernel)
  have loop_8 : ∀ (q : hg_S × Int32), dc_wp (dc_it (hm_RE_closeOutputs_s8 G o) q) (fun z => dc_wp ((fun (z : hg_S) => hm_RE_closeOutputs_L38 G z o) z) F) → hg_G X l (hg_rm 1 21 Z) D 2 q.1 8 [(0, va_rf (some o)), (1, .int q.2)] [] := by
    refine dc_loopF ?_
    intro F_8 hl_8 hr_8
    rintro ⟨S, x1⟩ h
    have h : dc_wp (hm_RE_closeOutputs_b8 G S o x1) F_8 := h
    delta hm_RE_closeOutputs_b8 at h
    refine hg_iloadn (pc := 8) (j := 1) (i := 1) hC 1 rfl rfl (show decode prog_12_method_6_code 8 = .ok (.iload_n 1, 1) by decide +kernel) ?_
    refine hg_aloadn (pc := 9) (j := 0) (i := 0) (r := (some o)) hC 0 rfl rfl (show decode prog_12_method_6_code 9 = .ok (.aload_n 0, 1) by decide +kernel) ?_
    refine hg_rgr (pc := 10) (r := (some o)) hC fl_SignalEngine_Reactor_9 (show decode prog_12_method_6_code 10 = .ok (.getfield 9, 3) by decide +kernel) h ?_
    intro e1 h
    refine hg_rgi (pc := 13) (r := e1) hC fl_SignalEngine_Reactor_79 (show decode prog_12_method_6_code 13 = .ok (.getfield 79, 3) by decide +kernel) h ?_
    intro e2 h
    refine hg_aloadn (pc := 16) (j := 0) (i := 0) (r := (some o)) hC 0 rfl rfl (show decode prog_12_method_6_code 16 = .ok (.aload_n 0, 1) by decide +kernel) ?_
    refine hg_rgr (pc := 17) (r := (some o)) hC fl_SignalEngine_Reactor_9 (show decode prog_12_method_6_code 17 = .ok (.getfield 9, 3) by decide +kernel) h ?_
    intro e3 h
    refine hg_rgi (pc := 20) (r := e3) hC fl_SignalEngine_Reactor_82 (show decode prog_12_method_6_code 20 = .ok (.getfield 82, 3) by decide +kernel) h ?_
    intro e4 h
    refine hg_iadd (pc := 23) hC (show decode prog_12_method_6_code 23 = .ok (.iadd, 1) by decide +kernel) ?_
    refine hg_icmp_ge (pc := 24) (tgt := 38) hC (show decode prog_12_method_6_code 24 = .ok (.if_icmp .ge 14, 3) by decide +kernel) (by decide +kernel) h ?_ ?_
    · intro h
      refine hg_aloadn (pc := 27) (j := 0) (i := 0) (r := (some o)) hC 0 rfl rfl (show decode prog_12_method_6_code 27 = .ok (.aload_n 0, 1) by decide +kernel) ?_
      refine hg_iloadn (pc := 28) (j := 1) (i := 1) hC 1 rfl rfl (show decode prog_12_method_6_code 28 = .ok (.iload_n 1, 1) by decide +kernel) ?_
      obtain ⟨b5, hb6, h⟩ := dc_bind h
      obtain ⟨hb6, hv7⟩ := hg_chk_of (C := R_RE) rfl hb6
      refine hg_kVv (pc := 29) (b := b5) (r := (some o)) (As := [.int x1]) (rest := []) (so := fun q => q) hC cw_SignalEngine_Reactor_162 (fun q hq => hm_RE_settleAbsent_ok l D G S b5 x1 q hq) (Nat.le_of_ble_eq_true rfl) (Nat.le_of_ble_eq_true rfl) hb6 hv7 rfl (Nat.le_of_ble_eq_true rfl) (show decode prog_12_method_6_code 29 = .ok (.invokevirtual 162, 3) by decide +kernel) h ?_
      intro q8 h
      refine hg_iinc (pc := 32) (i := 1) (v := (x1 + 1)) (lv' := [(1, .int (x1 + 1)), (0, va_rf (some o))]) hC 1 rfl rfl (Nat.le_of_ble_eq_true rfl) rfl (show decode prog_12_method_6_code 32 = .ok (.iinc 1 1, 3) by decide +kernel) ?_
      refine hg_goto (pc := 35) (tgt := 8) hC (show decode prog_12_method_6_code 35 = .ok (.goto (-27), 3) by decide +kernel) (by decide +kernel) ?_
      exact hg_sub [1, 0] rfl (hl_8 (q8, (x1 + 1)) (dc_some h))
    · intro h
      have h : dc_wp (hm_RE_closeOutputs_L38 G S o) F := hr_8 S (dc_some h)
      exact hg_sub [0] rfl (lab_38 S h)
  have lab_8 : ∀ (S : hg_S) (x1 : Int32), dc_wp (hm_RE_closeOutputs_L8 G S o x1) F → hg_G X l (hg_rm 1 21 Z) D 2 S 8 [(0, va_rf (some o)), (1, .int x1)] [] := fun S x1 h => loop_8  (S, x1) (dc_bind h)
  show hg_G X l (hg_rm 1 21 Z) D 2 Z 0 [(0, va_rf (some o))] []
  have h : dc_wp (hm_RE_closeOutputs G Z o) F := h
  delta hm_RE_closeOutputs at h
  refine hg_aloadn (pc := 0) (j := 0) (i := 0) (r := (some o)) hC 0 rfl rfl (show decode prog_12_method_6_code 0 = .ok (.aload_n 0, 1) by decide +kernel) ?_
  refine hg_rgr (pc := 1) (r := (some o)) hC fl_SignalEngine_Reactor_9 (show decode prog_12_method_6_code 1 = .ok (.getfield 9, 3) by decide +kernel) h ?_
  intro e9 h
  refine hg_rgi (pc := 4) (r := e9) hC fl_SignalEngine_Reactor_79 (show decode prog_12_method_6_code 4 = .ok (.getfield 79, 3) by decide +kernel) h ?_
  intro e10 h
  refine hg_istoren (pc := 7) (j := 1) (i := 1) (lv' := [(1, .int e10), (0, va_rf (some o))]) hC rfl (Nat.le_of_ble_eq_true rfl) rfl (show decode prog_12_method_6_code 7 = .ok (.istore_n 1, 1) by decide +kernel) ?_
  exact hg_sub [1, 0] rfl (lab_8 Z e10 h)
noncomputable def hm_RE_outputsAreKnown_L45 (G : hg_E) (S : hg_S) (o : Nat) : Option (Int32) :=
  some 1
noncomputable def hm_RE_outputsAreKnown_L37 (G : hg_E) (S : hg_S) (o : Nat) : Option (Int32) :=
  some 0
noncomputable def hm_RE_outputsAreKnown_b8 (G : hg_E) (S : hg_S) (o : Nat) (x1 : Int32) : Option ((Int32) ⊕ ((Unit) ⊕ (Unit))) :=
  (hg_gr S (some o) 10 0).bind fun e1 => (hg_gi S e1 9 1).bind fun e2 => (hg_gr S (some o) 10 0).bind fun e3 => (hg_gi S e3 9 2).bind fun e4 => if x1 < (e2 + e4) then ((hg_gr S (some o) 10 1).bind fun e5 => (hg_ld S e5 (G.1 0) x1).bind fun e6 => if e6 = 2 then (some (.inr (.inl ()))) else (some (.inl (x1 + 1)))) else (some (.inr (.inr ())))
noncomputable def hm_RE_outputsAreKnown_s8 (G : hg_E) (S : hg_S) (o : Nat) (q : Int32) : Option ((Int32) ⊕ ((Unit) ⊕ (Unit))) :=
  hm_RE_outputsAreKnown_b8 G S o q
noncomputable def hm_RE_outputsAreKnown_L8 (G : hg_E) (S : hg_S) (o : Nat) (x1 : Int32) : Option (Int32) :=
  (dc_it (hm_RE_outputsAreKnown_s8 G S o) x1).bind (Sum.elim (fun (z : Unit) => hm_RE_outputsAreKnown_L37 G S o) (fun (z : Unit) => hm_RE_outputsAreKnown_L45 G S o))
noncomputable def hm_RE_outputsAreKnown (G : hg_E) (S : hg_S) (o : Nat) : Option (Int32) :=
  (hg_gr S (some o) 10 0).bind fun e7 => (hg_gi S e7 9 1).bind fun e8 => hm_RE_outputsAreKnown_L8 G S o e8
set_option maxHeartbeats 4000000 in
set_option maxRecDepth 100000 in
/-- SignalEngine$Reactor.outputsAreKnown()Z -/
theorem hm_RE_outputsAreKnown_ok (l : Launch) (D : va_G) (G : hg_E) (Z : hg_S) (o : Nat) (q : Int32) (hq : hm_RE_outputsAreKnown G Z o = some q) : hg_C l ⟨"SignalEngine$Reactor", "outputsAreKnown", "()Z"⟩ prog_12_method_7_code 2 (some (.boolean)) 0 0 D G [.ref o] Z (.inl (some (.int q), Z) : hg_O) := by
  refine hg_start (cv := fun q => (.inl (some (.int q), Z) : hg_O)) hq ?_
  intro F hF h
  refine hg_enter (lv := [(0, va_rf (some o))]) (by decide +kernel) (by simp [lg_sl, va_rf_cat, hg_cti, hg_ctr]) (by simp [lv_args, va_rf_cat, va_rf_some, hg_cti, hg_ctr]) ?_
  intro X hC hR
  have lab_45 : dc_wp (hm_RE_outputsAreKnown_L45 G Z o) F → hg_G X l (hg_rm 0 0 Z) D 2 Z 45 [(0, va_rf (some o))] [] := by
    intro  h
    delta hm_RE_outputsAreKnown_L45 at h
    refine hg_iconst (pc := 45) (v := 1) hC (show decode prog_12_method_7_code 45 = .ok (.iconst 1, 1) by decide +kernel) (by decide +kernel) ?_
    exact hg_zret (pc := 46) hC hR (Or.inr rfl) (hF _ (dc_some h)) (show decode prog_12_method_7_code 46 = .ok (.ireturn, 1) by decide +kernel)
  have lab_37 : dc_wp (hm_RE_outputsAreKnown_L37 G Z o) F → hg_G X l (hg_rm 0 0 Z) D 2 Z 37 [(0, va_rf (some o))] [] := by
    intro  h
    delta hm_RE_outputsAreKnown_L37 at h
    refine hg_iconst (pc := 37) (v := 0) hC (show decode prog_12_method_7_code 37 = .ok (.iconst 0, 1) by decide +kernel) (by decide +kernel) ?_
    exact hg_zret (pc := 38) hC hR (Or.inl rfl) (hF _ (dc_some h)) (show decode prog_12_method_7_code 38 = .ok (.ireturn, 1) by decide +kernel)
  have loop_8 : ∀ (q : Int32), dc_wp (dc_it (hm_RE_outputsAreKnown_s8 G Z o) q) (fun z => dc_wp ((Sum.elim (fun (z : Unit) => hm_RE_outputsAreKnown_L37 G Z o) (fun (z : Unit) => hm_RE_outputsAreKnown_L45 G Z o)) z) F) → hg_G X l (hg_rm 0 0 Z) D 2 Z 8 [(0, va_rf (some o)), (1, .int q)] [] := by
    refine dc_loopF ?_
    intro F_8 hl_8 hr_8
    rintro x1 h
    have h : dc_wp (hm_RE_outputsAreKnown_b8 G Z o x1) F_8 := h
    delta hm_RE_outputsAreKnown_b8 at h
    refine hg_iloadn (pc := 8) (j := 1) (i := 1) hC 1 rfl rfl (show decode prog_12_method_7_code 8 = .ok (.iload_n 1, 1) by decide +kernel) ?_
    refine hg_aloadn (pc := 9) (j := 0) (i := 0) (r := (some o)) hC 0 rfl rfl (show decode prog_12_method_7_code 9 = .ok (.aload_n 0, 1) by decide +kernel) ?_
    refine hg_rgr (pc := 10) (r := (some o)) hC fl_SignalEngine_Reactor_9 (show decode prog_12_method_7_code 10 = .ok (.getfield 9, 3) by decide +kernel) h ?_
    intro e1 h
    refine hg_rgi (pc := 13) (r := e1) hC fl_SignalEngine_Reactor_79 (show decode prog_12_method_7_code 13 = .ok (.getfield 79, 3) by decide +kernel) h ?_
    intro e2 h
    refine hg_aloadn (pc := 16) (j := 0) (i := 0) (r := (some o)) hC 0 rfl rfl (show decode prog_12_method_7_code 16 = .ok (.aload_n 0, 1) by decide +kernel) ?_
    refine hg_rgr (pc := 17) (r := (some o)) hC fl_SignalEngine_Reactor_9 (show decode prog_12_method_7_code 17 = .ok (.getfield 9, 3) by decide +kernel) h ?_
    intro e3 h
    refine hg_rgi (pc := 20) (r := e3) hC fl_SignalEngine_Reactor_82 (show decode prog_12_method_7_code 20 = .ok (.getfield 82, 3) by decide +kernel) h ?_
    intro e4 h
    refine hg_iadd (pc := 23) hC (show decode prog_12_method_7_code 23 = .ok (.iadd, 1) by decide +kernel) ?_
    refine hg_icmp_ge (pc := 24) (tgt := 45) hC (show decode prog_12_method_7_code 24 = .ok (.if_icmp .ge 21, 3) by decide +kernel) (by decide +kernel) h ?_ ?_
    · intro h
      refine hg_aloadn (pc := 27) (j := 0) (i := 0) (r := (some o)) hC 0 rfl rfl (show decode prog_12_method_7_code 27 = .ok (.aload_n 0, 1) by decide +kernel) ?_
      refine hg_rgr (pc := 28) (r := (some o)) hC fl_SignalEngine_Reactor_41 (show decode prog_12_method_7_code 28 = .ok (.getfield 41, 3) by decide +kernel) h ?_
      intro e5 h
      refine hg_iloadn (pc := 31) (j := 1) (i := 1) hC 1 rfl rfl (show decode prog_12_method_7_code 31 = .ok (.iload_n 1, 1) by decide +kernel) ?_
      refine hg_riald (pc := 32) (r := e5) hC (show decode prog_12_method_7_code 32 = .ok (.iaload, 1) by decide +kernel) h ?_
      intro e6 h
      refine hg_iconst (pc := 33) (v := 2) hC (show decode prog_12_method_7_code 33 = .ok (.iconst 2, 1) by decide +kernel) (by decide +kernel) ?_
      refine hg_icmp_ne (pc := 34) (tgt := 39) hC (show decode prog_12_method_7_code 34 = .ok (.if_icmp .ne 5, 3) by decide +kernel) (by decide +kernel) h ?_ ?_
      · intro h
        have h : dc_wp (hm_RE_outputsAreKnown_L37 G Z o) F := hr_8 (.inl ()) (dc_some h)
        exact hg_sub [0] rfl (lab_37 h)
      · intro h
        refine hg_iinc (pc := 39) (i := 1) (v := (x1 + 1)) (lv' := [(1, .int (x1 + 1)), (0, va_rf (some o))]) hC 1 rfl rfl (Nat.le_of_ble_eq_true rfl) rfl (show decode prog_12_method_7_code 39 = .ok (.iinc 1 1, 3) by decide +kernel) ?_
        refine hg_goto (pc := 42) (tgt := 8) hC (show decode prog_12_method_7_code 42 = .ok (.goto (-34), 3) by decide +kernel) (by decide +kernel) ?_
        exact hg_sub [1, 0] rfl (hl_8 (x1 + 1) (dc_some h))
    · intro h
      have h : dc_wp (hm_RE_outputsAreKnown_L45 G Z o) F := hr_8 (.inr ()) (dc_some h)
      exact hg_sub [0] rfl (lab_45 h)
  have lab_8 : ∀ (x1 : Int32), dc_wp (hm_RE_outputsAreKnown_L8 G Z o x1) F → hg_G X l (hg_rm 0 0 Z) D 2 Z 8 [(0, va_rf (some o)), (1, .int x1)] [] := fun x1 h => loop_8  x1 (dc_bind h)
  show hg_G X l (hg_rm 0 0 Z) D 2 Z 0 [(0, va_rf (some o))] []
  have h : dc_wp (hm_RE_outputsAreKnown G Z o) F := h
  delta hm_RE_outputsAreKnown at h
  refine hg_aloadn (pc := 0) (j := 0) (i := 0) (r := (some o)) hC 0 rfl rfl (show decode prog_12_method_7_code 0 = .ok (.aload_n 0, 1) by decide +kernel) ?_
  refine hg_rgr (pc := 1) (r := (some o)) hC fl_SignalEngine_Reactor_9 (show decode prog_12_method_7_code 1 = .ok (.getfield 9, 3) by decide +kernel) h ?_
  intro e7 h
  refine hg_rgi (pc := 4) (r := e7) hC fl_SignalEngine_Reactor_79 (show decode prog_12_method_7_code 4 = .ok (.getfield 79, 3) by decide +kernel) h ?_
  intro e8 h
  refine hg_istoren (pc := 7) (j := 1) (i := 1) (lv' := [(1, .int e8), (0, va_rf (some o))]) hC rfl (Nat.le_of_ble_eq_true rfl) rfl (show decode prog_12_method_7_code 7 = .ok (.istore_n 1, 1) by decide +kernel) ?_
  exact hg_sub [1, 0] rfl (lab_8 e8 h)
noncomputable def hm_RE_react_L109 (G : hg_E) (S : hg_S) (o : Nat) (y0 : Int32) : Option (hg_S × Int32) :=
  some (S, y0)
noncomputable def hm_RE_react_L93 (G : hg_E) (S : hg_S) (o : Nat) : Option (hg_S × Int32) :=
  some (S, 2)
noncomputable def hm_RE_react_L69 (G : hg_E) (S : hg_S) (o : Nat) : Option (hg_S × Int32) :=
  (hg_gi S (some o) 10 14).bind fun e1 => if e1 = 0 then ((hg_gr S (some o) 10 8).bind fun e2 => (hg_ld S e2 (G.1 0) 0).bind fun e3 => if e3 = (-1) then (hm_RE_react_L93 G S o) else ((hg_chk S (some o) 10).bind fun b4 => (hm_RE_outputsAreKnown G S b4).bind fun q7 => if q7 = 0 then (hm_RE_react_L93 G S o) else ((hg_gr S (some o) 10 8).bind fun e8 => (hg_ld S e8 (G.1 0) 0).bind fun e9 => if e9 = 0 then (hm_RE_react_L109 G S o 1) else (hm_RE_react_L109 G S o 0)))) else (hm_RE_react_L93 G S o)
noncomputable def hm_RE_react_b16 (G : hg_E) (S : hg_S) (o : Nat) (x2 : Int32) : Option ((hg_S) ⊕ ((hg_S))) :=
  (hg_gi S (some o) 10 13).bind fun e10 => if e10 = 0 then (some (.inr S)) else ((hg_gi S (some o) 10 12).bind fun e11 => (hg_gr S (some o) 10 1).bind fun e12 => (hg_ln S e12 (G.1 0)).bind fun e13 => if (e13 + 2) < e11 then (some (.inr S)) else ((hg_pf S (some o) 10 13 (.int 0)).bind fun S14 => (hg_pf S14 (some o) 10 14 (.int 0)).bind fun S15 => (hg_chk S15 (some o) 10).bind fun b16 => (hm_RE_goThrough G S15 b16 x2).bind fun q19 => (hg_chk q19 (some o) 10).bind fun b20 => (hm_RE_closeOutputs G q19 b20).bind fun q23 => (hg_gi q23 (some o) 10 12).bind fun e24 => (hg_pf q23 (some o) 10 12 (.int (e24 + 1))).bind fun S25 => some (.inl S25)))
noncomputable def hm_RE_react_s16 (G : hg_E) (o : Nat) (x2 : Int32) (q : hg_S) : Option ((hg_S) ⊕ ((hg_S))) :=
  hm_RE_react_b16 G q o x2
noncomputable def hm_RE_react_L16 (G : hg_E) (S : hg_S) (o : Nat) (x2 : Int32) : Option (hg_S × Int32) :=
  (dc_it (hm_RE_react_s16 G o x2) S).bind (fun (z : hg_S) => hm_RE_react_L69 G z o)
noncomputable def hm_RE_react (G : hg_E) (S : hg_S) (o : Nat) (p1 : Int32) (p2 : Int32) (p3 : Option Nat) : Option (hg_S × Int32) :=
  (hg_chk S (some o) 10).bind fun b26 => (hm_RE_prepare G S b26 p1 p3).bind fun q29 => (hg_pf q29 (some o) 10 13 (.int 1)).bind fun S30 => (hg_pf S30 (some o) 10 12 (.int 1)).bind fun S31 => hm_RE_react_L16 G S31 o p2
set_option maxHeartbeats 4000000 in
set_option maxRecDepth 100000 in
/-- SignalEngine$Reactor.react(IZ[Z)I -/
theorem hm_RE_react_ok (l : Launch) (D : va_G) (G : hg_E) (Z : hg_S) (o : Nat) (p1 : Int32) (p2 : Int32) (p3 : Option Nat) (q : hg_S × Int32) (hq : hm_RE_react G Z o p1 p2 p3 = some q) : hg_C l ⟨"SignalEngine$Reactor", "react", "(IZ[Z)I"⟩ prog_12_method_3_code 4 (some (.int)) 5 113 D G [.ref o, .int p1, .int p2, va_rf p3] Z (.inl (some (.int q.2), q.1) : hg_O) := by
  refine hg_start (cv := fun q => (.inl (some (.int q.2), q.1) : hg_O)) hq ?_
  intro F hF h
  refine hg_enter (lv := [(0, va_rf (some o)), (1, .int p1), (2, .int p2), (3, va_rf p3)]) (by decide +kernel) (by simp [lg_sl, va_rf_cat, hg_cti, hg_ctr]) (by simp [lv_args, va_rf_cat, va_rf_some, hg_cti, hg_ctr]) ?_
  intro X hC hR
  have lab_109 : ∀ (S : hg_S) (y0 : Int32), dc_wp (hm_RE_react_L109 G S o y0) F → hg_G X l (hg_rm 5 113 Z) D 4 S 109 [(0, va_rf (some o))] [.int y0] := by
    intro S y0 h
    delta hm_RE_react_L109 at h
    exact hg_iret (pc := 109) hC hR (hF _ (dc_some h)) (show decode prog_12_method_3_code 109 = .ok (.ireturn, 1) by decide +kernel)
  have lab_93 : ∀ (S : hg_S), dc_wp (hm_RE_react_L93 G S o) F → hg_G X l (hg_rm 5 113 Z) D 4 S 93 [(0, va_rf (some o))] [] := by
    intro S  h
    delta hm_RE_react_L93 at h
    refine hg_iconst (pc := 93) (v := 2) hC (show decode prog_12_method_3_code 93 = .ok (.iconst 2, 1) by decide +kernel) (by decide +kernel) ?_
    exact hg_iret (pc := 94) hC hR (hF _ (dc_some h)) (show decode prog_12_method_3_code 94 = .ok (.ireturn, 1) by decide +kernel)
  have lab_69 : ∀ (S : hg_S), dc_wp (hm_RE_react_L69 G S o) F → hg_G X l (hg_rm 5 113 Z) D 4 S 69 [(0, va_rf (some o))] [] := by
    intro S  h
    delta hm_RE_react_L69 at h
    refine hg_aloadn (pc := 69) (j := 0) (i := 0) (r := (some o)) hC 0 rfl rfl (show decode prog_12_method_3_code 69 = .ok (.aload_n 0, 1) by decide +kernel) ?_
    refine hg_rgi (pc := 70) (r := (some o)) hC fl_SignalEngine_Reactor_102 (show decode prog_12_method_3_code 70 = .ok (.getfield 102, 3) by decide +kernel) h ?_
    intro e1 h
    refine hg_if_ne (pc := 73) (tgt := 93) hC (show decode prog_12_method_3_code 73 = .ok (.ifCond .ne 20, 3) by decide +kernel) (by decide +kernel) h ?_ ?_
    · intro h
      refine hg_aloadn (pc := 76) (j := 0) (i := 0) (r := (some o)) hC 0 rfl rfl (show decode prog_12_method_3_code 76 = .ok (.aload_n 0, 1) by decide +kernel) ?_
      refine hg_rgr (pc := 77) (r := (some o)) hC fl_SignalEngine_Reactor_63 (show decode prog_12_method_3_code 77 = .ok (.getfield 63, 3) by decide +kernel) h ?_
      intro e2 h
      refine hg_iconst (pc := 80) (v := 0) hC (show decode prog_12_method_3_code 80 = .ok (.iconst 0, 1) by decide +kernel) (by decide +kernel) ?_
      refine hg_riald (pc := 81) (r := e2) hC (show decode prog_12_method_3_code 81 = .ok (.iaload, 1) by decide +kernel) h ?_
      intro e3 h
      refine hg_iconst (pc := 82) (v := (-1)) hC (show decode prog_12_method_3_code 82 = .ok (.iconst (-1), 1) by decide +kernel) (by decide +kernel) ?_
      refine hg_icmp_eq (pc := 83) (tgt := 93) hC (show decode prog_12_method_3_code 83 = .ok (.if_icmp .eq 10, 3) by decide +kernel) (by decide +kernel) h ?_ ?_
      · intro h
        exact lab_93 S h
      · intro h
        refine hg_aloadn (pc := 86) (j := 0) (i := 0) (r := (some o)) hC 0 rfl rfl (show decode prog_12_method_3_code 86 = .ok (.aload_n 0, 1) by decide +kernel) ?_
        obtain ⟨b4, hb5, h⟩ := dc_bind h
        obtain ⟨hb5, hv6⟩ := hg_chk_of (C := R_RE) rfl hb5
        refine hg_kVi (pc := 87) (b := b4) (r := (some o)) (As := []) (rest := []) (vo := fun q => q) (so := fun q => S) hC cw_SignalEngine_Reactor_112 (fun q hq => hm_RE_outputsAreKnown_ok l D G S b4 q hq) (Nat.le_of_ble_eq_true rfl) (Nat.le_of_ble_eq_true rfl) hb5 hv6 rfl (Nat.le_of_ble_eq_true rfl) (show decode prog_12_method_3_code 87 = .ok (.invokevirtual 112, 3) by decide +kernel) h ?_
        intro q7 h
        refine hg_if_ne (pc := 90) (tgt := 95) hC (show decode prog_12_method_3_code 90 = .ok (.ifCond .ne 5, 3) by decide +kernel) (by decide +kernel) h ?_ ?_
        · intro h
          exact lab_93 S h
        · intro h
          refine hg_aloadn (pc := 95) (j := 0) (i := 0) (r := (some o)) hC 0 rfl rfl (show decode prog_12_method_3_code 95 = .ok (.aload_n 0, 1) by decide +kernel) ?_
          refine hg_rgr (pc := 96) (r := (some o)) hC fl_SignalEngine_Reactor_63 (show decode prog_12_method_3_code 96 = .ok (.getfield 63, 3) by decide +kernel) h ?_
          intro e8 h
          refine hg_iconst (pc := 99) (v := 0) hC (show decode prog_12_method_3_code 99 = .ok (.iconst 0, 1) by decide +kernel) (by decide +kernel) ?_
          refine hg_riald (pc := 100) (r := e8) hC (show decode prog_12_method_3_code 100 = .ok (.iaload, 1) by decide +kernel) h ?_
          intro e9 h
          refine hg_if_ne (pc := 101) (tgt := 108) hC (show decode prog_12_method_3_code 101 = .ok (.ifCond .ne 7, 3) by decide +kernel) (by decide +kernel) h ?_ ?_
          · intro h
            refine hg_iconst (pc := 104) (v := 1) hC (show decode prog_12_method_3_code 104 = .ok (.iconst 1, 1) by decide +kernel) (by decide +kernel) ?_
            refine hg_goto (pc := 105) (tgt := 109) hC (show decode prog_12_method_3_code 105 = .ok (.goto 4, 3) by decide +kernel) (by decide +kernel) ?_
            exact lab_109 S 1 h
          · intro h
            refine hg_iconst (pc := 108) (v := 0) hC (show decode prog_12_method_3_code 108 = .ok (.iconst 0, 1) by decide +kernel) (by decide +kernel) ?_
            exact lab_109 S 0 h
    · intro h
      exact lab_93 S h
  have loop_16 : ∀ (x2 : Int32) (q : hg_S), dc_wp (dc_it (hm_RE_react_s16 G o x2) q) (fun z => dc_wp ((fun (z : hg_S) => hm_RE_react_L69 G z o) z) F) → hg_G X l (hg_rm 5 113 Z) D 4 q 16 [(0, va_rf (some o)), (2, .int x2)] [] := by
    intro x2
    refine dc_loopF ?_
    intro F_16 hl_16 hr_16
    rintro S h
    have h : dc_wp (hm_RE_react_b16 G S o x2) F_16 := h
    delta hm_RE_react_b16 at h
    refine hg_aloadn (pc := 16) (j := 0) (i := 0) (r := (some o)) hC 0 rfl rfl (show decode prog_12_method_3_code 16 = .ok (.aload_n 0, 1) by decide +kernel) ?_
    refine hg_rgi (pc := 17) (r := (some o)) hC fl_SignalEngine_Reactor_95 (show decode prog_12_method_3_code 17 = .ok (.getfield 95, 3) by decide +kernel) h ?_
    intro e10 h
    refine hg_if_eq (pc := 20) (tgt := 69) hC (show decode prog_12_method_3_code 20 = .ok (.ifCond .eq 49, 3) by decide +kernel) (by decide +kernel) h ?_ ?_
    · intro h
      have h : dc_wp (hm_RE_react_L69 G S o) F := hr_16 S (dc_some h)
      exact hg_sub [0] rfl (lab_69 S h)
    · intro h
      refine hg_aloadn (pc := 23) (j := 0) (i := 0) (r := (some o)) hC 0 rfl rfl (show decode prog_12_method_3_code 23 = .ok (.aload_n 0, 1) by decide +kernel) ?_
      refine hg_rgi (pc := 24) (r := (some o)) hC fl_SignalEngine_Reactor_99 (show decode prog_12_method_3_code 24 = .ok (.getfield 99, 3) by decide +kernel) h ?_
      intro e11 h
      refine hg_aloadn (pc := 27) (j := 0) (i := 0) (r := (some o)) hC 0 rfl rfl (show decode prog_12_method_3_code 27 = .ok (.aload_n 0, 1) by decide +kernel) ?_
      refine hg_rgr (pc := 28) (r := (some o)) hC fl_SignalEngine_Reactor_41 (show decode prog_12_method_3_code 28 = .ok (.getfield 41, 3) by decide +kernel) h ?_
      intro e12 h
      refine hg_rlen (pc := 31) (r := e12) (t := 0) hC rfl (show decode prog_12_method_3_code 31 = .ok (.arraylength, 1) by decide +kernel) h ?_
      intro e13 h
      refine hg_iconst (pc := 32) (v := 2) hC (show decode prog_12_method_3_code 32 = .ok (.iconst 2, 1) by decide +kernel) (by decide +kernel) ?_
      refine hg_iadd (pc := 33) hC (show decode prog_12_method_3_code 33 = .ok (.iadd, 1) by decide +kernel) ?_
      refine hg_icmp_gt (pc := 34) (tgt := 69) hC (show decode prog_12_method_3_code 34 = .ok (.if_icmp .gt 35, 3) by decide +kernel) (by decide +kernel) h ?_ ?_
      · intro h
        have h : dc_wp (hm_RE_react_L69 G S o) F := hr_16 S (dc_some h)
        exact hg_sub [0] rfl (lab_69 S h)
      · intro h
        refine hg_aloadn (pc := 37) (j := 0) (i := 0) (r := (some o)) hC 0 rfl rfl (show decode prog_12_method_3_code 37 = .ok (.aload_n 0, 1) by decide +kernel) ?_
        refine hg_iconst (pc := 38) (v := 0) hC (show decode prog_12_method_3_code 38 = .ok (.iconst 0, 1) by decide +kernel) (by decide +kernel) ?_
        refine hg_rput (pc := 39) (r := (some o)) (v := .int 0) hC fp_SignalEngine_Reactor_95 (dc_nar (Or.inl rfl)).2.1 (dc_nar (Or.inl rfl)).2.2 (show decode prog_12_method_3_code 39 = .ok (.putfield 95, 3) by decide +kernel) h ?_
        intro S14 h
        refine hg_aloadn (pc := 42) (j := 0) (i := 0) (r := (some o)) hC 0 rfl rfl (show decode prog_12_method_3_code 42 = .ok (.aload_n 0, 1) by decide +kernel) ?_
        refine hg_iconst (pc := 43) (v := 0) hC (show decode prog_12_method_3_code 43 = .ok (.iconst 0, 1) by decide +kernel) (by decide +kernel) ?_
        refine hg_rput (pc := 44) (r := (some o)) (v := .int 0) hC fp_SignalEngine_Reactor_102 (dc_nar (Or.inl rfl)).2.1 (dc_nar (Or.inl rfl)).2.2 (show decode prog_12_method_3_code 44 = .ok (.putfield 102, 3) by decide +kernel) h ?_
        intro S15 h
        refine hg_aloadn (pc := 47) (j := 0) (i := 0) (r := (some o)) hC 0 rfl rfl (show decode prog_12_method_3_code 47 = .ok (.aload_n 0, 1) by decide +kernel) ?_
        refine hg_iloadn (pc := 48) (j := 2) (i := 2) hC 1 rfl rfl (show decode prog_12_method_3_code 48 = .ok (.iload_n 2, 1) by decide +kernel) ?_
        obtain ⟨b16, hb17, h⟩ := dc_bind h
        obtain ⟨hb17, hv18⟩ := hg_chk_of (C := R_RE) rfl hb17
        refine hg_kVv (pc := 49) (b := b16) (r := (some o)) (As := [.int x2]) (rest := []) (so := fun q => q) hC cw_SignalEngine_Reactor_105 (fun q hq => hm_RE_goThrough_ok l D G S15 b16 x2 q hq) (Nat.le_of_ble_eq_true rfl) (Nat.le_of_ble_eq_true rfl) hb17 hv18 rfl (Nat.le_of_ble_eq_true rfl) (show decode prog_12_method_3_code 49 = .ok (.invokevirtual 105, 3) by decide +kernel) h ?_
        intro q19 h
        refine hg_aloadn (pc := 52) (j := 0) (i := 0) (r := (some o)) hC 0 rfl rfl (show decode prog_12_method_3_code 52 = .ok (.aload_n 0, 1) by decide +kernel) ?_
        obtain ⟨b20, hb21, h⟩ := dc_bind h
        obtain ⟨hb21, hv22⟩ := hg_chk_of (C := R_RE) rfl hb21
        refine hg_kVv (pc := 53) (b := b20) (r := (some o)) (As := []) (rest := []) (so := fun q => q) hC cw_SignalEngine_Reactor_109 (fun q hq => hm_RE_closeOutputs_ok l D G q19 b20 q hq) (Nat.le_of_ble_eq_true rfl) (Nat.le_of_ble_eq_true rfl) hb21 hv22 rfl (Nat.le_of_ble_eq_true rfl) (show decode prog_12_method_3_code 53 = .ok (.invokevirtual 109, 3) by decide +kernel) h ?_
        intro q23 h
        refine hg_aloadn (pc := 56) (j := 0) (i := 0) (r := (some o)) hC 0 rfl rfl (show decode prog_12_method_3_code 56 = .ok (.aload_n 0, 1) by decide +kernel) ?_
        refine hg_dup (pc := 57) hC (show decode prog_12_method_3_code 57 = .ok (.dup, 1) by decide +kernel) rfl ?_
        refine hg_rgi (pc := 58) (r := (some o)) hC fl_SignalEngine_Reactor_99 (show decode prog_12_method_3_code 58 = .ok (.getfield 99, 3) by decide +kernel) h ?_
        intro e24 h
        refine hg_iconst (pc := 61) (v := 1) hC (show decode prog_12_method_3_code 61 = .ok (.iconst 1, 1) by decide +kernel) (by decide +kernel) ?_
        refine hg_iadd (pc := 62) hC (show decode prog_12_method_3_code 62 = .ok (.iadd, 1) by decide +kernel) ?_
        refine hg_rput (pc := 63) (r := (some o)) (v := .int (e24 + 1)) hC fp_SignalEngine_Reactor_99 rfl rfl (show decode prog_12_method_3_code 63 = .ok (.putfield 99, 3) by decide +kernel) h ?_
        intro S25 h
        refine hg_goto (pc := 66) (tgt := 16) hC (show decode prog_12_method_3_code 66 = .ok (.goto (-50), 3) by decide +kernel) (by decide +kernel) ?_
        exact hl_16 S25 (dc_some h)
  have lab_16 : ∀ (S : hg_S) (x2 : Int32), dc_wp (hm_RE_react_L16 G S o x2) F → hg_G X l (hg_rm 5 113 Z) D 4 S 16 [(0, va_rf (some o)), (2, .int x2)] [] := fun S x2 h => loop_16 x2 S (dc_bind h)
  show hg_G X l (hg_rm 5 113 Z) D 4 Z 0 [(0, va_rf (some o)), (1, .int p1), (2, .int p2), (3, va_rf p3)] []
  have h : dc_wp (hm_RE_react G Z o p1 p2 p3) F := h
  delta hm_RE_react at h
  refine hg_aloadn (pc := 0) (j := 0) (i := 0) (r := (some o)) hC 0 rfl rfl (show decode prog_12_method_3_code 0 = .ok (.aload_n 0, 1) by decide +kernel) ?_
  refine hg_iloadn (pc := 1) (j := 1) (i := 1) hC 1 rfl rfl (show decode prog_12_method_3_code 1 = .ok (.iload_n 1, 1) by decide +kernel) ?_
  refine hg_aloadn (pc := 2) (j := 3) (i := 3) (r := p3) hC 3 rfl rfl (show decode prog_12_method_3_code 2 = .ok (.aload_n 3, 1) by decide +kernel) ?_
  obtain ⟨b26, hb27, h⟩ := dc_bind h
  obtain ⟨hb27, hv28⟩ := hg_chk_of (C := R_RE) rfl hb27
  refine hg_kVv (pc := 3) (b := b26) (r := (some o)) (As := [.int p1, va_rf p3]) (rest := []) (so := fun q => q) hC cw_SignalEngine_Reactor_91 (fun q hq => hm_RE_prepare_ok l D G Z b26 p1 p3 q hq) (Nat.le_of_ble_eq_true rfl) (Nat.le_of_ble_eq_true rfl) hb27 hv28 rfl (Nat.le_of_ble_eq_true rfl) (show decode prog_12_method_3_code 3 = .ok (.invokevirtual 91, 3) by decide +kernel) h ?_
  intro q29 h
  refine hg_aloadn (pc := 6) (j := 0) (i := 0) (r := (some o)) hC 0 rfl rfl (show decode prog_12_method_3_code 6 = .ok (.aload_n 0, 1) by decide +kernel) ?_
  refine hg_iconst (pc := 7) (v := 1) hC (show decode prog_12_method_3_code 7 = .ok (.iconst 1, 1) by decide +kernel) (by decide +kernel) ?_
  refine hg_rput (pc := 8) (r := (some o)) (v := .int 1) hC fp_SignalEngine_Reactor_95 (dc_nar (Or.inr rfl)).2.1 (dc_nar (Or.inr rfl)).2.2 (show decode prog_12_method_3_code 8 = .ok (.putfield 95, 3) by decide +kernel) h ?_
  intro S30 h
  refine hg_aloadn (pc := 11) (j := 0) (i := 0) (r := (some o)) hC 0 rfl rfl (show decode prog_12_method_3_code 11 = .ok (.aload_n 0, 1) by decide +kernel) ?_
  refine hg_iconst (pc := 12) (v := 1) hC (show decode prog_12_method_3_code 12 = .ok (.iconst 1, 1) by decide +kernel) (by decide +kernel) ?_
  refine hg_rput (pc := 13) (r := (some o)) (v := .int 1) hC fp_SignalEngine_Reactor_99 rfl rfl (show decode prog_12_method_3_code 13 = .ok (.putfield 99, 3) by decide +kernel) h ?_
  intro S31 h
  exact hg_sub [0, 2] rfl (lab_16 S31 p2 h)
noncomputable def hm_SE_instant_L135 (G : hg_E) (S : hg_S) (o : Nat) (x2 : Int32) : Option ((hg_S × Int32) ⊕ hg_X) :=
  some (.inl (S, x2))
noncomputable def hm_SE_instant_L101 (G : hg_E) (S : hg_S) (o : Nat) (x2 : Int32) (y0 : Int32) : Option ((hg_S × Int32) ⊕ hg_X) :=
  (dc_zb y0).bind fun _ => (hg_pf S (some o) 0 6 (.int y0)).bind fun S2 => (hg_gi S2 (some o) 0 9).bind fun e3 => (hg_pf S2 (some o) 0 9 (.int (e3 + 1))).bind fun S4 => (hg_gr S4 (some o) 0 4).bind fun e5 => (hg_gr S4 e5 10 11).bind fun e6 => (hg_gr S4 (some o) 0 7).bind fun e7 => (hg_gr S4 (some o) 0 7).bind fun e8 => (hg_ln S4 e8 (G.1 2)).bind fun e9 => (hg_cpy G S4 2 .boolean e6 0 e7 0 e9).bind fun S10 => hm_SE_instant_L135 G S10 o x2
noncomputable def hm_SE_instant_L14 (G : hg_E) (S : hg_S) (o : Nat) : Option ((hg_S × Int32) ⊕ hg_X) :=
  if 1 ≤ S.2.2.1 ∧ 6 ≤ S.2.2.2 then some (.inr ((S.1, S.2.1 + 1, S.2.2.1 - 1, S.2.2.2 - 6), S.2.1, false)) else none
noncomputable def hm_SE_instant (G : hg_E) (S : hg_S) (o : Nat) (p1 : Int32) : Option ((hg_S × Int32) ⊕ hg_X) :=
  (hg_gr S (some o) 0 3).bind fun e12 => if e12 = none then (hm_SE_instant_L14 G S o) else ((hg_gi S (some o) 0 6).bind fun e13 => if e13 = 0 then ((hg_gr S (some o) 0 3).bind fun e14 => (hg_gi S e14 9 1).bind fun e15 => if ((Int32.toUInt32 p1 >>> (Int32.toUInt32 e15 &&& Int32.toUInt32 31)).toInt32) = 0 then ((hg_gr S (some o) 0 4).bind fun e16 => (hg_gi S (some o) 0 5).bind fun e17 => (hg_gr S (some o) 0 7).bind fun e18 => (hg_chk S e16 10).bind fun b19 => (hm_RE_react G S b19 p1 e17 e18).bind fun q22 => (hg_gr q22.1 (some o) 0 4).bind fun e23 => (hg_gr q22.1 e23 10 1).bind fun e24 => (hg_gr q22.1 (some o) 0 8).bind fun e25 => (hg_gr q22.1 (some o) 0 8).bind fun e26 => (hg_ln q22.1 e26 (G.1 0)).bind fun e27 => (hg_cpy G q22.1 0 .int e24 0 e25 0 e27).bind fun S28 => if q22.2 = 2 then (hm_SE_instant_L135 G S28 o q22.2) else ((hg_pf S28 (some o) 0 5 (.int 1)).bind fun S29 => if q22.2 = 1 then (hm_SE_instant_L101 G S29 o q22.2 1) else (hm_SE_instant_L101 G S29 o q22.2 0))) else (if 1 ≤ S.2.2.1 ∧ 6 ≤ S.2.2.2 then some (.inr ((S.1, S.2.1 + 1, S.2.2.1 - 1, S.2.2.2 - 6), S.2.1, true)) else none)) else (hm_SE_instant_L14 G S o))
set_option maxHeartbeats 4000000 in
set_option maxRecDepth 100000 in
/-- SignalEngine.instant(I)I -/
theorem hm_SE_instant_ok (l : Launch) (hlt : l.stackTraces = false) (D : va_G) (G : hg_E) (Z : hg_S) (o : Nat) (p1 : Int32) (q : (hg_S × Int32) ⊕ hg_X) (hq : hm_SE_instant G Z o p1 = some q) : hg_C l ⟨"SignalEngine", "instant", "(I)I"⟩ prog_1_method_12_code 3 (some (.int)) 6 136 D G [.ref o, .int p1] Z (Sum.elim (fun q => (.inl (some (.int q.2), q.1) : hg_O)) hg_ox q) := by
  refine hg_start (cv := fun q => (Sum.elim (fun q => (.inl (some (.int q.2), q.1) : hg_O)) hg_ox q)) hq ?_
  intro F hF h
  refine hg_enter (lv := [(0, va_rf (some o)), (1, .int p1)]) (by decide +kernel) (by simp [lg_sl, va_rf_cat, hg_cti, hg_ctr]) (by simp [lv_args, va_rf_cat, va_rf_some, hg_cti, hg_ctr]) ?_
  intro X hC hR
  have lab_135 : ∀ (S : hg_S) (x2 : Int32), dc_wp (hm_SE_instant_L135 G S o x2) F → hg_G X l (hg_rm 6 136 Z) D 3 S 135 [(0, va_rf (some o)), (2, .int x2)] [] := by
    intro S x2 h
    delta hm_SE_instant_L135 at h
    refine hg_iloadn (pc := 135) (j := 2) (i := 2) hC 1 rfl rfl (show decode prog_1_method_12_code 135 = .ok (.iload_n 2, 1) by decide +kernel) ?_
    exact hg_iret (pc := 136) hC hR (hF _ (dc_some h)) (show decode prog_1_method_12_code 136 = .ok (.ireturn, 1) by decide +kernel)
  have lab_101 : ∀ (S : hg_S) (x2 : Int32) (y0 : Int32), dc_wp (hm_SE_instant_L101 G S o x2 y0) F → hg_G X l (hg_rm 6 136 Z) D 3 S 101 [(0, va_rf (some o)), (2, .int x2)] [.int y0, va_rf (some o)] := by
    intro S x2 y0 h
    delta hm_SE_instant_L101 at h
    obtain ⟨hz1, h⟩ := dc_zb_wp (dc_bind h)
    refine hg_rput (pc := 101) (r := (some o)) (v := .int y0) hC fp_SignalEngine_85 (dc_nar hz1).2.1 (dc_nar hz1).2.2 (show decode prog_1_method_12_code 101 = .ok (.putfield 85, 3) by decide +kernel) h ?_
    intro S2 h
    refine hg_aloadn (pc := 104) (j := 0) (i := 0) (r := (some o)) hC 0 rfl rfl (show decode prog_1_method_12_code 104 = .ok (.aload_n 0, 1) by decide +kernel) ?_
    refine hg_dup (pc := 105) hC (show decode prog_1_method_12_code 105 = .ok (.dup, 1) by decide +kernel) rfl ?_
    refine hg_rgi (pc := 106) (r := (some o)) hC fl_SignalEngine_88 (show decode prog_1_method_12_code 106 = .ok (.getfield 88, 3) by decide +kernel) h ?_
    intro e3 h
    refine hg_iconst (pc := 109) (v := 1) hC (show decode prog_1_method_12_code 109 = .ok (.iconst 1, 1) by decide +kernel) (by decide +kernel) ?_
    refine hg_iadd (pc := 110) hC (show decode prog_1_method_12_code 110 = .ok (.iadd, 1) by decide +kernel) ?_
    refine hg_rput (pc := 111) (r := (some o)) (v := .int (e3 + 1)) hC fp_SignalEngine_88 rfl rfl (show decode prog_1_method_12_code 111 = .ok (.putfield 88, 3) by decide +kernel) h ?_
    intro S4 h
    refine hg_aloadn (pc := 114) (j := 0) (i := 0) (r := (some o)) hC 0 rfl rfl (show decode prog_1_method_12_code 114 = .ok (.aload_n 0, 1) by decide +kernel) ?_
    refine hg_rgr (pc := 115) (r := (some o)) hC fl_SignalEngine_61 (show decode prog_1_method_12_code 115 = .ok (.getfield 61, 3) by decide +kernel) h ?_
    intro e5 h
    refine hg_rgr (pc := 118) (r := e5) hC fl_SignalEngine_166 (show decode prog_1_method_12_code 118 = .ok (.getfield 166, 3) by decide +kernel) h ?_
    intro e6 h
    refine hg_iconst (pc := 121) (v := 0) hC (show decode prog_1_method_12_code 121 = .ok (.iconst 0, 1) by decide +kernel) (by decide +kernel) ?_
    refine hg_aloadn (pc := 122) (j := 0) (i := 0) (r := (some o)) hC 0 rfl rfl (show decode prog_1_method_12_code 122 = .ok (.aload_n 0, 1) by decide +kernel) ?_
    refine hg_rgr (pc := 123) (r := (some o)) hC fl_SignalEngine_68 (show decode prog_1_method_12_code 123 = .ok (.getfield 68, 3) by decide +kernel) h ?_
    intro e7 h
    refine hg_iconst (pc := 126) (v := 0) hC (show decode prog_1_method_12_code 126 = .ok (.iconst 0, 1) by decide +kernel) (by decide +kernel) ?_
    refine hg_aloadn (pc := 127) (j := 0) (i := 0) (r := (some o)) hC 0 rfl rfl (show decode prog_1_method_12_code 127 = .ok (.aload_n 0, 1) by decide +kernel) ?_
    refine hg_rgr (pc := 128) (r := (some o)) hC fl_SignalEngine_68 (show decode prog_1_method_12_code 128 = .ok (.getfield 68, 3) by decide +kernel) h ?_
    intro e8 h
    refine hg_rlen (pc := 131) (r := e8) (t := 2) hC rfl (show decode prog_1_method_12_code 131 = .ok (.arraylength, 1) by decide +kernel) h ?_
    intro e9 h
    refine hg_rcpy (pc := 132) (t := 2) (r0 := e6) (r1 := e7) hC rfl rfl w_1295 w_106 w_105 w_5 (Nat.le_of_ble_eq_true rfl) (Nat.le_of_ble_eq_true rfl) (show decode prog_1_method_12_code 132 = .ok (.invokestatic 160, 3) by decide +kernel) h ?_
    intro S10 h
    exact lab_135 S10 x2 h
  have lab_14 : ∀ (S : hg_S), dc_wp (hm_SE_instant_L14 G S o) F → hg_G X l (hg_rm 6 136 Z) D 3 S 14 [(0, va_rf (some o))] [] := by
    intro S  h
    delta hm_SE_instant_L14 at h
    rcases dc_ite h with ⟨hr11, h⟩ | ⟨_, h⟩
    · exact hg_raise (pc := 14) (rest := []) hC hlt hR false exq_SignalEngine_142 exq_SignalEngine_142_two (show decode prog_1_method_12_code 14 = .ok (.new 140, 3) by decide +kernel) (show decode prog_1_method_12_code 17 = .ok (.dup, 1) by decide +kernel) (show decode prog_1_method_12_code 18 = .ok (.invokespecial 142, 3) by decide +kernel) (show decode prog_1_method_12_code 21 = .ok (.athrow, 1) by decide +kernel) hr11 (Nat.le_of_ble_eq_true rfl) (Nat.le_of_ble_eq_true rfl) ((fun (z : hg_X) (h : dc_wp (some (.inr z)) F) => hF (.inr z) (dc_some h)) ((S.1, S.2.1 + 1, S.2.2.1 - 1, S.2.2.2 - 6), S.2.1, false) h)
    · exact (dc_not h).elim
  show hg_G X l (hg_rm 6 136 Z) D 3 Z 0 [(0, va_rf (some o)), (1, .int p1)] []
  have h : dc_wp (hm_SE_instant G Z o p1) F := h
  delta hm_SE_instant at h
  refine hg_aloadn (pc := 0) (j := 0) (i := 0) (r := (some o)) hC 0 rfl rfl (show decode prog_1_method_12_code 0 = .ok (.aload_n 0, 1) by decide +kernel) ?_
  refine hg_rgr (pc := 1) (r := (some o)) hC fl_SignalEngine_52 (show decode prog_1_method_12_code 1 = .ok (.getfield 52, 3) by decide +kernel) h ?_
  intro e12 h
  refine hg_ifnull (pc := 4) (tgt := 14) (r := e12) hC (show decode prog_1_method_12_code 4 = .ok (.ifnull 10, 3) by decide +kernel) (by decide +kernel) h ?_ ?_
  · intro h
    exact hg_sub [0] rfl (lab_14 Z h)
  · intro h
    refine hg_aloadn (pc := 7) (j := 0) (i := 0) (r := (some o)) hC 0 rfl rfl (show decode prog_1_method_12_code 7 = .ok (.aload_n 0, 1) by decide +kernel) ?_
    refine hg_rgi (pc := 8) (r := (some o)) hC fl_SignalEngine_85 (show decode prog_1_method_12_code 8 = .ok (.getfield 85, 3) by decide +kernel) h ?_
    intro e13 h
    refine hg_if_eq (pc := 11) (tgt := 22) hC (show decode prog_1_method_12_code 11 = .ok (.ifCond .eq 11, 3) by decide +kernel) (by decide +kernel) h ?_ ?_
    · intro h
      refine hg_iloadn (pc := 22) (j := 1) (i := 1) hC 1 rfl rfl (show decode prog_1_method_12_code 22 = .ok (.iload_n 1, 1) by decide +kernel) ?_
      refine hg_aloadn (pc := 23) (j := 0) (i := 0) (r := (some o)) hC 0 rfl rfl (show decode prog_1_method_12_code 23 = .ok (.aload_n 0, 1) by decide +kernel) ?_
      refine hg_rgr (pc := 24) (r := (some o)) hC fl_SignalEngine_52 (show decode prog_1_method_12_code 24 = .ok (.getfield 52, 3) by decide +kernel) h ?_
      intro e14 h
      refine hg_rgi (pc := 27) (r := e14) hC fl_SignalEngine_72 (show decode prog_1_method_12_code 27 = .ok (.getfield 72, 3) by decide +kernel) h ?_
      intro e15 h
      refine hg_iushr (pc := 30) hC (show decode prog_1_method_12_code 30 = .ok (.iushr, 1) by decide +kernel) ?_
      refine hg_if_eq (pc := 31) (tgt := 42) hC (show decode prog_1_method_12_code 31 = .ok (.ifCond .eq 11, 3) by decide +kernel) (by decide +kernel) h ?_ ?_
      · intro h
        refine hg_aloadn (pc := 42) (j := 0) (i := 0) (r := (some o)) hC 0 rfl rfl (show decode prog_1_method_12_code 42 = .ok (.aload_n 0, 1) by decide +kernel) ?_
        refine hg_rgr (pc := 43) (r := (some o)) hC fl_SignalEngine_61 (show decode prog_1_method_12_code 43 = .ok (.getfield 61, 3) by decide +kernel) h ?_
        intro e16 h
        refine hg_iloadn (pc := 46) (j := 1) (i := 1) hC 1 rfl rfl (show decode prog_1_method_12_code 46 = .ok (.iload_n 1, 1) by decide +kernel) ?_
        refine hg_aloadn (pc := 47) (j := 0) (i := 0) (r := (some o)) hC 0 rfl rfl (show decode prog_1_method_12_code 47 = .ok (.aload_n 0, 1) by decide +kernel) ?_
        refine hg_rgi (pc := 48) (r := (some o)) hC fl_SignalEngine_82 (show decode prog_1_method_12_code 48 = .ok (.getfield 82, 3) by decide +kernel) h ?_
        intro e17 h
        refine hg_aloadn (pc := 51) (j := 0) (i := 0) (r := (some o)) hC 0 rfl rfl (show decode prog_1_method_12_code 51 = .ok (.aload_n 0, 1) by decide +kernel) ?_
        refine hg_rgr (pc := 52) (r := (some o)) hC fl_SignalEngine_68 (show decode prog_1_method_12_code 52 = .ok (.getfield 68, 3) by decide +kernel) h ?_
        intro e18 h
        obtain ⟨b19, hb20, h⟩ := dc_bind h
        obtain ⟨hb20, hv21⟩ := hg_chk_of (C := R_RE) rfl hb20
        refine hg_kVi (pc := 55) (b := b19) (r := e16) (As := [.int p1, .int e17, va_rf e18]) (rest := []) (vo := fun q => q.2) (so := fun q => q.1) hC cw_SignalEngine_153 (fun q hq => hm_RE_react_ok l D G Z b19 p1 e17 e18 q hq) (Nat.le_of_ble_eq_true rfl) (Nat.le_of_ble_eq_true rfl) hb20 hv21 rfl (Nat.le_of_ble_eq_true rfl) (show decode prog_1_method_12_code 55 = .ok (.invokevirtual 153, 3) by decide +kernel) h ?_
        intro q22 h
        refine hg_istoren (pc := 58) (j := 2) (i := 2) (lv' := [(2, .int q22.2), (0, va_rf (some o)), (1, .int p1)]) hC rfl (Nat.le_of_ble_eq_true rfl) rfl (show decode prog_1_method_12_code 58 = .ok (.istore_n 2, 1) by decide +kernel) ?_
        refine hg_aloadn (pc := 59) (j := 0) (i := 0) (r := (some o)) hC 1 rfl rfl (show decode prog_1_method_12_code 59 = .ok (.aload_n 0, 1) by decide +kernel) ?_
        refine hg_rgr (pc := 60) (r := (some o)) hC fl_SignalEngine_61 (show decode prog_1_method_12_code 60 = .ok (.getfield 61, 3) by decide +kernel) h ?_
        intro e23 h
        refine hg_rgr (pc := 63) (r := e23) hC fl_SignalEngine_157 (show decode prog_1_method_12_code 63 = .ok (.getfield 157, 3) by decide +kernel) h ?_
        intro e24 h
        refine hg_iconst (pc := 66) (v := 0) hC (show decode prog_1_method_12_code 66 = .ok (.iconst 0, 1) by decide +kernel) (by decide +kernel) ?_
        refine hg_aloadn (pc := 67) (j := 0) (i := 0) (r := (some o)) hC 1 rfl rfl (show decode prog_1_method_12_code 67 = .ok (.aload_n 0, 1) by decide +kernel) ?_
        refine hg_rgr (pc := 68) (r := (some o)) hC fl_SignalEngine_78 (show decode prog_1_method_12_code 68 = .ok (.getfield 78, 3) by decide +kernel) h ?_
        intro e25 h
        refine hg_iconst (pc := 71) (v := 0) hC (show decode prog_1_method_12_code 71 = .ok (.iconst 0, 1) by decide +kernel) (by decide +kernel) ?_
        refine hg_aloadn (pc := 72) (j := 0) (i := 0) (r := (some o)) hC 1 rfl rfl (show decode prog_1_method_12_code 72 = .ok (.aload_n 0, 1) by decide +kernel) ?_
        refine hg_rgr (pc := 73) (r := (some o)) hC fl_SignalEngine_78 (show decode prog_1_method_12_code 73 = .ok (.getfield 78, 3) by decide +kernel) h ?_
        intro e26 h
        refine hg_rlen (pc := 76) (r := e26) (t := 0) hC rfl (show decode prog_1_method_12_code 76 = .ok (.arraylength, 1) by decide +kernel) h ?_
        intro e27 h
        refine hg_rcpy (pc := 77) (t := 0) (r0 := e24) (r1 := e25) hC rfl rfl w_1295 w_106 w_105 w_5 (Nat.le_of_ble_eq_true rfl) (Nat.le_of_ble_eq_true rfl) (show decode prog_1_method_12_code 77 = .ok (.invokestatic 160, 3) by decide +kernel) h ?_
        intro S28 h
        refine hg_iloadn (pc := 80) (j := 2) (i := 2) hC 0 rfl rfl (show decode prog_1_method_12_code 80 = .ok (.iload_n 2, 1) by decide +kernel) ?_
        refine hg_iconst (pc := 81) (v := 2) hC (show decode prog_1_method_12_code 81 = .ok (.iconst 2, 1) by decide +kernel) (by decide +kernel) ?_
        refine hg_icmp_eq (pc := 82) (tgt := 135) hC (show decode prog_1_method_12_code 82 = .ok (.if_icmp .eq 53, 3) by decide +kernel) (by decide +kernel) h ?_ ?_
        · intro h
          exact hg_sub [1, 0] rfl (lab_135 S28 q22.2 h)
        · intro h
          refine hg_aloadn (pc := 85) (j := 0) (i := 0) (r := (some o)) hC 1 rfl rfl (show decode prog_1_method_12_code 85 = .ok (.aload_n 0, 1) by decide +kernel) ?_
          refine hg_iconst (pc := 86) (v := 1) hC (show decode prog_1_method_12_code 86 = .ok (.iconst 1, 1) by decide +kernel) (by decide +kernel) ?_
          refine hg_rput (pc := 87) (r := (some o)) (v := .int 1) hC fp_SignalEngine_82 (dc_nar (Or.inr rfl)).2.1 (dc_nar (Or.inr rfl)).2.2 (show decode prog_1_method_12_code 87 = .ok (.putfield 82, 3) by decide +kernel) h ?_
          intro S29 h
          refine hg_aloadn (pc := 90) (j := 0) (i := 0) (r := (some o)) hC 1 rfl rfl (show decode prog_1_method_12_code 90 = .ok (.aload_n 0, 1) by decide +kernel) ?_
          refine hg_iloadn (pc := 91) (j := 2) (i := 2) hC 0 rfl rfl (show decode prog_1_method_12_code 91 = .ok (.iload_n 2, 1) by decide +kernel) ?_
          refine hg_iconst (pc := 92) (v := 1) hC (show decode prog_1_method_12_code 92 = .ok (.iconst 1, 1) by decide +kernel) (by decide +kernel) ?_
          refine hg_icmp_ne (pc := 93) (tgt := 100) hC (show decode prog_1_method_12_code 93 = .ok (.if_icmp .ne 7, 3) by decide +kernel) (by decide +kernel) h ?_ ?_
          · intro h
            refine hg_iconst (pc := 96) (v := 1) hC (show decode prog_1_method_12_code 96 = .ok (.iconst 1, 1) by decide +kernel) (by decide +kernel) ?_
            refine hg_goto (pc := 97) (tgt := 101) hC (show decode prog_1_method_12_code 97 = .ok (.goto 4, 3) by decide +kernel) (by decide +kernel) ?_
            exact hg_sub [1, 0] rfl (lab_101 S29 q22.2 1 h)
          · intro h
            refine hg_iconst (pc := 100) (v := 0) hC (show decode prog_1_method_12_code 100 = .ok (.iconst 0, 1) by decide +kernel) (by decide +kernel) ?_
            exact hg_sub [1, 0] rfl (lab_101 S29 q22.2 0 h)
      · intro h
        rcases dc_ite h with ⟨hr30, h⟩ | ⟨_, h⟩
        · exact hg_raise (pc := 34) (rest := []) hC hlt hR true exq_SignalEngine_152 exq_SignalEngine_152_two (show decode prog_1_method_12_code 34 = .ok (.new 150, 3) by decide +kernel) (show decode prog_1_method_12_code 37 = .ok (.dup, 1) by decide +kernel) (show decode prog_1_method_12_code 38 = .ok (.invokespecial 152, 3) by decide +kernel) (show decode prog_1_method_12_code 41 = .ok (.athrow, 1) by decide +kernel) hr30 (Nat.le_of_ble_eq_true rfl) (Nat.le_of_ble_eq_true rfl) ((fun (z : hg_X) (h : dc_wp (some (.inr z)) F) => hF (.inr z) (dc_some h)) ((Z.1, Z.2.1 + 1, Z.2.2.1 - 1, Z.2.2.2 - 6), Z.2.1, true) h)
        · exact (dc_not h).elim
    · intro h
      exact hg_sub [0] rfl (lab_14 Z h)
noncomputable def hm_SE_go (G : hg_E) (S : hg_S) (o : Nat) (p1 : Int32) : Option ((hg_S) ⊕ hg_X) :=
  (hg_gi S (some o) 0 12).bind fun e1 => if e1 = 0 then (if 1 ≤ S.2.2.1 ∧ 6 ≤ S.2.2.2 then some (.inr ((S.1, S.2.1 + 1, S.2.2.1 - 1, S.2.2.2 - 6), S.2.1, false)) else none) else ((hg_gr S (some o) 0 10).bind fun e3 => (hg_chk S e3 11).bind fun b4 => (hm_AT_reaches G S b4 p1).bind fun q7 => if q7 = 0 then (if 1 ≤ S.2.2.1 ∧ 6 ≤ S.2.2.2 then some (.inr ((S.1, S.2.1 + 1, S.2.2.1 - 1, S.2.2.2 - 6), S.2.1, true)) else none) else ((hg_chk S (some o) 0).bind fun b9 => (hm_SE_stand G S b9 p1).bind fun q12 => some (.inl q12)))
set_option maxHeartbeats 4000000 in
set_option maxRecDepth 100000 in
/-- SignalEngine.go(I)V -/
theorem hm_SE_go_ok (l : Launch) (hlt : l.stackTraces = false) (D : va_G) (G : hg_E) (Z : hg_S) (o : Nat) (p1 : Int32) (q : (hg_S) ⊕ hg_X) (hq : hm_SE_go G Z o p1 = some q) : hg_C l ⟨"SignalEngine", "go", "(I)V"⟩ prog_1_method_15_code 2 none 6 100 D G [.ref o, .int p1] Z (Sum.elim (fun q => (.inl (none, q) : hg_O)) hg_ox q) := by
  refine hg_start (cv := fun q => (Sum.elim (fun q => (.inl (none, q) : hg_O)) hg_ox q)) hq ?_
  intro F hF h
  refine hg_enter (lv := [(0, va_rf (some o)), (1, .int p1)]) (by decide +kernel) (by simp [lg_sl, va_rf_cat, hg_cti, hg_ctr]) (by simp [lv_args, va_rf_cat, va_rf_some, hg_cti, hg_ctr]) ?_
  intro X hC hR
  show hg_G X l (hg_rm 6 100 Z) D 2 Z 0 [(0, va_rf (some o)), (1, .int p1)] []
  have h : dc_wp (hm_SE_go G Z o p1) F := h
  delta hm_SE_go at h
  refine hg_aloadn (pc := 0) (j := 0) (i := 0) (r := (some o)) hC 0 rfl rfl (show decode prog_1_method_15_code 0 = .ok (.aload_n 0, 1) by decide +kernel) ?_
  refine hg_rgi (pc := 1) (r := (some o)) hC fl_SignalEngine_91 (show decode prog_1_method_15_code 1 = .ok (.getfield 91, 3) by decide +kernel) h ?_
  intro e1 h
  refine hg_if_ne (pc := 4) (tgt := 15) hC (show decode prog_1_method_15_code 4 = .ok (.ifCond .ne 11, 3) by decide +kernel) (by decide +kernel) h ?_ ?_
  · intro h
    rcases dc_ite h with ⟨hr2, h⟩ | ⟨_, h⟩
    · exact hg_raise (pc := 7) (rest := []) hC hlt hR false exq_SignalEngine_142 exq_SignalEngine_142_two (show decode prog_1_method_15_code 7 = .ok (.new 140, 3) by decide +kernel) (show decode prog_1_method_15_code 10 = .ok (.dup, 1) by decide +kernel) (show decode prog_1_method_15_code 11 = .ok (.invokespecial 142, 3) by decide +kernel) (show decode prog_1_method_15_code 14 = .ok (.athrow, 1) by decide +kernel) hr2 (Nat.le_of_ble_eq_true rfl) (Nat.le_of_ble_eq_true rfl) ((fun (z : hg_X) (h : dc_wp (some (.inr z)) F) => hF (.inr z) (dc_some h)) ((Z.1, Z.2.1 + 1, Z.2.2.1 - 1, Z.2.2.2 - 6), Z.2.1, false) h)
    · exact (dc_not h).elim
  · intro h
    refine hg_aloadn (pc := 15) (j := 0) (i := 0) (r := (some o)) hC 0 rfl rfl (show decode prog_1_method_15_code 15 = .ok (.aload_n 0, 1) by decide +kernel) ?_
    refine hg_rgr (pc := 16) (r := (some o)) hC fl_SignalEngine_169 (show decode prog_1_method_15_code 16 = .ok (.getfield 169, 3) by decide +kernel) h ?_
    intro e3 h
    refine hg_iloadn (pc := 19) (j := 1) (i := 1) hC 1 rfl rfl (show decode prog_1_method_15_code 19 = .ok (.iload_n 1, 1) by decide +kernel) ?_
    obtain ⟨b4, hb5, h⟩ := dc_bind h
    obtain ⟨hb5, hv6⟩ := hg_chk_of (C := R_AT) rfl hb5
    refine hg_kVi (pc := 20) (b := b4) (r := e3) (As := [.int p1]) (rest := []) (vo := fun q => q) (so := fun q => Z) hC cw_SignalEngine_173 (fun q hq => hm_AT_reaches_ok l D G Z b4 p1 q hq) (Nat.le_of_ble_eq_true rfl) (Nat.le_of_ble_eq_true rfl) hb5 hv6 rfl (Nat.le_of_ble_eq_true rfl) (show decode prog_1_method_15_code 20 = .ok (.invokevirtual 173, 3) by decide +kernel) h ?_
    intro q7 h
    refine hg_if_ne (pc := 23) (tgt := 34) hC (show decode prog_1_method_15_code 23 = .ok (.ifCond .ne 11, 3) by decide +kernel) (by decide +kernel) h ?_ ?_
    · intro h
      rcases dc_ite h with ⟨hr8, h⟩ | ⟨_, h⟩
      · exact hg_raise (pc := 26) (rest := []) hC hlt hR true exq_SignalEngine_152 exq_SignalEngine_152_two (show decode prog_1_method_15_code 26 = .ok (.new 150, 3) by decide +kernel) (show decode prog_1_method_15_code 29 = .ok (.dup, 1) by decide +kernel) (show decode prog_1_method_15_code 30 = .ok (.invokespecial 152, 3) by decide +kernel) (show decode prog_1_method_15_code 33 = .ok (.athrow, 1) by decide +kernel) hr8 (Nat.le_of_ble_eq_true rfl) (Nat.le_of_ble_eq_true rfl) ((fun (z : hg_X) (h : dc_wp (some (.inr z)) F) => hF (.inr z) (dc_some h)) ((Z.1, Z.2.1 + 1, Z.2.2.1 - 1, Z.2.2.2 - 6), Z.2.1, true) h)
      · exact (dc_not h).elim
    · intro h
      refine hg_aloadn (pc := 34) (j := 0) (i := 0) (r := (some o)) hC 0 rfl rfl (show decode prog_1_method_15_code 34 = .ok (.aload_n 0, 1) by decide +kernel) ?_
      refine hg_iloadn (pc := 35) (j := 1) (i := 1) hC 1 rfl rfl (show decode prog_1_method_15_code 35 = .ok (.iload_n 1, 1) by decide +kernel) ?_
      obtain ⟨b9, hb10, h⟩ := dc_bind h
      obtain ⟨hb10, hv11⟩ := hg_chk_of (C := R_SE) rfl hb10
      refine hg_kVv (pc := 36) (b := b9) (r := (some o)) (As := [.int p1]) (rest := []) (so := fun q => q) hC cw_SignalEngine_143 (fun q hq => hm_SE_stand_ok l D G Z b9 p1 q hq) (Nat.le_of_ble_eq_true rfl) (Nat.le_of_ble_eq_true rfl) hb10 hv11 rfl (Nat.le_of_ble_eq_true rfl) (show decode prog_1_method_15_code 36 = .ok (.invokevirtual 143, 3) by decide +kernel) h ?_
      intro q12 h
      exact hg_vret (pc := 39) hC hR (hF _ (dc_some h)) (show decode prog_1_method_15_code 39 = .ok (.return_, 1) by decide +kernel)
noncomputable def hm_PG_canBeExplored_L45 (G : hg_E) (S : hg_S) (o : Nat) (y0 : Int32) : Option (Int32) :=
  (dc_zb y0).bind fun _ => some y0
noncomputable def hm_PG_canBeExplored_L44 (G : hg_E) (S : hg_S) (o : Nat) : Option (Int32) :=
  hm_PG_canBeExplored_L45 G S o 0
noncomputable def hm_PG_canBeExplored (G : hg_E) (S : hg_S) (o : Nat) : Option (Int32) :=
  (hg_gi S (some o) 9 3).bind fun e2 => if (8 : Int32) < e2 then (hm_PG_canBeExplored_L44 G S o) else ((hg_gi S (some o) 9 1).bind fun e3 => if (4 : Int32) < e3 then (hm_PG_canBeExplored_L44 G S o) else ((hg_gr S (some o) 9 6).bind fun e4 => (hg_gi S e4 5 5).bind fun e5 => if (300 : Int32) < e5 then (hm_PG_canBeExplored_L44 G S o) else ((hg_gi S (some o) 9 4).bind fun e6 => if (300 : Int32) < e6 then (hm_PG_canBeExplored_L44 G S o) else (hm_PG_canBeExplored_L45 G S o 1))))
set_option maxHeartbeats 4000000 in
set_option maxRecDepth 100000 in
/-- SignalEngine$Program.canBeExplored()Z -/
theorem hm_PG_canBeExplored_ok (l : Launch) (D : va_G) (G : hg_E) (Z : hg_S) (o : Nat) (q : Int32) (hq : hm_PG_canBeExplored G Z o = some q) : hg_C l ⟨"SignalEngine$Program", "canBeExplored", "()Z"⟩ prog_11_method_6_code 1 (some (.boolean)) 0 0 D G [.ref o] Z (.inl (some (.int q), Z) : hg_O) := by
  refine hg_start (cv := fun q => (.inl (some (.int q), Z) : hg_O)) hq ?_
  intro F hF h
  refine hg_enter (lv := [(0, va_rf (some o))]) (by decide +kernel) (by simp [lg_sl, va_rf_cat, hg_cti, hg_ctr]) (by simp [lv_args, va_rf_cat, va_rf_some, hg_cti, hg_ctr]) ?_
  intro X hC hR
  have lab_45 : ∀ (y0 : Int32), dc_wp (hm_PG_canBeExplored_L45 G Z o y0) F → hg_G X l (hg_rm 0 0 Z) D 1 Z 45 [(0, va_rf (some o))] [.int y0] := by
    intro y0 h
    delta hm_PG_canBeExplored_L45 at h
    obtain ⟨hz1, h⟩ := dc_zb_wp (dc_bind h)
    exact hg_zret (pc := 45) hC hR hz1 (hF _ (dc_some h)) (show decode prog_11_method_6_code 45 = .ok (.ireturn, 1) by decide +kernel)
  have lab_44 : dc_wp (hm_PG_canBeExplored_L44 G Z o) F → hg_G X l (hg_rm 0 0 Z) D 1 Z 44 [(0, va_rf (some o))] [] := by
    intro  h
    delta hm_PG_canBeExplored_L44 at h
    refine hg_iconst (pc := 44) (v := 0) hC (show decode prog_11_method_6_code 44 = .ok (.iconst 0, 1) by decide +kernel) (by decide +kernel) ?_
    exact lab_45 0 h
  show hg_G X l (hg_rm 0 0 Z) D 1 Z 0 [(0, va_rf (some o))] []
  have h : dc_wp (hm_PG_canBeExplored G Z o) F := h
  delta hm_PG_canBeExplored at h
  refine hg_aloadn (pc := 0) (j := 0) (i := 0) (r := (some o)) hC 0 rfl rfl (show decode prog_11_method_6_code 0 = .ok (.aload_n 0, 1) by decide +kernel) ?_
  refine hg_rgi (pc := 1) (r := (some o)) hC fl_SignalEngine_Program_48 (show decode prog_11_method_6_code 1 = .ok (.getfield 48, 3) by decide +kernel) h ?_
  intro e2 h
  refine hg_bipush (pc := 4) (v := 8) hC (show decode prog_11_method_6_code 4 = .ok (.bipush 8, 2) by decide +kernel) (by decide +kernel) ?_
  refine hg_icmp_gt (pc := 6) (tgt := 44) hC (show decode prog_11_method_6_code 6 = .ok (.if_icmp .gt 38, 3) by decide +kernel) (by decide +kernel) h ?_ ?_
  · intro h
    exact lab_44 h
  · intro h
    refine hg_aloadn (pc := 9) (j := 0) (i := 0) (r := (some o)) hC 0 rfl rfl (show decode prog_11_method_6_code 9 = .ok (.aload_n 0, 1) by decide +kernel) ?_
    refine hg_rgi (pc := 10) (r := (some o)) hC fl_SignalEngine_Program_40 (show decode prog_11_method_6_code 10 = .ok (.getfield 40, 3) by decide +kernel) h ?_
    intro e3 h
    refine hg_iconst (pc := 13) (v := 4) hC (show decode prog_11_method_6_code 13 = .ok (.iconst 4, 1) by decide +kernel) (by decide +kernel) ?_
    refine hg_icmp_gt (pc := 14) (tgt := 44) hC (show decode prog_11_method_6_code 14 = .ok (.if_icmp .gt 30, 3) by decide +kernel) (by decide +kernel) h ?_ ?_
    · intro h
      exact lab_44 h
    · intro h
      refine hg_aloadn (pc := 17) (j := 0) (i := 0) (r := (some o)) hC 0 rfl rfl (show decode prog_11_method_6_code 17 = .ok (.aload_n 0, 1) by decide +kernel) ?_
      refine hg_rgr (pc := 18) (r := (some o)) hC fl_SignalEngine_Program_65 (show decode prog_11_method_6_code 18 = .ok (.getfield 65, 3) by decide +kernel) h ?_
      intro e4 h
      refine hg_rgi (pc := 21) (r := e4) hC fl_SignalEngine_Program_145 (show decode prog_11_method_6_code 21 = .ok (.getfield 145, 3) by decide +kernel) h ?_
      intro e5 h
      refine hg_sipush (pc := 24) (v := 300) hC (show decode prog_11_method_6_code 24 = .ok (.sipush 300, 3) by decide +kernel) (by decide +kernel) ?_
      refine hg_icmp_gt (pc := 27) (tgt := 44) hC (show decode prog_11_method_6_code 27 = .ok (.if_icmp .gt 17, 3) by decide +kernel) (by decide +kernel) h ?_ ?_
      · intro h
        exact lab_44 h
      · intro h
        refine hg_aloadn (pc := 30) (j := 0) (i := 0) (r := (some o)) hC 0 rfl rfl (show decode prog_11_method_6_code 30 = .ok (.aload_n 0, 1) by decide +kernel) ?_
        refine hg_rgi (pc := 31) (r := (some o)) hC fl_SignalEngine_Program_52 (show decode prog_11_method_6_code 31 = .ok (.getfield 52, 3) by decide +kernel) h ?_
        intro e6 h
        refine hg_sipush (pc := 34) (v := 300) hC (show decode prog_11_method_6_code 34 = .ok (.sipush 300, 3) by decide +kernel) (by decide +kernel) ?_
        refine hg_icmp_gt (pc := 37) (tgt := 44) hC (show decode prog_11_method_6_code 37 = .ok (.if_icmp .gt 7, 3) by decide +kernel) (by decide +kernel) h ?_ ?_
        · intro h
          exact lab_44 h
        · intro h
          refine hg_iconst (pc := 40) (v := 1) hC (show decode prog_11_method_6_code 40 = .ok (.iconst 1, 1) by decide +kernel) (by decide +kernel) ?_
          refine hg_goto (pc := 41) (tgt := 45) hC (show decode prog_11_method_6_code 41 = .ok (.goto 4, 3) by decide +kernel) (by decide +kernel) ?_
          exact lab_45 1 h
noncomputable def hm_AT_init (G : hg_E) (S : hg_S) (o : Nat) : Option (hg_S) :=
  (hg_newa G S 0 4112).bind fun S1 => (hg_pf S1 (some o) 11 0 (va_rf (some S.2.1))).bind fun S2 => (hg_newa G S2 0 4112).bind fun S3 => (hg_pf S3 (some o) 11 1 (va_rf (some S2.2.1))).bind fun S4 => (hg_newa G S4 0 257).bind fun S5 => (hg_pf S5 (some o) 11 2 (va_rf (some S4.2.1))).bind fun S6 => (hg_newa G S6 0 257).bind fun S7 => (hg_pf S7 (some o) 11 3 (va_rf (some S6.2.1))).bind fun S8 => (hg_newa G S8 0 257).bind fun S9 => (hg_pf S9 (some o) 11 4 (va_rf (some S8.2.1))).bind fun S10 => (hg_newa G S10 0 257).bind fun S11 => (hg_pf S11 (some o) 11 5 (va_rf (some S10.2.1))).bind fun S12 => (hg_newa G S12 0 257).bind fun S13 => (hg_pf S13 (some o) 11 6 (va_rf (some S12.2.1))).bind fun S14 => (hg_newa G S14 0 257).bind fun S15 => (hg_pf S15 (some o) 11 7 (va_rf (some S14.2.1))).bind fun S16 => some S16
set_option maxHeartbeats 4000000 in
set_option maxRecDepth 100000 in
/-- SignalEngine$Atlas.<init>()V -/
theorem hm_AT_init_ok (l : Launch) (D : va_G) (G : hg_E) (Z : hg_S) (o : Nat) (q : hg_S) (hq : hm_AT_init G Z o = some q) : hg_C l ⟨"SignalEngine$Atlas", "<init>", "()V"⟩ prog_3_method_1_code 1 none 1 20 D G [.ref o] Z (.inl (none, q) : hg_O) := by
  refine hg_start (cv := fun q => (.inl (none, q) : hg_O)) hq ?_
  intro F hF h
  refine hg_enter (lv := [(0, va_rf (some o))]) (by decide +kernel) (by simp [lg_sl, va_rf_cat, hg_cti, hg_ctr]) (by simp [lv_args, va_rf_cat, va_rf_some, hg_cti, hg_ctr]) ?_
  intro X hC hR
  show hg_G X l (hg_rm 1 20 Z) D 1 Z 0 [(0, va_rf (some o))] []
  have h : dc_wp (hm_AT_init G Z o) F := h
  delta hm_AT_init at h
  refine hg_aloadn (pc := 0) (j := 0) (i := 0) (r := (some o)) hC 0 rfl rfl (show decode prog_3_method_1_code 0 = .ok (.aload_n 0, 1) by decide +kernel) ?_
  refine hg_oi (pc := 1) (a := o) hC w_1319 w_40 w_41 (show decode prog_3_method_1_code 1 = .ok (.invokespecial 3, 3) by decide +kernel) (Nat.le_of_ble_eq_true rfl) (Nat.le_of_ble_eq_true rfl) ?_
  refine hg_aloadn (pc := 4) (j := 0) (i := 0) (r := (some o)) hC 0 rfl rfl (show decode prog_3_method_1_code 4 = .ok (.aload_n 0, 1) by decide +kernel) ?_
  refine hg_sipush (pc := 5) (v := 4112) hC (show decode prog_3_method_1_code 5 = .ok (.sipush 4112, 3) by decide +kernel) (by decide +kernel) ?_
  refine hg_rnewa (pc := 8) (t := 0) (atype := .int) hC rfl rfl (fun _ h9 => h9) rfl (by decide) w_197 (show decode prog_3_method_1_code 8 = .ok (.newarray .int, 2) by decide +kernel) h ?_
  intro S1 h
  refine hg_rputF (pc := 10) (r := (some o)) (v := va_rf (some Z.2.1)) hC hR fp_SignalEngine_Atlas_11 (hg_na _).1 (hg_na _).2 (show decode prog_3_method_1_code 10 = .ok (.putfield 11, 3) by decide +kernel) h ?_
  intro S2 h
  refine hg_aloadn (pc := 13) (j := 0) (i := 0) (r := (some o)) hC 0 rfl rfl (show decode prog_3_method_1_code 13 = .ok (.aload_n 0, 1) by decide +kernel) ?_
  refine hg_sipush (pc := 14) (v := 4112) hC (show decode prog_3_method_1_code 14 = .ok (.sipush 4112, 3) by decide +kernel) (by decide +kernel) ?_
  refine hg_rnewa (pc := 17) (t := 0) (atype := .int) hC rfl rfl (fun _ h9 => h9) rfl (by decide) w_197 (show decode prog_3_method_1_code 17 = .ok (.newarray .int, 2) by decide +kernel) h ?_
  intro S3 h
  refine hg_rputF (pc := 19) (r := (some o)) (v := va_rf (some S2.2.1)) hC hR fp_SignalEngine_Atlas_15 (hg_na _).1 (hg_na _).2 (show decode prog_3_method_1_code 19 = .ok (.putfield 15, 3) by decide +kernel) h ?_
  intro S4 h
  refine hg_aloadn (pc := 22) (j := 0) (i := 0) (r := (some o)) hC 0 rfl rfl (show decode prog_3_method_1_code 22 = .ok (.aload_n 0, 1) by decide +kernel) ?_
  refine hg_sipush (pc := 23) (v := 257) hC (show decode prog_3_method_1_code 23 = .ok (.sipush 257, 3) by decide +kernel) (by decide +kernel) ?_
  refine hg_rnewa (pc := 26) (t := 0) (atype := .int) hC rfl rfl (fun _ h9 => h9) rfl (by decide) w_197 (show decode prog_3_method_1_code 26 = .ok (.newarray .int, 2) by decide +kernel) h ?_
  intro S5 h
  refine hg_rputF (pc := 28) (r := (some o)) (v := va_rf (some S4.2.1)) hC hR fp_SignalEngine_Atlas_18 (hg_na _).1 (hg_na _).2 (show decode prog_3_method_1_code 28 = .ok (.putfield 18, 3) by decide +kernel) h ?_
  intro S6 h
  refine hg_aloadn (pc := 31) (j := 0) (i := 0) (r := (some o)) hC 0 rfl rfl (show decode prog_3_method_1_code 31 = .ok (.aload_n 0, 1) by decide +kernel) ?_
  refine hg_sipush (pc := 32) (v := 257) hC (show decode prog_3_method_1_code 32 = .ok (.sipush 257, 3) by decide +kernel) (by decide +kernel) ?_
  refine hg_rnewa (pc := 35) (t := 0) (atype := .int) hC rfl rfl (fun _ h9 => h9) rfl (by decide) w_197 (show decode prog_3_method_1_code 35 = .ok (.newarray .int, 2) by decide +kernel) h ?_
  intro S7 h
  refine hg_rputF (pc := 37) (r := (some o)) (v := va_rf (some S6.2.1)) hC hR fp_SignalEngine_Atlas_21 (hg_na _).1 (hg_na _).2 (show decode prog_3_method_1_code 37 = .ok (.putfield 21, 3) by decide +kernel) h ?_
  intro S8 h
  refine hg_aloadn (pc := 40) (j := 0) (i := 0) (r := (some o)) hC 0 rfl rfl (show decode prog_3_method_1_code 40 = .ok (.aload_n 0, 1) by decide +kernel) ?_
  refine hg_sipush (pc := 41) (v := 257) hC (show decode prog_3_method_1_code 41 = .ok (.sipush 257, 3) by decide +kernel) (by decide +kernel) ?_
  refine hg_rnewa (pc := 44) (t := 0) (atype := .int) hC rfl rfl (fun _ h9 => h9) rfl (by decide) w_197 (show decode prog_3_method_1_code 44 = .ok (.newarray .int, 2) by decide +kernel) h ?_
  intro S9 h
  refine hg_rputF (pc := 46) (r := (some o)) (v := va_rf (some S8.2.1)) hC hR fp_SignalEngine_Atlas_24 (hg_na _).1 (hg_na _).2 (show decode prog_3_method_1_code 46 = .ok (.putfield 24, 3) by decide +kernel) h ?_
  intro S10 h
  refine hg_aloadn (pc := 49) (j := 0) (i := 0) (r := (some o)) hC 0 rfl rfl (show decode prog_3_method_1_code 49 = .ok (.aload_n 0, 1) by decide +kernel) ?_
  refine hg_sipush (pc := 50) (v := 257) hC (show decode prog_3_method_1_code 50 = .ok (.sipush 257, 3) by decide +kernel) (by decide +kernel) ?_
  refine hg_rnewa (pc := 53) (t := 0) (atype := .int) hC rfl rfl (fun _ h9 => h9) rfl (by decide) w_197 (show decode prog_3_method_1_code 53 = .ok (.newarray .int, 2) by decide +kernel) h ?_
  intro S11 h
  refine hg_rputF (pc := 55) (r := (some o)) (v := va_rf (some S10.2.1)) hC hR fp_SignalEngine_Atlas_27 (hg_na _).1 (hg_na _).2 (show decode prog_3_method_1_code 55 = .ok (.putfield 27, 3) by decide +kernel) h ?_
  intro S12 h
  refine hg_aloadn (pc := 58) (j := 0) (i := 0) (r := (some o)) hC 0 rfl rfl (show decode prog_3_method_1_code 58 = .ok (.aload_n 0, 1) by decide +kernel) ?_
  refine hg_sipush (pc := 59) (v := 257) hC (show decode prog_3_method_1_code 59 = .ok (.sipush 257, 3) by decide +kernel) (by decide +kernel) ?_
  refine hg_rnewa (pc := 62) (t := 0) (atype := .int) hC rfl rfl (fun _ h9 => h9) rfl (by decide) w_197 (show decode prog_3_method_1_code 62 = .ok (.newarray .int, 2) by decide +kernel) h ?_
  intro S13 h
  refine hg_rputF (pc := 64) (r := (some o)) (v := va_rf (some S12.2.1)) hC hR fp_SignalEngine_Atlas_30 (hg_na _).1 (hg_na _).2 (show decode prog_3_method_1_code 64 = .ok (.putfield 30, 3) by decide +kernel) h ?_
  intro S14 h
  refine hg_aloadn (pc := 67) (j := 0) (i := 0) (r := (some o)) hC 0 rfl rfl (show decode prog_3_method_1_code 67 = .ok (.aload_n 0, 1) by decide +kernel) ?_
  refine hg_sipush (pc := 68) (v := 257) hC (show decode prog_3_method_1_code 68 = .ok (.sipush 257, 3) by decide +kernel) (by decide +kernel) ?_
  refine hg_rnewa (pc := 71) (t := 0) (atype := .int) hC rfl rfl (fun _ h9 => h9) rfl (by decide) w_197 (show decode prog_3_method_1_code 71 = .ok (.newarray .int, 2) by decide +kernel) h ?_
  intro S15 h
  refine hg_rputF (pc := 73) (r := (some o)) (v := va_rf (some S14.2.1)) hC hR fp_SignalEngine_Atlas_33 (hg_na _).1 (hg_na _).2 (show decode prog_3_method_1_code 73 = .ok (.putfield 33, 3) by decide +kernel) h ?_
  intro S16 h
  exact hg_vret (pc := 76) hC hR (hF _ (dc_some h)) (show decode prog_3_method_1_code 76 = .ok (.return_, 1) by decide +kernel)
noncomputable def hm_AT_meet_L22 (G : hg_E) (S : hg_S) (o : Nat) (x1 : Int32) (x2 : Int32) (x3 : Int32) (y0 : Int32) (y1 : Int32) (y2 : Option Nat) : Option (hg_S) :=
  (hg_st S y2 (G.1 0) y1 y0).bind fun S1 => (hg_gr S1 (some o) 11 3).bind fun e2 => (hg_st S1 e2 (G.1 0) x1 x2).bind fun S3 => (hg_gr S3 (some o) 11 4).bind fun e4 => (hg_st S3 e4 (G.1 0) x1 x3).bind fun S5 => (hg_gr S5 (some o) 11 5).bind fun e6 => (hg_gi S5 (some o) 11 9).bind fun e7 => (hg_st S5 e6 (G.1 0) e7 x1).bind fun S8 => (hg_gi S8 (some o) 11 9).bind fun e9 => (hg_pf S8 (some o) 11 9 (.int (e9 + 1))).bind fun S10 => some S10
noncomputable def hm_AT_meet (G : hg_E) (S : hg_S) (o : Nat) (p1 : Int32) (p2 : Int32) (p3 : Int32) : Option (hg_S) :=
  (hg_gr S (some o) 11 2).bind fun e11 => if p2 = (-1) then (hm_AT_meet_L22 G S o p1 p2 p3 0 p1 e11) else ((hg_gr S (some o) 11 2).bind fun e12 => (hg_ld S e12 (G.1 0) p2).bind fun e13 => hm_AT_meet_L22 G S o p1 p2 p3 (e13 + 1) p1 e11)
set_option maxHeartbeats 4000000 in
set_option maxRecDepth 100000 in
/-- SignalEngine$Atlas.meet(III)V -/
theorem hm_AT_meet_ok (l : Launch) (D : va_G) (G : hg_E) (Z : hg_S) (o : Nat) (p1 : Int32) (p2 : Int32) (p3 : Int32) (q : hg_S) (hq : hm_AT_meet G Z o p1 p2 p3 = some q) : hg_C l ⟨"SignalEngine$Atlas", "meet", "(III)V"⟩ prog_3_method_6_code 4 none 0 0 D G [.ref o, .int p1, .int p2, .int p3] Z (.inl (none, q) : hg_O) := by
  refine hg_start (cv := fun q => (.inl (none, q) : hg_O)) hq ?_
  intro F hF h
  refine hg_enter (lv := [(0, va_rf (some o)), (1, .int p1), (2, .int p2), (3, .int p3)]) (by decide +kernel) (by simp [lg_sl, va_rf_cat, hg_cti, hg_ctr]) (by simp [lv_args, va_rf_cat, va_rf_some, hg_cti, hg_ctr]) ?_
  intro X hC hR
  have lab_22 : ∀ (S : hg_S) (x1 : Int32) (x2 : Int32) (x3 : Int32) (y0 : Int32) (y1 : Int32) (y2 : Option Nat), dc_wp (hm_AT_meet_L22 G S o x1 x2 x3 y0 y1 y2) F → hg_G X l (hg_rm 0 0 Z) D 4 S 22 [(0, va_rf (some o)), (1, .int x1), (2, .int x2), (3, .int x3)] [.int y0, .int y1, va_rf y2] := by
    intro S x1 x2 x3 y0 y1 y2 h
    delta hm_AT_meet_L22 at h
    refine hg_riast (pc := 22) (r := y2) hC (show decode prog_3_method_6_code 22 = .ok (.iastore, 1) by decide +kernel) h ?_
    intro S1 h
    refine hg_aloadn (pc := 23) (j := 0) (i := 0) (r := (some o)) hC 0 rfl rfl (show decode prog_3_method_6_code 23 = .ok (.aload_n 0, 1) by decide +kernel) ?_
    refine hg_rgr (pc := 24) (r := (some o)) hC fl_SignalEngine_Atlas_21 (show decode prog_3_method_6_code 24 = .ok (.getfield 21, 3) by decide +kernel) h ?_
    intro e2 h
    refine hg_iloadn (pc := 27) (j := 1) (i := 1) hC 1 rfl rfl (show decode prog_3_method_6_code 27 = .ok (.iload_n 1, 1) by decide +kernel) ?_
    refine hg_iloadn (pc := 28) (j := 2) (i := 2) hC 2 rfl rfl (show decode prog_3_method_6_code 28 = .ok (.iload_n 2, 1) by decide +kernel) ?_
    refine hg_riast (pc := 29) (r := e2) hC (show decode prog_3_method_6_code 29 = .ok (.iastore, 1) by decide +kernel) h ?_
    intro S3 h
    refine hg_aloadn (pc := 30) (j := 0) (i := 0) (r := (some o)) hC 0 rfl rfl (show decode prog_3_method_6_code 30 = .ok (.aload_n 0, 1) by decide +kernel) ?_
    refine hg_rgr (pc := 31) (r := (some o)) hC fl_SignalEngine_Atlas_24 (show decode prog_3_method_6_code 31 = .ok (.getfield 24, 3) by decide +kernel) h ?_
    intro e4 h
    refine hg_iloadn (pc := 34) (j := 1) (i := 1) hC 1 rfl rfl (show decode prog_3_method_6_code 34 = .ok (.iload_n 1, 1) by decide +kernel) ?_
    refine hg_iloadn (pc := 35) (j := 3) (i := 3) hC 3 rfl rfl (show decode prog_3_method_6_code 35 = .ok (.iload_n 3, 1) by decide +kernel) ?_
    refine hg_riast (pc := 36) (r := e4) hC (show decode prog_3_method_6_code 36 = .ok (.iastore, 1) by decide +kernel) h ?_
    intro S5 h
    refine hg_aloadn (pc := 37) (j := 0) (i := 0) (r := (some o)) hC 0 rfl rfl (show decode prog_3_method_6_code 37 = .ok (.aload_n 0, 1) by decide +kernel) ?_
    refine hg_rgr (pc := 38) (r := (some o)) hC fl_SignalEngine_Atlas_27 (show decode prog_3_method_6_code 38 = .ok (.getfield 27, 3) by decide +kernel) h ?_
    intro e6 h
    refine hg_aloadn (pc := 41) (j := 0) (i := 0) (r := (some o)) hC 0 rfl rfl (show decode prog_3_method_6_code 41 = .ok (.aload_n 0, 1) by decide +kernel) ?_
    refine hg_rgi (pc := 42) (r := (some o)) hC fl_SignalEngine_Atlas_58 (show decode prog_3_method_6_code 42 = .ok (.getfield 58, 3) by decide +kernel) h ?_
    intro e7 h
    refine hg_iloadn (pc := 45) (j := 1) (i := 1) hC 1 rfl rfl (show decode prog_3_method_6_code 45 = .ok (.iload_n 1, 1) by decide +kernel) ?_
    refine hg_riast (pc := 46) (r := e6) hC (show decode prog_3_method_6_code 46 = .ok (.iastore, 1) by decide +kernel) h ?_
    intro S8 h
    refine hg_aloadn (pc := 47) (j := 0) (i := 0) (r := (some o)) hC 0 rfl rfl (show decode prog_3_method_6_code 47 = .ok (.aload_n 0, 1) by decide +kernel) ?_
    refine hg_dup (pc := 48) hC (show decode prog_3_method_6_code 48 = .ok (.dup, 1) by decide +kernel) rfl ?_
    refine hg_rgi (pc := 49) (r := (some o)) hC fl_SignalEngine_Atlas_58 (show decode prog_3_method_6_code 49 = .ok (.getfield 58, 3) by decide +kernel) h ?_
    intro e9 h
    refine hg_iconst (pc := 52) (v := 1) hC (show decode prog_3_method_6_code 52 = .ok (.iconst 1, 1) by decide +kernel) (by decide +kernel) ?_
    refine hg_iadd (pc := 53) hC (show decode prog_3_method_6_code 53 = .ok (.iadd, 1) by decide +kernel) ?_
    refine hg_rput (pc := 54) (r := (some o)) (v := .int (e9 + 1)) hC fp_SignalEngine_Atlas_58 rfl rfl (show decode prog_3_method_6_code 54 = .ok (.putfield 58, 3) by decide +kernel) h ?_
    intro S10 h
    exact hg_vret (pc := 57) hC hR (hF _ (dc_some h)) (show decode prog_3_method_6_code 57 = .ok (.return_, 1) by decide +kernel)
  show hg_G X l (hg_rm 0 0 Z) D 4 Z 0 [(0, va_rf (some o)), (1, .int p1), (2, .int p2), (3, .int p3)] []
  have h : dc_wp (hm_AT_meet G Z o p1 p2 p3) F := h
  delta hm_AT_meet at h
  refine hg_aloadn (pc := 0) (j := 0) (i := 0) (r := (some o)) hC 0 rfl rfl (show decode prog_3_method_6_code 0 = .ok (.aload_n 0, 1) by decide +kernel) ?_
  refine hg_rgr (pc := 1) (r := (some o)) hC fl_SignalEngine_Atlas_18 (show decode prog_3_method_6_code 1 = .ok (.getfield 18, 3) by decide +kernel) h ?_
  intro e11 h
  refine hg_iloadn (pc := 4) (j := 1) (i := 1) hC 1 rfl rfl (show decode prog_3_method_6_code 4 = .ok (.iload_n 1, 1) by decide +kernel) ?_
  refine hg_iloadn (pc := 5) (j := 2) (i := 2) hC 2 rfl rfl (show decode prog_3_method_6_code 5 = .ok (.iload_n 2, 1) by decide +kernel) ?_
  refine hg_iconst (pc := 6) (v := (-1)) hC (show decode prog_3_method_6_code 6 = .ok (.iconst (-1), 1) by decide +kernel) (by decide +kernel) ?_
  refine hg_icmp_ne (pc := 7) (tgt := 14) hC (show decode prog_3_method_6_code 7 = .ok (.if_icmp .ne 7, 3) by decide +kernel) (by decide +kernel) h ?_ ?_
  · intro h
    refine hg_iconst (pc := 10) (v := 0) hC (show decode prog_3_method_6_code 10 = .ok (.iconst 0, 1) by decide +kernel) (by decide +kernel) ?_
    refine hg_goto (pc := 11) (tgt := 22) hC (show decode prog_3_method_6_code 11 = .ok (.goto 11, 3) by decide +kernel) (by decide +kernel) ?_
    exact lab_22 Z p1 p2 p3 0 p1 e11 h
  · intro h
    refine hg_aloadn (pc := 14) (j := 0) (i := 0) (r := (some o)) hC 0 rfl rfl (show decode prog_3_method_6_code 14 = .ok (.aload_n 0, 1) by decide +kernel) ?_
    refine hg_rgr (pc := 15) (r := (some o)) hC fl_SignalEngine_Atlas_18 (show decode prog_3_method_6_code 15 = .ok (.getfield 18, 3) by decide +kernel) h ?_
    intro e12 h
    refine hg_iloadn (pc := 18) (j := 2) (i := 2) hC 2 rfl rfl (show decode prog_3_method_6_code 18 = .ok (.iload_n 2, 1) by decide +kernel) ?_
    refine hg_riald (pc := 19) (r := e12) hC (show decode prog_3_method_6_code 19 = .ok (.iaload, 1) by decide +kernel) h ?_
    intro e13 h
    refine hg_iconst (pc := 20) (v := 1) hC (show decode prog_3_method_6_code 20 = .ok (.iconst 1, 1) by decide +kernel) (by decide +kernel) ?_
    refine hg_iadd (pc := 21) hC (show decode prog_3_method_6_code 21 = .ok (.iadd, 1) by decide +kernel) ?_
    exact lab_22 Z p1 p2 p3 (e13 + 1) p1 e11 h
noncomputable def hm_AT_note_L125 (G : hg_E) (S : hg_S) (o : Nat) (x1 : Int32) (x6 : Int32) (y0 : Int32) (y1 : Int32) (y2 : Option Nat) : Option (hg_S) :=
  (hg_st S y2 (G.1 0) y1 y0).bind fun S1 => (hg_gr S1 (some o) 11 1).bind fun e2 => (hg_st S1 e2 (G.1 0) x1 x6).bind fun S3 => some S3
noncomputable def hm_AT_note_L107 (G : hg_E) (S : hg_S) (o : Nat) (x1 : Int32) (x2 : Int32) (x5 : Int32) (x6 : Int32) : Option (hg_S) :=
  (hg_gr S (some o) 11 0).bind fun e4 => if x2 = 1 then (hm_AT_note_L125 G S o x1 x6 257 x1 e4) else (hm_AT_note_L125 G S o x1 x6 x5 x1 e4)
noncomputable def hm_AT_note_b71 (G : hg_E) (S : hg_S) (o : Nat) (x1 : Int32) (x2 : Int32) (x3 : Option Nat) (x4 : Option Nat) (x5 : Int32) (x6 : Int32) (x7 : Int32) : Option ((Int32 × Int32) ⊕ ((Int32))) :=
  (hg_gi S x3 9 2).bind fun e5 => if x7 < e5 then ((hg_gr S x4 10 1).bind fun e6 => (hg_gi S x3 9 1).bind fun e7 => (hg_ld S e6 (G.1 0) (e7 + x7)).bind fun e8 => dc_let ((x6 ||| ((e8 <<< (x7 &&& (31 : Int32))))) : Int32) fun v9 => some (.inl (v9, (x7 + 1)))) else (some (.inr x6))
noncomputable def hm_AT_note_s71 (G : hg_E) (S : hg_S) (o : Nat) (x1 : Int32) (x2 : Int32) (x3 : Option Nat) (x4 : Option Nat) (x5 : Int32) (q : Int32 × Int32) : Option ((Int32 × Int32) ⊕ ((Int32))) :=
  hm_AT_note_b71 G S o x1 x2 x3 x4 x5 q.1 q.2
noncomputable def hm_AT_note_L71 (G : hg_E) (S : hg_S) (o : Nat) (x1 : Int32) (x2 : Int32) (x3 : Option Nat) (x4 : Option Nat) (x5 : Int32) (x6 : Int32) (x7 : Int32) : Option (hg_S) :=
  (dc_it (hm_AT_note_s71 G S o x1 x2 x3 x4 x5) (x6, x7)).bind (fun (z : Int32) => hm_AT_note_L107 G S o x1 x2 x5 z)
noncomputable def hm_AT_note_L65 (G : hg_E) (S : hg_S) (o : Nat) (x1 : Int32) (x2 : Int32) (x3 : Option Nat) (x4 : Option Nat) (x5 : Int32) : Option (hg_S) :=
  hm_AT_note_L71 G S o x1 x2 x3 x4 x5 0 0
noncomputable def hm_AT_note_L56 (G : hg_E) (S : hg_S) (o : Nat) (x1 : Int32) (x2 : Int32) (x3 : Option Nat) (x4 : Option Nat) (x6 : Int32) (y0 : Int32) (y1 : Int32) : Option ((Int32 × Int32) ⊕ ((Int32))) :=
  dc_let ((y1 ||| y0) : Int32) fun v10 => some (.inl (v10, (x6 + 1)))
noncomputable def hm_AT_note_b26 (G : hg_E) (S : hg_S) (o : Nat) (x1 : Int32) (x2 : Int32) (x3 : Option Nat) (x4 : Option Nat) (x5 : Int32) (x6 : Int32) : Option ((Int32 × Int32) ⊕ ((Int32))) :=
  (hg_gi S x3 9 3).bind fun e11 => if x6 < e11 then ((hg_gr S x4 10 11).bind fun e12 => (hg_ld S e12 (G.1 2) x6).bind fun e13 => if e13 = 0 then (hm_AT_note_L56 G S o x1 x2 x3 x4 x6 0 x5) else (hm_AT_note_L56 G S o x1 x2 x3 x4 x6 (((1 : Int32) <<< (x6 &&& (31 : Int32)))) x5)) else (some (.inr x5))
noncomputable def hm_AT_note_s26 (G : hg_E) (S : hg_S) (o : Nat) (x1 : Int32) (x2 : Int32) (x3 : Option Nat) (x4 : Option Nat) (q : Int32 × Int32) : Option ((Int32 × Int32) ⊕ ((Int32))) :=
  hm_AT_note_b26 G S o x1 x2 x3 x4 q.1 q.2
noncomputable def hm_AT_note_L26 (G : hg_E) (S : hg_S) (o : Nat) (x1 : Int32) (x2 : Int32) (x3 : Option Nat) (x4 : Option Nat) (x5 : Int32) (x6 : Int32) : Option (hg_S) :=
  (dc_it (hm_AT_note_s26 G S o x1 x2 x3 x4) (x5, x6)).bind (fun (z : Int32) => hm_AT_note_L65 G S o x1 x2 x3 x4 z)
noncomputable def hm_AT_note (G : hg_E) (S : hg_S) (o : Nat) (p1 : Int32) (p2 : Int32) (p3 : Option Nat) (p4 : Option Nat) : Option (hg_S) :=
  if p2 = 2 then ((hg_gr S (some o) 11 0).bind fun e14 => (hg_st S e14 (G.1 0) p1 (-1)).bind fun S15 => (hg_gr S15 (some o) 11 1).bind fun e16 => (hg_st S15 e16 (G.1 0) p1 (-1)).bind fun S17 => some S17) else (hm_AT_note_L26 G S o p1 p2 p3 p4 0 0)
set_option maxHeartbeats 4000000 in
set_option maxRecDepth 100000 in
/-- SignalEngine$Atlas.note(IILSignalEngine$Program;LSignalEngine$Reactor;)V -/
theorem hm_AT_note_ok (l : Launch) (D : va_G) (G : hg_E) (Z : hg_S) (o : Nat) (p1 : Int32) (p2 : Int32) (p3 : Option Nat) (p4 : Option Nat) (q : hg_S) (hq : hm_AT_note G Z o p1 p2 p3 p4 = some q) : hg_C l ⟨"SignalEngine$Atlas", "note", "(IILSignalEngine$Program;LSignalEngine$Reactor;)V"⟩ prog_3_method_8_code 8 none 0 0 D G [.ref o, .int p1, .int p2, va_rf p3, va_rf p4] Z (.inl (none, q) : hg_O) := by
  refine hg_start (cv := fun q => (.inl (none, q) : hg_O)) hq ?_
  intro F hF h
  refine hg_enter (lv := [(0, va_rf (some o)), (1, .int p1), (2, .int p2), (3, va_rf p3), (4, va_rf p4)]) (by decide +kernel) (by simp [lg_sl, va_rf_cat, hg_cti, hg_ctr]) (by simp [lv_args, va_rf_cat, va_rf_some, hg_cti, hg_ctr]) ?_
  intro X hC hR
  have lab_125 : ∀ (S : hg_S) (x1 : Int32) (x6 : Int32) (y0 : Int32) (y1 : Int32) (y2 : Option Nat), dc_wp (hm_AT_note_L125 G S o x1 x6 y0 y1 y2) F → hg_G X l (hg_rm 0 0 Z) D 8 S 125 [(0, va_rf (some o)), (1, .int x1), (6, .int x6)] [.int y0, .int y1, va_rf y2] := by
    intro S x1 x6 y0 y1 y2 h
    delta hm_AT_note_L125 at h
    refine hg_riast (pc := 125) (r := y2) hC (show decode prog_3_method_8_code 125 = .ok (.iastore, 1) by decide +kernel) h ?_
    intro S1 h
    refine hg_aloadn (pc := 126) (j := 0) (i := 0) (r := (some o)) hC 0 rfl rfl (show decode prog_3_method_8_code 126 = .ok (.aload_n 0, 1) by decide +kernel) ?_
    refine hg_rgr (pc := 127) (r := (some o)) hC fl_SignalEngine_Atlas_15 (show decode prog_3_method_8_code 127 = .ok (.getfield 15, 3) by decide +kernel) h ?_
    intro e2 h
    refine hg_iloadn (pc := 130) (j := 1) (i := 1) hC 1 rfl rfl (show decode prog_3_method_8_code 130 = .ok (.iload_n 1, 1) by decide +kernel) ?_
    refine hg_iload (pc := 131) (i := 6) hC 2 rfl (show decode prog_3_method_8_code 131 = .ok (.iload 6, 2) by decide +kernel) ?_
    refine hg_riast (pc := 133) (r := e2) hC (show decode prog_3_method_8_code 133 = .ok (.iastore, 1) by decide +kernel) h ?_
    intro S3 h
    exact hg_vret (pc := 134) hC hR (hF _ (dc_some h)) (show decode prog_3_method_8_code 134 = .ok (.return_, 1) by decide +kernel)
  have lab_107 : ∀ (S : hg_S) (x1 : Int32) (x2 : Int32) (x5 : Int32) (x6 : Int32), dc_wp (hm_AT_note_L107 G S o x1 x2 x5 x6) F → hg_G X l (hg_rm 0 0 Z) D 8 S 107 [(0, va_rf (some o)), (1, .int x1), (2, .int x2), (5, .int x5), (6, .int x6)] [] := by
    intro S x1 x2 x5 x6 h
    delta hm_AT_note_L107 at h
    refine hg_aloadn (pc := 107) (j := 0) (i := 0) (r := (some o)) hC 0 rfl rfl (show decode prog_3_method_8_code 107 = .ok (.aload_n 0, 1) by decide +kernel) ?_
    refine hg_rgr (pc := 108) (r := (some o)) hC fl_SignalEngine_Atlas_11 (show decode prog_3_method_8_code 108 = .ok (.getfield 11, 3) by decide +kernel) h ?_
    intro e4 h
    refine hg_iloadn (pc := 111) (j := 1) (i := 1) hC 1 rfl rfl (show decode prog_3_method_8_code 111 = .ok (.iload_n 1, 1) by decide +kernel) ?_
    refine hg_iloadn (pc := 112) (j := 2) (i := 2) hC 2 rfl rfl (show decode prog_3_method_8_code 112 = .ok (.iload_n 2, 1) by decide +kernel) ?_
    refine hg_iconst (pc := 113) (v := 1) hC (show decode prog_3_method_8_code 113 = .ok (.iconst 1, 1) by decide +kernel) (by decide +kernel) ?_
    refine hg_icmp_ne (pc := 114) (tgt := 123) hC (show decode prog_3_method_8_code 114 = .ok (.if_icmp .ne 9, 3) by decide +kernel) (by decide +kernel) h ?_ ?_
    · intro h
      refine hg_sipush (pc := 117) (v := 257) hC (show decode prog_3_method_8_code 117 = .ok (.sipush 257, 3) by decide +kernel) (by decide +kernel) ?_
      refine hg_goto (pc := 120) (tgt := 125) hC (show decode prog_3_method_8_code 120 = .ok (.goto 5, 3) by decide +kernel) (by decide +kernel) ?_
      exact hg_sub [0, 1, 4] rfl (lab_125 S x1 x6 257 x1 e4 h)
    · intro h
      refine hg_iload (pc := 123) (i := 5) hC 3 rfl (show decode prog_3_method_8_code 123 = .ok (.iload 5, 2) by decide +kernel) ?_
      exact hg_sub [0, 1, 4] rfl (lab_125 S x1 x6 x5 x1 e4 h)
  have loop_71 : ∀ (S : hg_S) (x1 : Int32) (x2 : Int32) (x3 : Option Nat) (x4 : Option Nat) (x5 : Int32) (q : Int32 × Int32), dc_wp (dc_it (hm_AT_note_s71 G S o x1 x2 x3 x4 x5) q) (fun z => dc_wp ((fun (z : Int32) => hm_AT_note_L107 G S o x1 x2 x5 z) z) F) → hg_G X l (hg_rm 0 0 Z) D 8 S 71 [(0, va_rf (some o)), (1, .int x1), (2, .int x2), (3, va_rf x3), (4, va_rf x4), (5, .int x5), (6, .int q.1), (7, .int q.2)] [] := by
    intro S x1 x2 x3 x4 x5
    refine dc_loopF ?_
    intro F_71 hl_71 hr_71
    rintro ⟨x6, x7⟩ h
    have h : dc_wp (hm_AT_note_b71 G S o x1 x2 x3 x4 x5 x6 x7) F_71 := h
    delta hm_AT_note_b71 at h
    refine hg_iload (pc := 71) (i := 7) hC 7 rfl (show decode prog_3_method_8_code 71 = .ok (.iload 7, 2) by decide +kernel) ?_
    refine hg_aloadn (pc := 73) (j := 3) (i := 3) (r := x3) hC 3 rfl rfl (show decode prog_3_method_8_code 73 = .ok (.aload_n 3, 1) by decide +kernel) ?_
    refine hg_rgi (pc := 74) (r := x3) hC fl_SignalEngine_Atlas_103 (show decode prog_3_method_8_code 74 = .ok (.getfield 103, 3) by decide +kernel) h ?_
    intro e5 h
    refine hg_icmp_ge (pc := 77) (tgt := 107) hC (show decode prog_3_method_8_code 77 = .ok (.if_icmp .ge 30, 3) by decide +kernel) (by decide +kernel) h ?_ ?_
    · intro h
      refine hg_iload (pc := 80) (i := 6) hC 6 rfl (show decode prog_3_method_8_code 80 = .ok (.iload 6, 2) by decide +kernel) ?_
      refine hg_aload (pc := 82) (i := 4) (r := x4) hC 4 rfl (show decode prog_3_method_8_code 82 = .ok (.aload 4, 2) by decide +kernel) ?_
      refine hg_rgr (pc := 84) (r := x4) hC fl_SignalEngine_Atlas_106 (show decode prog_3_method_8_code 84 = .ok (.getfield 106, 3) by decide +kernel) h ?_
      intro e6 h
      refine hg_aloadn (pc := 87) (j := 3) (i := 3) (r := x3) hC 3 rfl rfl (show decode prog_3_method_8_code 87 = .ok (.aload_n 3, 1) by decide +kernel) ?_
      refine hg_rgi (pc := 88) (r := x3) hC fl_SignalEngine_Atlas_49 (show decode prog_3_method_8_code 88 = .ok (.getfield 49, 3) by decide +kernel) h ?_
      intro e7 h
      refine hg_iload (pc := 91) (i := 7) hC 7 rfl (show decode prog_3_method_8_code 91 = .ok (.iload 7, 2) by decide +kernel) ?_
      refine hg_iadd (pc := 93) hC (show decode prog_3_method_8_code 93 = .ok (.iadd, 1) by decide +kernel) ?_
      refine hg_riald (pc := 94) (r := e6) hC (show decode prog_3_method_8_code 94 = .ok (.iaload, 1) by decide +kernel) h ?_
      intro e8 h
      refine hg_iload (pc := 95) (i := 7) hC 7 rfl (show decode prog_3_method_8_code 95 = .ok (.iload 7, 2) by decide +kernel) ?_
      refine hg_ishl (pc := 97) hC (show decode prog_3_method_8_code 97 = .ok (.ishl, 1) by decide +kernel) ?_
      refine hg_ior (pc := 98) hC (show decode prog_3_method_8_code 98 = .ok (.ior, 1) by decide +kernel) ?_
      refine hg_letI h ?_
      intro v9 h
      refine hg_istore (pc := 99) (i := 6) (lv' := [(6, .int v9), (0, va_rf (some o)), (1, .int x1), (2, .int x2), (3, va_rf x3), (4, va_rf x4), (5, .int x5), (7, .int x7)]) hC (Nat.le_of_ble_eq_true rfl) rfl (show decode prog_3_method_8_code 99 = .ok (.istore 6, 2) by decide +kernel) ?_
      refine hg_iinc (pc := 101) (i := 7) (v := (x7 + 1)) (lv' := [(7, .int (x7 + 1)), (6, .int v9), (0, va_rf (some o)), (1, .int x1), (2, .int x2), (3, va_rf x3), (4, va_rf x4), (5, .int x5)]) hC 7 rfl rfl (Nat.le_of_ble_eq_true rfl) rfl (show decode prog_3_method_8_code 101 = .ok (.iinc 7 1, 3) by decide +kernel) ?_
      refine hg_goto (pc := 104) (tgt := 71) hC (show decode prog_3_method_8_code 104 = .ok (.goto (-33), 3) by decide +kernel) (by decide +kernel) ?_
      exact hg_sub [2, 3, 4, 5, 6, 7, 1, 0] rfl (hl_71 (v9, (x7 + 1)) (dc_some h))
    · intro h
      have h : dc_wp (hm_AT_note_L107 G S o x1 x2 x5 x6) F := hr_71 x6 (dc_some h)
      exact hg_sub [0, 1, 2, 5, 6] rfl (lab_107 S x1 x2 x5 x6 h)
  have lab_71 : ∀ (S : hg_S) (x1 : Int32) (x2 : Int32) (x3 : Option Nat) (x4 : Option Nat) (x5 : Int32) (x6 : Int32) (x7 : Int32), dc_wp (hm_AT_note_L71 G S o x1 x2 x3 x4 x5 x6 x7) F → hg_G X l (hg_rm 0 0 Z) D 8 S 71 [(0, va_rf (some o)), (1, .int x1), (2, .int x2), (3, va_rf x3), (4, va_rf x4), (5, .int x5), (6, .int x6), (7, .int x7)] [] := fun S x1 x2 x3 x4 x5 x6 x7 h => loop_71 S x1 x2 x3 x4 x5 (x6, x7) (dc_bind h)
  have lab_65 : ∀ (S : hg_S) (x1 : Int32) (x2 : Int32) (x3 : Option Nat) (x4 : Option Nat) (x5 : Int32), dc_wp (hm_AT_note_L65 G S o x1 x2 x3 x4 x5) F → hg_G X l (hg_rm 0 0 Z) D 8 S 65 [(0, va_rf (some o)), (1, .int x1), (2, .int x2), (3, va_rf x3), (4, va_rf x4), (5, .int x5)] [] := by
    intro S x1 x2 x3 x4 x5 h
    delta hm_AT_note_L65 at h
    refine hg_iconst (pc := 65) (v := 0) hC (show decode prog_3_method_8_code 65 = .ok (.iconst 0, 1) by decide +kernel) (by decide +kernel) ?_
    refine hg_istore (pc := 66) (i := 6) (lv' := [(6, .int 0), (0, va_rf (some o)), (1, .int x1), (2, .int x2), (3, va_rf x3), (4, va_rf x4), (5, .int x5)]) hC (Nat.le_of_ble_eq_true rfl) rfl (show decode prog_3_method_8_code 66 = .ok (.istore 6, 2) by decide +kernel) ?_
    refine hg_iconst (pc := 68) (v := 0) hC (show decode prog_3_method_8_code 68 = .ok (.iconst 0, 1) by decide +kernel) (by decide +kernel) ?_
    refine hg_istore (pc := 69) (i := 7) (lv' := [(7, .int 0), (6, .int 0), (0, va_rf (some o)), (1, .int x1), (2, .int x2), (3, va_rf x3), (4, va_rf x4), (5, .int x5)]) hC (Nat.le_of_ble_eq_true rfl) rfl (show decode prog_3_method_8_code 69 = .ok (.istore 7, 2) by decide +kernel) ?_
    exact hg_sub [2, 3, 4, 5, 6, 7, 1, 0] rfl (lab_71 S x1 x2 x3 x4 x5 0 0 h)
  have loop_26 : ∀ (S : hg_S) (x1 : Int32) (x2 : Int32) (x3 : Option Nat) (x4 : Option Nat) (q : Int32 × Int32), dc_wp (dc_it (hm_AT_note_s26 G S o x1 x2 x3 x4) q) (fun z => dc_wp ((fun (z : Int32) => hm_AT_note_L65 G S o x1 x2 x3 x4 z) z) F) → hg_G X l (hg_rm 0 0 Z) D 8 S 26 [(0, va_rf (some o)), (1, .int x1), (2, .int x2), (3, va_rf x3), (4, va_rf x4), (5, .int q.1), (6, .int q.2)] [] := by
    intro S x1 x2 x3 x4
    refine dc_loopF ?_
    intro F_26 hl_26 hr_26
    have lab_56 : ∀ (x6 : Int32) (y0 : Int32) (y1 : Int32), dc_wp (hm_AT_note_L56 G S o x1 x2 x3 x4 x6 y0 y1) F_26 → hg_G X l (hg_rm 0 0 Z) D 8 S 56 [(0, va_rf (some o)), (1, .int x1), (2, .int x2), (3, va_rf x3), (4, va_rf x4), (6, .int x6)] [.int y0, .int y1] := by
      intro x6 y0 y1 h
      delta hm_AT_note_L56 at h
      refine hg_ior (pc := 56) hC (show decode prog_3_method_8_code 56 = .ok (.ior, 1) by decide +kernel) ?_
      refine hg_letI h ?_
      intro v10 h
      refine hg_istore (pc := 57) (i := 5) (lv' := [(5, .int v10), (0, va_rf (some o)), (1, .int x1), (2, .int x2), (3, va_rf x3), (4, va_rf x4), (6, .int x6)]) hC (Nat.le_of_ble_eq_true rfl) (by simp [va_rf_cat, hg_cti]) (show decode prog_3_method_8_code 57 = .ok (.istore 5, 2) by decide +kernel) ?_
      refine hg_iinc (pc := 59) (i := 6) (v := (x6 + 1)) (lv' := [(6, .int (x6 + 1)), (5, .int v10), (0, va_rf (some o)), (1, .int x1), (2, .int x2), (3, va_rf x3), (4, va_rf x4)]) hC 6 rfl rfl (Nat.le_of_ble_eq_true rfl) rfl (show decode prog_3_method_8_code 59 = .ok (.iinc 6 1, 3) by decide +kernel) ?_
      refine hg_goto (pc := 62) (tgt := 26) hC (show decode prog_3_method_8_code 62 = .ok (.goto (-36), 3) by decide +kernel) (by decide +kernel) ?_
      exact hg_sub [2, 3, 4, 5, 6, 1, 0] rfl (hl_26 (v10, (x6 + 1)) (dc_some h))
    rintro ⟨x5, x6⟩ h
    have h : dc_wp (hm_AT_note_b26 G S o x1 x2 x3 x4 x5 x6) F_26 := h
    delta hm_AT_note_b26 at h
    refine hg_iload (pc := 26) (i := 6) hC 6 rfl (show decode prog_3_method_8_code 26 = .ok (.iload 6, 2) by decide +kernel) ?_
    refine hg_aloadn (pc := 28) (j := 3) (i := 3) (r := x3) hC 3 rfl rfl (show decode prog_3_method_8_code 28 = .ok (.aload_n 3, 1) by decide +kernel) ?_
    refine hg_rgi (pc := 29) (r := x3) hC fl_SignalEngine_Atlas_44 (show decode prog_3_method_8_code 29 = .ok (.getfield 44, 3) by decide +kernel) h ?_
    intro e11 h
    refine hg_icmp_ge (pc := 32) (tgt := 65) hC (show decode prog_3_method_8_code 32 = .ok (.if_icmp .ge 33, 3) by decide +kernel) (by decide +kernel) h ?_ ?_
    · intro h
      refine hg_iload (pc := 35) (i := 5) hC 5 rfl (show decode prog_3_method_8_code 35 = .ok (.iload 5, 2) by decide +kernel) ?_
      refine hg_aload (pc := 37) (i := 4) (r := x4) hC 4 rfl (show decode prog_3_method_8_code 37 = .ok (.aload 4, 2) by decide +kernel) ?_
      refine hg_rgr (pc := 39) (r := x4) hC fl_SignalEngine_Atlas_99 (show decode prog_3_method_8_code 39 = .ok (.getfield 99, 3) by decide +kernel) h ?_
      intro e12 h
      refine hg_iload (pc := 42) (i := 6) hC 6 rfl (show decode prog_3_method_8_code 42 = .ok (.iload 6, 2) by decide +kernel) ?_
      refine hg_rzald (pc := 44) (r := e12) hC (show decode prog_3_method_8_code 44 = .ok (.baload, 1) by decide +kernel) h ?_
      intro e13 h
      refine hg_if_eq (pc := 45) (tgt := 55) hC (show decode prog_3_method_8_code 45 = .ok (.ifCond .eq 10, 3) by decide +kernel) (by decide +kernel) h ?_ ?_
      · intro h
        refine hg_iconst (pc := 55) (v := 0) hC (show decode prog_3_method_8_code 55 = .ok (.iconst 0, 1) by decide +kernel) (by decide +kernel) ?_
        exact hg_sub [0, 1, 2, 3, 4, 6] rfl (lab_56 x6 0 x5 h)
      · intro h
        refine hg_iconst (pc := 48) (v := 1) hC (show decode prog_3_method_8_code 48 = .ok (.iconst 1, 1) by decide +kernel) (by decide +kernel) ?_
        refine hg_iload (pc := 49) (i := 6) hC 6 rfl (show decode prog_3_method_8_code 49 = .ok (.iload 6, 2) by decide +kernel) ?_
        refine hg_ishl (pc := 51) hC (show decode prog_3_method_8_code 51 = .ok (.ishl, 1) by decide +kernel) ?_
        refine hg_goto (pc := 52) (tgt := 56) hC (show decode prog_3_method_8_code 52 = .ok (.goto 4, 3) by decide +kernel) (by decide +kernel) ?_
        exact hg_sub [0, 1, 2, 3, 4, 6] rfl (lab_56 x6 (((1 : Int32) <<< (x6 &&& (31 : Int32)))) x5 h)
    · intro h
      have h : dc_wp (hm_AT_note_L65 G S o x1 x2 x3 x4 x5) F := hr_26 x5 (dc_some h)
      exact hg_sub [0, 1, 2, 3, 4, 5] rfl (lab_65 S x1 x2 x3 x4 x5 h)
  have lab_26 : ∀ (S : hg_S) (x1 : Int32) (x2 : Int32) (x3 : Option Nat) (x4 : Option Nat) (x5 : Int32) (x6 : Int32), dc_wp (hm_AT_note_L26 G S o x1 x2 x3 x4 x5 x6) F → hg_G X l (hg_rm 0 0 Z) D 8 S 26 [(0, va_rf (some o)), (1, .int x1), (2, .int x2), (3, va_rf x3), (4, va_rf x4), (5, .int x5), (6, .int x6)] [] := fun S x1 x2 x3 x4 x5 x6 h => loop_26 S x1 x2 x3 x4 (x5, x6) (dc_bind h)
  show hg_G X l (hg_rm 0 0 Z) D 8 Z 0 [(0, va_rf (some o)), (1, .int p1), (2, .int p2), (3, va_rf p3), (4, va_rf p4)] []
  have h : dc_wp (hm_AT_note G Z o p1 p2 p3 p4) F := h
  delta hm_AT_note at h
  refine hg_iloadn (pc := 0) (j := 2) (i := 2) hC 2 rfl rfl (show decode prog_3_method_8_code 0 = .ok (.iload_n 2, 1) by decide +kernel) ?_
  refine hg_iconst (pc := 1) (v := 2) hC (show decode prog_3_method_8_code 1 = .ok (.iconst 2, 1) by decide +kernel) (by decide +kernel) ?_
  refine hg_icmp_ne (pc := 2) (tgt := 20) hC (show decode prog_3_method_8_code 2 = .ok (.if_icmp .ne 18, 3) by decide +kernel) (by decide +kernel) h ?_ ?_
  · intro h
    refine hg_aloadn (pc := 5) (j := 0) (i := 0) (r := (some o)) hC 0 rfl rfl (show decode prog_3_method_8_code 5 = .ok (.aload_n 0, 1) by decide +kernel) ?_
    refine hg_rgr (pc := 6) (r := (some o)) hC fl_SignalEngine_Atlas_11 (show decode prog_3_method_8_code 6 = .ok (.getfield 11, 3) by decide +kernel) h ?_
    intro e14 h
    refine hg_iloadn (pc := 9) (j := 1) (i := 1) hC 1 rfl rfl (show decode prog_3_method_8_code 9 = .ok (.iload_n 1, 1) by decide +kernel) ?_
    refine hg_iconst (pc := 10) (v := (-1)) hC (show decode prog_3_method_8_code 10 = .ok (.iconst (-1), 1) by decide +kernel) (by decide +kernel) ?_
    refine hg_riast (pc := 11) (r := e14) hC (show decode prog_3_method_8_code 11 = .ok (.iastore, 1) by decide +kernel) h ?_
    intro S15 h
    refine hg_aloadn (pc := 12) (j := 0) (i := 0) (r := (some o)) hC 0 rfl rfl (show decode prog_3_method_8_code 12 = .ok (.aload_n 0, 1) by decide +kernel) ?_
    refine hg_rgr (pc := 13) (r := (some o)) hC fl_SignalEngine_Atlas_15 (show decode prog_3_method_8_code 13 = .ok (.getfield 15, 3) by decide +kernel) h ?_
    intro e16 h
    refine hg_iloadn (pc := 16) (j := 1) (i := 1) hC 1 rfl rfl (show decode prog_3_method_8_code 16 = .ok (.iload_n 1, 1) by decide +kernel) ?_
    refine hg_iconst (pc := 17) (v := (-1)) hC (show decode prog_3_method_8_code 17 = .ok (.iconst (-1), 1) by decide +kernel) (by decide +kernel) ?_
    refine hg_riast (pc := 18) (r := e16) hC (show decode prog_3_method_8_code 18 = .ok (.iastore, 1) by decide +kernel) h ?_
    intro S17 h
    exact hg_vret (pc := 19) hC hR (hF _ (dc_some h)) (show decode prog_3_method_8_code 19 = .ok (.return_, 1) by decide +kernel)
  · intro h
    refine hg_iconst (pc := 20) (v := 0) hC (show decode prog_3_method_8_code 20 = .ok (.iconst 0, 1) by decide +kernel) (by decide +kernel) ?_
    refine hg_istore (pc := 21) (i := 5) (lv' := [(5, .int 0), (0, va_rf (some o)), (1, .int p1), (2, .int p2), (3, va_rf p3), (4, va_rf p4)]) hC (Nat.le_of_ble_eq_true rfl) (by simp [va_rf_cat, hg_cti]) (show decode prog_3_method_8_code 21 = .ok (.istore 5, 2) by decide +kernel) ?_
    refine hg_iconst (pc := 23) (v := 0) hC (show decode prog_3_method_8_code 23 = .ok (.iconst 0, 1) by decide +kernel) (by decide +kernel) ?_
    refine hg_istore (pc := 24) (i := 6) (lv' := [(6, .int 0), (5, .int 0), (0, va_rf (some o)), (1, .int p1), (2, .int p2), (3, va_rf p3), (4, va_rf p4)]) hC (Nat.le_of_ble_eq_true rfl) rfl (show decode prog_3_method_8_code 24 = .ok (.istore 6, 2) by decide +kernel) ?_
    exact hg_sub [2, 3, 4, 5, 6, 1, 0] rfl (lab_26 Z p1 p2 p3 p4 0 0 h)
