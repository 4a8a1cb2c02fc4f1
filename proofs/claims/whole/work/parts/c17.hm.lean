noncomputable def hm_NT_turned_L29 (G : hg_E) (S : hg_S) (x2 : Int32) : Option (Int32) :=
  some x2
noncomputable def hm_NT_turned_b4 (G : hg_E) (S : hg_S) (x0 : Int32) (x1 : Int32) (x2 : Int32) (x3 : Int32) : Option ((Int32 × Int32) ⊕ ((Int32))) :=
  if x3 < x1 then (dc_let ((x2 ||| (((((((Int32.toUInt32 x0 >>> (Int32.toUInt32 x3 &&& Int32.toUInt32 31)).toInt32)) &&& 1)) <<< (((x1 - 1) - x3) &&& (31 : Int32))))) : Int32) fun v1 => some (.inl (v1, (x3 + 1)))) else (some (.inr x2))
noncomputable def hm_NT_turned_s4 (G : hg_E) (S : hg_S) (x0 : Int32) (x1 : Int32) (q : Int32 × Int32) : Option ((Int32 × Int32) ⊕ ((Int32))) :=
  hm_NT_turned_b4 G S x0 x1 q.1 q.2
noncomputable def hm_NT_turned_L4 (G : hg_E) (S : hg_S) (x0 : Int32) (x1 : Int32) (x2 : Int32) (x3 : Int32) : Option (Int32) :=
  (dc_it (hm_NT_turned_s4 G S x0 x1) (x2, x3)).bind (fun (z : Int32) => hm_NT_turned_L29 G S z)
noncomputable def hm_NT_turned (G : hg_E) (S : hg_S) (p0 : Int32) (p1 : Int32) : Option (Int32) :=
  hm_NT_turned_L4 G S p0 p1 0 0
set_option maxHeartbeats 4000000 in
set_option maxRecDepth 100000 in
/-- SignalEngine$Net.turned(II)I -/
theorem hm_NT_turned_ok (l : Launch) (D : va_G) (G : hg_E) (Z : hg_S) (p0 : Int32) (p1 : Int32) (q : Int32) (hq : hm_NT_turned G Z p0 p1 = some q) : hg_C l ⟨"SignalEngine$Net", "turned", "(II)I"⟩ prog_7_method_5_code 4 (some (.int)) 0 0 D G [.int p0, .int p1] Z (.inl (some (.int q), Z) : hg_O) := by
  refine hg_start (cv := fun q => (.inl (some (.int q), Z) : hg_O)) hq ?_
  intro F hF h
  refine hg_enter (lv := [(0, .int p0), (1, .int p1)]) (by decide +kernel) (by simp [lg_sl, va_rf_cat, hg_cti, hg_ctr]) (by simp [lv_args, va_rf_cat, va_rf_some, hg_cti, hg_ctr]) ?_
  intro X hC hR
  have lab_29 : ∀ (x2 : Int32), dc_wp (hm_NT_turned_L29 G Z x2) F → hg_G X l (hg_rm 0 0 Z) D 4 Z 29 [(2, .int x2)] [] := by
    intro x2 h
    delta hm_NT_turned_L29 at h
    refine hg_iloadn (pc := 29) (j := 2) (i := 2) hC 0 rfl rfl (show decode prog_7_method_5_code 29 = .ok (.iload_n 2, 1) by decide +kernel) ?_
    exact hg_iret (pc := 30) hC hR (hF _ (dc_some h)) (show decode prog_7_method_5_code 30 = .ok (.ireturn, 1) by decide +kernel)
  have loop_4 : ∀ (x0 : Int32) (x1 : Int32) (q : Int32 × Int32), dc_wp (dc_it (hm_NT_turned_s4 G Z x0 x1) q) (fun z => dc_wp ((fun (z : Int32) => hm_NT_turned_L29 G Z z) z) F) → hg_G X l (hg_rm 0 0 Z) D 4 Z 4 [(0, .int x0), (1, .int x1), (2, .int q.1), (3, .int q.2)] [] := by
    intro x0 x1
    refine dc_loopF ?_
    intro F_4 hl_4 hr_4
    rintro ⟨x2, x3⟩ h
    have h : dc_wp (hm_NT_turned_b4 G Z x0 x1 x2 x3) F_4 := h
    delta hm_NT_turned_b4 at h
    refine hg_iloadn (pc := 4) (j := 3) (i := 3) hC 3 rfl rfl (show decode prog_7_method_5_code 4 = .ok (.iload_n 3, 1) by decide +kernel) ?_
    refine hg_iloadn (pc := 5) (j := 1) (i := 1) hC 1 rfl rfl (show decode prog_7_method_5_code 5 = .ok (.iload_n 1, 1) by decide +kernel) ?_
    refine hg_icmp_ge (pc := 6) (tgt := 29) hC (show decode prog_7_method_5_code 6 = .ok (.if_icmp .ge 23, 3) by decide +kernel) (by decide +kernel) h ?_ ?_
    · intro h
      refine hg_iloadn (pc := 9) (j := 2) (i := 2) hC 2 rfl rfl (show decode prog_7_method_5_code 9 = .ok (.iload_n 2, 1) by decide +kernel) ?_
      refine hg_iloadn (pc := 10) (j := 0) (i := 0) hC 0 rfl rfl (show decode prog_7_method_5_code 10 = .ok (.iload_n 0, 1) by decide +kernel) ?_
      refine hg_iloadn (pc := 11) (j := 3) (i := 3) hC 3 rfl rfl (show decode prog_7_method_5_code 11 = .ok (.iload_n 3, 1) by decide +kernel) ?_
      refine hg_iushr (pc := 12) hC (show decode prog_7_method_5_code 12 = .ok (.iushr, 1) by decide +kernel) ?_
      refine hg_iconst (pc := 13) (v := 1) hC (show decode prog_7_method_5_code 13 = .ok (.iconst 1, 1) by decide +kernel) (by decide +kernel) ?_
      refine hg_iand (pc := 14) hC (show decode prog_7_method_5_code 14 = .ok (.iand, 1) by decide +kernel) ?_
      refine hg_iloadn (pc := 15) (j := 1) (i := 1) hC 1 rfl rfl (show decode prog_7_method_5_code 15 = .ok (.iload_n 1, 1) by decide +kernel) ?_
      refine hg_iconst (pc := 16) (v := 1) hC (show decode prog_7_method_5_code 16 = .ok (.iconst 1, 1) by decide +kernel) (by decide +kernel) ?_
      refine hg_isub (pc := 17) hC (show decode prog_7_method_5_code 17 = .ok (.isub, 1) by decide +kernel) ?_
      refine hg_iloadn (pc := 18) (j := 3) (i := 3) hC 3 rfl rfl (show decode prog_7_method_5_code 18 = .ok (.iload_n 3, 1) by decide +kernel) ?_
      refine hg_isub (pc := 19) hC (show decode prog_7_method_5_code 19 = .ok (.isub, 1) by decide +kernel) ?_
      refine hg_ishl (pc := 20) hC (show decode prog_7_method_5_code 20 = .ok (.ishl, 1) by decide +kernel) ?_
      refine hg_ior (pc := 21) hC (show decode prog_7_method_5_code 21 = .ok (.ior, 1) by decide +kernel) ?_
      refine hg_letI h ?_
      intro v1 h
      refine hg_istoren (pc := 22) (j := 2) (i := 2) (lv' := [(2, .int v1), (0, .int x0), (1, .int x1), (3, .int x3)]) hC rfl (Nat.le_of_ble_eq_true rfl) rfl (show decode prog_7_method_5_code 22 = .ok (.istore_n 2, 1) by decide +kernel) ?_
      refine hg_iinc (pc := 23) (i := 3) (v := (x3 + 1)) (lv' := [(3, .int (x3 + 1)), (2, .int v1), (0, .int x0), (1, .int x1)]) hC 3 rfl rfl (Nat.le_of_ble_eq_true rfl) rfl (show decode prog_7_method_5_code 23 = .ok (.iinc 3 1, 3) by decide +kernel) ?_
      refine hg_goto (pc := 26) (tgt := 4) hC (show decode prog_7_method_5_code 26 = .ok (.goto (-22), 3) by decide +kernel) (by decide +kernel) ?_
      exact hg_sub [2, 3, 1, 0] rfl (hl_4 (v1, (x3 + 1)) (dc_some h))
    · intro h
      have h : dc_wp (hm_NT_turned_L29 G Z x2) F := hr_4 x2 (dc_some h)
      exact hg_sub [2] rfl (lab_29 x2 h)
  have lab_4 : ∀ (x0 : Int32) (x1 : Int32) (x2 : Int32) (x3 : Int32), dc_wp (hm_NT_turned_L4 G Z x0 x1 x2 x3) F → hg_G X l (hg_rm 0 0 Z) D 4 Z 4 [(0, .int x0), (1, .int x1), (2, .int x2), (3, .int x3)] [] := fun x0 x1 x2 x3 h => loop_4 x0 x1 (x2, x3) (dc_bind h)
  show hg_G X l (hg_rm 0 0 Z) D 4 Z 0 [(0, .int p0), (1, .int p1)] []
  have h : dc_wp (hm_NT_turned G Z p0 p1) F := h
  delta hm_NT_turned at h
  refine hg_iconst (pc := 0) (v := 0) hC (show decode prog_7_method_5_code 0 = .ok (.iconst 0, 1) by decide +kernel) (by decide +kernel) ?_
  refine hg_istoren (pc := 1) (j := 2) (i := 2) (lv' := [(2, .int 0), (0, .int p0), (1, .int p1)]) hC rfl (Nat.le_of_ble_eq_true rfl) rfl (show decode prog_7_method_5_code 1 = .ok (.istore_n 2, 1) by decide +kernel) ?_
  refine hg_iconst (pc := 2) (v := 0) hC (show decode prog_7_method_5_code 2 = .ok (.iconst 0, 1) by decide +kernel) (by decide +kernel) ?_
  refine hg_istoren (pc := 3) (j := 3) (i := 3) (lv' := [(3, .int 0), (2, .int 0), (0, .int p0), (1, .int p1)]) hC rfl (Nat.le_of_ble_eq_true rfl) rfl (show decode prog_7_method_5_code 3 = .ok (.istore_n 3, 1) by decide +kernel) ?_
  exact hg_sub [2, 3, 1, 0] rfl (lab_4 p0 p1 0 0 h)
noncomputable def hm_NT_truth_L119 (G : hg_E) (S : hg_S) (o : Nat) (y0 : Int32) : Option (Int32) :=
  some y0
noncomputable def hm_NT_truth_L92 (G : hg_E) (S : hg_S) (o : Nat) (y0 : Int32) : Option (Int32) :=
  some y0
noncomputable def hm_NT_truth_L70 (G : hg_E) (S : hg_S) (o : Nat) (x1 : Int32) (x4 : Option Nat) (x5 : Int32) (y0 : Int32) : Option (Int32) :=
  (hg_gi S (some o) 12 13).bind fun e1 => if x1 = (e1 - 1) then (if y0 = 0 then (hm_NT_truth_L92 G S o 0) else (hm_NT_truth_L92 G S o 1)) else (if y0 = 0 then ((hg_gr S x4 11 0).bind fun e2 => (hg_ld S e2 (G.1 0) x5).bind fun e3 => (hg_gi S (some o) 12 11).bind fun e4 => hm_NT_truth_L119 G S o (((((Int32.toUInt32 e3 >>> (Int32.toUInt32 (x1 - e4) &&& Int32.toUInt32 31)).toInt32)) &&& 1))) else (hm_NT_truth_L119 G S o 0))
noncomputable def hm_NT_truth_L28 (G : hg_E) (S : hg_S) (o : Nat) : Option (Int32) :=
  some 0
noncomputable def hm_NT_truth (G : hg_E) (S : hg_S) (o : Nat) (p1 : Int32) (p2 : Int32) (p3 : Int32) (p4 : Option Nat) : Option (Int32) :=
  (hm_AT_cell G S p2 p3).bind fun q5 => (hg_chk S p4 11).bind fun b6 => (hm_AT_reaches G S b6 p2).bind fun q9 => if q9 = 0 then (hm_NT_truth_L28 G S o) else ((hg_gr S p4 11 0).bind fun e10 => (hg_ld S e10 (G.1 0) q5).bind fun e11 => if e11 = (-1) then (hm_NT_truth_L28 G S o) else ((hg_gi S (some o) 12 11).bind fun e12 => if p1 < e12 then ((hg_gr S p4 11 1).bind fun e13 => (hg_ld S e13 (G.1 0) q5).bind fun e14 => some (((((Int32.toUInt32 e14 >>> (Int32.toUInt32 p1 &&& Int32.toUInt32 31)).toInt32)) &&& 1))) else ((hg_gr S p4 11 0).bind fun e15 => (hg_ld S e15 (G.1 0) q5).bind fun e16 => if e16 = 257 then (hm_NT_truth_L70 G S o p1 p4 q5 1) else (hm_NT_truth_L70 G S o p1 p4 q5 0))))
set_option maxHeartbeats 4000000 in
set_option maxRecDepth 100000 in
/-- SignalEngine$Net.truth(IIILSignalEngine$Atlas;)I -/
theorem hm_NT_truth_ok (l : Launch) (D : va_G) (G : hg_E) (Z : hg_S) (o : Nat) (p1 : Int32) (p2 : Int32) (p3 : Int32) (p4 : Option Nat) (q : Int32) (hq : hm_NT_truth G Z o p1 p2 p3 p4 = some q) : hg_C l ⟨"SignalEngine$Net", "truth", "(IIILSignalEngine$Atlas;)I"⟩ prog_7_method_6_code 7 (some (.int)) 1 21 D G [.ref o, .int p1, .int p2, .int p3, va_rf p4] Z (.inl (some (.int q), Z) : hg_O) := by
  refine hg_start (cv := fun q => (.inl (some (.int q), Z) : hg_O)) hq ?_
  intro F hF h
  refine hg_enter (lv := [(0, va_rf (some o)), (1, .int p1), (2, .int p2), (3, .int p3), (4, va_rf p4)]) (by decide +kernel) (by simp [lg_sl, va_rf_cat, hg_cti, hg_ctr]) (by simp [lv_args, va_rf_cat, va_rf_some, hg_cti, hg_ctr]) ?_
  intro X hC hR
  have lab_119 : ∀ (y0 : Int32), dc_wp (hm_NT_truth_L119 G Z o y0) F → hg_G X l (hg_rm 1 21 Z) D 7 Z 119 [(0, va_rf (some o))] [.int y0] := by
    intro y0 h
    delta hm_NT_truth_L119 at h
    exact hg_iret (pc := 119) hC hR (hF _ (dc_some h)) (show decode prog_7_method_6_code 119 = .ok (.ireturn, 1) by decide +kernel)
  have lab_92 : ∀ (y0 : Int32), dc_wp (hm_NT_truth_L92 G Z o y0) F → hg_G X l (hg_rm 1 21 Z) D 7 Z 92 [(0, va_rf (some o))] [.int y0] := by
    intro y0 h
    delta hm_NT_truth_L92 at h
    exact hg_iret (pc := 92) hC hR (hF _ (dc_some h)) (show decode prog_7_method_6_code 92 = .ok (.ireturn, 1) by decide +kernel)
  have lab_70 : ∀ (x1 : Int32) (x4 : Option Nat) (x5 : Int32) (y0 : Int32), dc_wp (hm_NT_truth_L70 G Z o x1 x4 x5 y0) F → hg_G X l (hg_rm 1 21 Z) D 7 Z 70 [(0, va_rf (some o)), (1, .int x1), (4, va_rf x4), (5, .int x5)] [.int y0] := by
    intro x1 x4 x5 y0 h
    delta hm_NT_truth_L70 at h
    refine hg_istore (pc := 70) (i := 6) (lv' := [(6, .int y0), (0, va_rf (some o)), (1, .int x1), (4, va_rf x4), (5, .int x5)]) hC (Nat.le_of_ble_eq_true rfl) rfl (show decode prog_7_method_6_code 70 = .ok (.istore 6, 2) by decide +kernel) ?_
    refine hg_iloadn (pc := 72) (j := 1) (i := 1) hC 2 rfl rfl (show decode prog_7_method_6_code 72 = .ok (.iload_n 1, 1) by decide +kernel) ?_
    refine hg_aloadn (pc := 73) (j := 0) (i := 0) (r := (some o)) hC 1 rfl rfl (show decode prog_7_method_6_code 73 = .ok (.aload_n 0, 1) by decide +kernel) ?_
    refine hg_rgi (pc := 74) (r := (some o)) hC fl_SignalEngine_Net_66 (show decode prog_7_method_6_code 74 = .ok (.getfield 66, 3) by decide +kernel) h ?_
    intro e1 h
    refine hg_iconst (pc := 77) (v := 1) hC (show decode prog_7_method_6_code 77 = .ok (.iconst 1, 1) by decide +kernel) (by decide +kernel) ?_
    refine hg_isub (pc := 78) hC (show decode prog_7_method_6_code 78 = .ok (.isub, 1) by decide +kernel) ?_
    refine hg_icmp_ne (pc := 79) (tgt := 93) hC (show decode prog_7_method_6_code 79 = .ok (.if_icmp .ne 14, 3) by decide +kernel) (by decide +kernel) h ?_ ?_
    · intro h
      refine hg_iload (pc := 82) (i := 6) hC 0 rfl (show decode prog_7_method_6_code 82 = .ok (.iload 6, 2) by decide +kernel) ?_
      refine hg_if_eq (pc := 84) (tgt := 91) hC (show decode prog_7_method_6_code 84 = .ok (.ifCond .eq 7, 3) by decide +kernel) (by decide +kernel) h ?_ ?_
      · intro h
        refine hg_iconst (pc := 91) (v := 0) hC (show decode prog_7_method_6_code 91 = .ok (.iconst 0, 1) by decide +kernel) (by decide +kernel) ?_
        exact hg_sub [1] rfl (lab_92 0 h)
      · intro h
        refine hg_iconst (pc := 87) (v := 1) hC (show decode prog_7_method_6_code 87 = .ok (.iconst 1, 1) by decide +kernel) (by decide +kernel) ?_
        refine hg_goto (pc := 88) (tgt := 92) hC (show decode prog_7_method_6_code 88 = .ok (.goto 4, 3) by decide +kernel) (by decide +kernel) ?_
        exact hg_sub [1] rfl (lab_92 1 h)
    · intro h
      refine hg_iload (pc := 93) (i := 6) hC 0 rfl (show decode prog_7_method_6_code 93 = .ok (.iload 6, 2) by decide +kernel) ?_
      refine hg_if_eq (pc := 95) (tgt := 102) hC (show decode prog_7_method_6_code 95 = .ok (.ifCond .eq 7, 3) by decide +kernel) (by decide +kernel) h ?_ ?_
      · intro h
        refine hg_aload (pc := 102) (i := 4) (r := x4) hC 3 rfl (show decode prog_7_method_6_code 102 = .ok (.aload 4, 2) by decide +kernel) ?_
        refine hg_rgr (pc := 104) (r := x4) hC fl_SignalEngine_Net_94 (show decode prog_7_method_6_code 104 = .ok (.getfield 94, 3) by decide +kernel) h ?_
        intro e2 h
        refine hg_iload (pc := 107) (i := 5) hC 4 rfl (show decode prog_7_method_6_code 107 = .ok (.iload 5, 2) by decide +kernel) ?_
        refine hg_riald (pc := 109) (r := e2) hC (show decode prog_7_method_6_code 109 = .ok (.iaload, 1) by decide +kernel) h ?_
        intro e3 h
        refine hg_iloadn (pc := 110) (j := 1) (i := 1) hC 2 rfl rfl (show decode prog_7_method_6_code 110 = .ok (.iload_n 1, 1) by decide +kernel) ?_
        refine hg_aloadn (pc := 111) (j := 0) (i := 0) (r := (some o)) hC 1 rfl rfl (show decode prog_7_method_6_code 111 = .ok (.aload_n 0, 1) by decide +kernel) ?_
        refine hg_rgi (pc := 112) (r := (some o)) hC fl_SignalEngine_Net_61 (show decode prog_7_method_6_code 112 = .ok (.getfield 61, 3) by decide +kernel) h ?_
        intro e4 h
        refine hg_isub (pc := 115) hC (show decode prog_7_method_6_code 115 = .ok (.isub, 1) by decide +kernel) ?_
        refine hg_iushr (pc := 116) hC (show decode prog_7_method_6_code 116 = .ok (.iushr, 1) by decide +kernel) ?_
        refine hg_iconst (pc := 117) (v := 1) hC (show decode prog_7_method_6_code 117 = .ok (.iconst 1, 1) by decide +kernel) (by decide +kernel) ?_
        refine hg_iand (pc := 118) hC (show decode prog_7_method_6_code 118 = .ok (.iand, 1) by decide +kernel) ?_
        exact hg_sub [1] rfl (lab_119 (((((Int32.toUInt32 e3 >>> (Int32.toUInt32 (x1 - e4) &&& Int32.toUInt32 31)).toInt32)) &&& 1)) h)
      · intro h
        refine hg_iconst (pc := 98) (v := 0) hC (show decode prog_7_method_6_code 98 = .ok (.iconst 0, 1) by decide +kernel) (by decide +kernel) ?_
        refine hg_goto (pc := 99) (tgt := 119) hC (show decode prog_7_method_6_code 99 = .ok (.goto 20, 3) by decide +kernel) (by decide +kernel) ?_
        exact hg_sub [1] rfl (lab_119 0 h)
  have lab_28 : dc_wp (hm_NT_truth_L28 G Z o) F → hg_G X l (hg_rm 1 21 Z) D 7 Z 28 [(0, va_rf (some o))] [] := by
    intro  h
    delta hm_NT_truth_L28 at h
    refine hg_iconst (pc := 28) (v := 0) hC (show decode prog_7_method_6_code 28 = .ok (.iconst 0, 1) by decide +kernel) (by decide +kernel) ?_
    exact hg_iret (pc := 29) hC hR (hF _ (dc_some h)) (show decode prog_7_method_6_code 29 = .ok (.ireturn, 1) by decide +kernel)
  show hg_G X l (hg_rm 1 21 Z) D 7 Z 0 [(0, va_rf (some o)), (1, .int p1), (2, .int p2), (3, .int p3), (4, va_rf p4)] []
  have h : dc_wp (hm_NT_truth G Z o p1 p2 p3 p4) F := h
  delta hm_NT_truth at h
  refine hg_iloadn (pc := 0) (j := 2) (i := 2) hC 2 rfl rfl (show decode prog_7_method_6_code 0 = .ok (.iload_n 2, 1) by decide +kernel) ?_
  refine hg_iloadn (pc := 1) (j := 3) (i := 3) hC 3 rfl rfl (show decode prog_7_method_6_code 1 = .ok (.iload_n 3, 1) by decide +kernel) ?_
  refine hg_kSi (pc := 2) (As := [.int p2, .int p3]) (rest := []) (vo := fun q => q) (so := fun q => Z) hC cw_SignalEngine_Net_85 (fun q hq => hm_AT_cell_ok l D G Z p2 p3 q hq) (Nat.le_of_ble_eq_true rfl) (Nat.le_of_ble_eq_true rfl) rfl (Nat.le_of_ble_eq_true rfl) (show decode prog_7_method_6_code 2 = .ok (.invokestatic 85, 3) by decide +kernel) h ?_
  intro q5 h
  refine hg_istore (pc := 5) (i := 5) (lv' := [(5, .int q5), (0, va_rf (some o)), (1, .int p1), (2, .int p2), (3, .int p3), (4, va_rf p4)]) hC (Nat.le_of_ble_eq_true rfl) (by simp [va_rf_cat, hg_cti]) (show decode prog_7_method_6_code 5 = .ok (.istore 5, 2) by decide +kernel) ?_
  refine hg_aload (pc := 7) (i := 4) (r := p4) hC 5 rfl (show decode prog_7_method_6_code 7 = .ok (.aload 4, 2) by decide +kernel) ?_
  refine hg_iloadn (pc := 9) (j := 2) (i := 2) hC 3 rfl rfl (show decode prog_7_method_6_code 9 = .ok (.iload_n 2, 1) by decide +kernel) ?_
  obtain ⟨b6, hb7, h⟩ := dc_bind h
  obtain ⟨hb7, hv8⟩ := hg_chk_of (C := R_AT) rfl hb7
  refine hg_kVi (pc := 10) (b := b6) (r := p4) (As := [.int p2]) (rest := []) (vo := fun q => q) (so := fun q => Z) hC cw_SignalEngine_Net_90 (fun q hq => hm_AT_reaches_ok l D G Z b6 p2 q hq) (Nat.le_of_ble_eq_true rfl) (Nat.le_of_ble_eq_true rfl) hb7 hv8 rfl (Nat.le_of_ble_eq_true rfl) (show decode prog_7_method_6_code 10 = .ok (.invokevirtual 90, 3) by decide +kernel) h ?_
  intro q9 h
  refine hg_if_eq (pc := 13) (tgt := 28) hC (show decode prog_7_method_6_code 13 = .ok (.ifCond .eq 15, 3) by decide +kernel) (by decide +kernel) h ?_ ?_
  · intro h
    exact hg_sub [1] rfl (lab_28 h)
  · intro h
    refine hg_aload (pc := 16) (i := 4) (r := p4) hC 5 rfl (show decode prog_7_method_6_code 16 = .ok (.aload 4, 2) by decide +kernel) ?_
    refine hg_rgr (pc := 18) (r := p4) hC fl_SignalEngine_Net_94 (show decode prog_7_method_6_code 18 = .ok (.getfield 94, 3) by decide +kernel) h ?_
    intro e10 h
    refine hg_iload (pc := 21) (i := 5) hC 0 rfl (show decode prog_7_method_6_code 21 = .ok (.iload 5, 2) by decide +kernel) ?_
    refine hg_riald (pc := 23) (r := e10) hC (show decode prog_7_method_6_code 23 = .ok (.iaload, 1) by decide +kernel) h ?_
    intro e11 h
    refine hg_iconst (pc := 24) (v := (-1)) hC (show decode prog_7_method_6_code 24 = .ok (.iconst (-1), 1) by decide +kernel) (by decide +kernel) ?_
    refine hg_icmp_ne (pc := 25) (tgt := 30) hC (show decode prog_7_method_6_code 25 = .ok (.if_icmp .ne 5, 3) by decide +kernel) (by decide +kernel) h ?_ ?_
    · intro h
      exact hg_sub [1] rfl (lab_28 h)
    · intro h
      refine hg_iloadn (pc := 30) (j := 1) (i := 1) hC 2 rfl rfl (show decode prog_7_method_6_code 30 = .ok (.iload_n 1, 1) by decide +kernel) ?_
      refine hg_aloadn (pc := 31) (j := 0) (i := 0) (r := (some o)) hC 1 rfl rfl (show decode prog_7_method_6_code 31 = .ok (.aload_n 0, 1) by decide +kernel) ?_
      refine hg_rgi (pc := 32) (r := (some o)) hC fl_SignalEngine_Net_61 (show decode prog_7_method_6_code 32 = .ok (.getfield 61, 3) by decide +kernel) h ?_
      intro e12 h
      refine hg_icmp_ge (pc := 35) (tgt := 51) hC (show decode prog_7_method_6_code 35 = .ok (.if_icmp .ge 16, 3) by decide +kernel) (by decide +kernel) h ?_ ?_
      · intro h
        refine hg_aload (pc := 38) (i := 4) (r := p4) hC 5 rfl (show decode prog_7_method_6_code 38 = .ok (.aload 4, 2) by decide +kernel) ?_
        refine hg_rgr (pc := 40) (r := p4) hC fl_SignalEngine_Net_97 (show decode prog_7_method_6_code 40 = .ok (.getfield 97, 3) by decide +kernel) h ?_
        intro e13 h
        refine hg_iload (pc := 43) (i := 5) hC 0 rfl (show decode prog_7_method_6_code 43 = .ok (.iload 5, 2) by decide +kernel) ?_
        refine hg_riald (pc := 45) (r := e13) hC (show decode prog_7_method_6_code 45 = .ok (.iaload, 1) by decide +kernel) h ?_
        intro e14 h
        refine hg_iloadn (pc := 46) (j := 1) (i := 1) hC 2 rfl rfl (show decode prog_7_method_6_code 46 = .ok (.iload_n 1, 1) by decide +kernel) ?_
        refine hg_iushr (pc := 47) hC (show decode prog_7_method_6_code 47 = .ok (.iushr, 1) by decide +kernel) ?_
        refine hg_iconst (pc := 48) (v := 1) hC (show decode prog_7_method_6_code 48 = .ok (.iconst 1, 1) by decide +kernel) (by decide +kernel) ?_
        refine hg_iand (pc := 49) hC (show decode prog_7_method_6_code 49 = .ok (.iand, 1) by decide +kernel) ?_
        exact hg_iret (pc := 50) hC hR (hF _ (dc_some h)) (show decode prog_7_method_6_code 50 = .ok (.ireturn, 1) by decide +kernel)
      · intro h
        refine hg_aload (pc := 51) (i := 4) (r := p4) hC 5 rfl (show decode prog_7_method_6_code 51 = .ok (.aload 4, 2) by decide +kernel) ?_
        refine hg_rgr (pc := 53) (r := p4) hC fl_SignalEngine_Net_94 (show decode prog_7_method_6_code 53 = .ok (.getfield 94, 3) by decide +kernel) h ?_
        intro e15 h
        refine hg_iload (pc := 56) (i := 5) hC 0 rfl (show decode prog_7_method_6_code 56 = .ok (.iload 5, 2) by decide +kernel) ?_
        refine hg_riald (pc := 58) (r := e15) hC (show decode prog_7_method_6_code 58 = .ok (.iaload, 1) by decide +kernel) h ?_
        intro e16 h
        refine hg_sipush (pc := 59) (v := 257) hC (show decode prog_7_method_6_code 59 = .ok (.sipush 257, 3) by decide +kernel) (by decide +kernel) ?_
        refine hg_icmp_ne (pc := 62) (tgt := 69) hC (show decode prog_7_method_6_code 62 = .ok (.if_icmp .ne 7, 3) by decide +kernel) (by decide +kernel) h ?_ ?_
        · intro h
          refine hg_iconst (pc := 65) (v := 1) hC (show decode prog_7_method_6_code 65 = .ok (.iconst 1, 1) by decide +kernel) (by decide +kernel) ?_
          refine hg_goto (pc := 66) (tgt := 70) hC (show decode prog_7_method_6_code 66 = .ok (.goto 4, 3) by decide +kernel) (by decide +kernel) ?_
          exact hg_sub [1, 2, 5, 0] rfl (lab_70 p1 p4 q5 1 h)
        · intro h
          refine hg_iconst (pc := 69) (v := 0) hC (show decode prog_7_method_6_code 69 = .ok (.iconst 0, 1) by decide +kernel) (by decide +kernel) ?_
          exact hg_sub [1, 2, 5, 0] rfl (lab_70 p1 p4 q5 0 h)
noncomputable def hm_NT_widen (G : hg_E) (S : hg_S) (o : Nat) (p1 : Int32) : Option (hg_S) :=
  (hg_gr S (some o) 12 4).bind fun e1 => (hm_JA_copyOf G S e1 p1).bind fun q2 => (hg_pf q2.1 (some o) 12 4 (va_rf q2.2)).bind fun S3 => (hg_gr S3 (some o) 12 5).bind fun e4 => (hm_JA_copyOf G S3 e4 p1).bind fun q5 => (hg_pf q5.1 (some o) 12 5 (va_rf q5.2)).bind fun S6 => (hg_gr S6 (some o) 12 6).bind fun e7 => (hm_JA_copyOf G S6 e7 p1).bind fun q8 => (hg_pf q8.1 (some o) 12 6 (va_rf q8.2)).bind fun S9 => (hg_gr S9 (some o) 12 7).bind fun e10 => (hm_JA_copyOf G S9 e10 p1).bind fun q11 => (hg_pf q11.1 (some o) 12 7 (va_rf q11.2)).bind fun S12 => (hg_gr S12 (some o) 12 8).bind fun e13 => (hm_JA_copyOf G S12 e13 p1).bind fun q14 => (hg_pf q14.1 (some o) 12 8 (va_rf q14.2)).bind fun S15 => some S15
set_option maxHeartbeats 4000000 in
set_option maxRecDepth 100000 in
/-- SignalEngine$Net.widen(I)V -/
theorem hm_NT_widen_ok (l : Launch) (D : va_G) (G : hg_E) (Z : hg_S) (o : Nat) (p1 : Int32) (q : hg_S) (hq : hm_NT_widen G Z o p1 = some q) : hg_C l ⟨"SignalEngine$Net", "widen", "(I)V"⟩ prog_7_method_9_code 2 none 2 43 D G [.ref o, .int p1] Z (.inl (none, q) : hg_O) := by
  refine hg_start (cv := fun q => (.inl (none, q) : hg_O)) hq ?_
  intro F hF h
  refine hg_enter (lv := [(0, va_rf (some o)), (1, .int p1)]) (by decide +kernel) (by simp [lg_sl, va_rf_cat, hg_cti, hg_ctr]) (by simp [lv_args, va_rf_cat, va_rf_some, hg_cti, hg_ctr]) ?_
  intro X hC hR
  show hg_G X l (hg_rm 2 43 Z) D 2 Z 0 [(0, va_rf (some o)), (1, .int p1)] []
  have h : dc_wp (hm_NT_widen G Z o p1) F := h
  delta hm_NT_widen at h
  refine hg_aloadn (pc := 0) (j := 0) (i := 0) (r := (some o)) hC 0 rfl rfl (show decode prog_7_method_9_code 0 = .ok (.aload_n 0, 1) by decide +kernel) ?_
  refine hg_aloadn (pc := 1) (j := 0) (i := 0) (r := (some o)) hC 0 rfl rfl (show decode prog_7_method_9_code 1 = .ok (.aload_n 0, 1) by decide +kernel) ?_
  refine hg_rgr (pc := 2) (r := (some o)) hC fl_SignalEngine_Net_24 (show decode prog_7_method_9_code 2 = .ok (.getfield 24, 3) by decide +kernel) h ?_
  intro e1 h
  refine hg_iloadn (pc := 5) (j := 1) (i := 1) hC 1 rfl rfl (show decode prog_7_method_9_code 5 = .ok (.iload_n 1, 1) by decide +kernel) ?_
  refine hg_kSr (pc := 6) (As := [va_rf e1, .int p1]) (rest := [va_rf (some o)]) (vo := fun q => q.2) (so := fun q => q.1) hC cw_SignalEngine_Net_108 (fun q hq => hm_JA_copyOf_ok l D G Z e1 p1 q hq) (Nat.le_of_ble_eq_true rfl) (Nat.le_of_ble_eq_true rfl) rfl (Nat.le_of_ble_eq_true rfl) (show decode prog_7_method_9_code 6 = .ok (.invokestatic 108, 3) by decide +kernel) h ?_
  intro q2 h
  refine hg_rput (pc := 9) (r := (some o)) (v := va_rf q2.2) hC fp_SignalEngine_Net_24 (hg_na _).1 (hg_na _).2 (show decode prog_7_method_9_code 9 = .ok (.putfield 24, 3) by decide +kernel) h ?_
  intro S3 h
  refine hg_aloadn (pc := 12) (j := 0) (i := 0) (r := (some o)) hC 0 rfl rfl (show decode prog_7_method_9_code 12 = .ok (.aload_n 0, 1) by decide +kernel) ?_
  refine hg_aloadn (pc := 13) (j := 0) (i := 0) (r := (some o)) hC 0 rfl rfl (show decode prog_7_method_9_code 13 = .ok (.aload_n 0, 1) by decide +kernel) ?_
  refine hg_rgr (pc := 14) (r := (some o)) hC fl_SignalEngine_Net_27 (show decode prog_7_method_9_code 14 = .ok (.getfield 27, 3) by decide +kernel) h ?_
  intro e4 h
  refine hg_iloadn (pc := 17) (j := 1) (i := 1) hC 1 rfl rfl (show decode prog_7_method_9_code 17 = .ok (.iload_n 1, 1) by decide +kernel) ?_
  refine hg_kSr (pc := 18) (As := [va_rf e4, .int p1]) (rest := [va_rf (some o)]) (vo := fun q => q.2) (so := fun q => q.1) hC cw_SignalEngine_Net_108 (fun q hq => hm_JA_copyOf_ok l D G S3 e4 p1 q hq) (Nat.le_of_ble_eq_true rfl) (Nat.le_of_ble_eq_true rfl) rfl (Nat.le_of_ble_eq_true rfl) (show decode prog_7_method_9_code 18 = .ok (.invokestatic 108, 3) by decide +kernel) h ?_
  intro q5 h
  refine hg_rput (pc := 21) (r := (some o)) (v := va_rf q5.2) hC fp_SignalEngine_Net_27 (hg_na _).1 (hg_na _).2 (show decode prog_7_method_9_code 21 = .ok (.putfield 27, 3) by decide +kernel) h ?_
  intro S6 h
  refine hg_aloadn (pc := 24) (j := 0) (i := 0) (r := (some o)) hC 0 rfl rfl (show decode prog_7_method_9_code 24 = .ok (.aload_n 0, 1) by decide +kernel) ?_
  refine hg_aloadn (pc := 25) (j := 0) (i := 0) (r := (some o)) hC 0 rfl rfl (show decode prog_7_method_9_code 25 = .ok (.aload_n 0, 1) by decide +kernel) ?_
  refine hg_rgr (pc := 26) (r := (some o)) hC fl_SignalEngine_Net_30 (show decode prog_7_method_9_code 26 = .ok (.getfield 30, 3) by decide +kernel) h ?_
  intro e7 h
  refine hg_iloadn (pc := 29) (j := 1) (i := 1) hC 1 rfl rfl (show decode prog_7_method_9_code 29 = .ok (.iload_n 1, 1) by decide +kernel) ?_
  refine hg_kSr (pc := 30) (As := [va_rf e7, .int p1]) (rest := [va_rf (some o)]) (vo := fun q => q.2) (so := fun q => q.1) hC cw_SignalEngine_Net_108 (fun q hq => hm_JA_copyOf_ok l D G S6 e7 p1 q hq) (Nat.le_of_ble_eq_true rfl) (Nat.le_of_ble_eq_true rfl) rfl (Nat.le_of_ble_eq_true rfl) (show decode prog_7_method_9_code 30 = .ok (.invokestatic 108, 3) by decide +kernel) h ?_
  intro q8 h
  refine hg_rput (pc := 33) (r := (some o)) (v := va_rf q8.2) hC fp_SignalEngine_Net_30 (hg_na _).1 (hg_na _).2 (show decode prog_7_method_9_code 33 = .ok (.putfield 30, 3) by decide +kernel) h ?_
  intro S9 h
  refine hg_aloadn (pc := 36) (j := 0) (i := 0) (r := (some o)) hC 0 rfl rfl (show decode prog_7_method_9_code 36 = .ok (.aload_n 0, 1) by decide +kernel) ?_
  refine hg_aloadn (pc := 37) (j := 0) (i := 0) (r := (some o)) hC 0 rfl rfl (show decode prog_7_method_9_code 37 = .ok (.aload_n 0, 1) by decide +kernel) ?_
  refine hg_rgr (pc := 38) (r := (some o)) hC fl_SignalEngine_Net_33 (show decode prog_7_method_9_code 38 = .ok (.getfield 33, 3) by decide +kernel) h ?_
  intro e10 h
  refine hg_iloadn (pc := 41) (j := 1) (i := 1) hC 1 rfl rfl (show decode prog_7_method_9_code 41 = .ok (.iload_n 1, 1) by decide +kernel) ?_
  refine hg_kSr (pc := 42) (As := [va_rf e10, .int p1]) (rest := [va_rf (some o)]) (vo := fun q => q.2) (so := fun q => q.1) hC cw_SignalEngine_Net_108 (fun q hq => hm_JA_copyOf_ok l D G S9 e10 p1 q hq) (Nat.le_of_ble_eq_true rfl) (Nat.le_of_ble_eq_true rfl) rfl (Nat.le_of_ble_eq_true rfl) (show decode prog_7_method_9_code 42 = .ok (.invokestatic 108, 3) by decide +kernel) h ?_
  intro q11 h
  refine hg_rput (pc := 45) (r := (some o)) (v := va_rf q11.2) hC fp_SignalEngine_Net_33 (hg_na _).1 (hg_na _).2 (show decode prog_7_method_9_code 45 = .ok (.putfield 33, 3) by decide +kernel) h ?_
  intro S12 h
  refine hg_aloadn (pc := 48) (j := 0) (i := 0) (r := (some o)) hC 0 rfl rfl (show decode prog_7_method_9_code 48 = .ok (.aload_n 0, 1) by decide +kernel) ?_
  refine hg_aloadn (pc := 49) (j := 0) (i := 0) (r := (some o)) hC 0 rfl rfl (show decode prog_7_method_9_code 49 = .ok (.aload_n 0, 1) by decide +kernel) ?_
  refine hg_rgr (pc := 50) (r := (some o)) hC fl_SignalEngine_Net_36 (show decode prog_7_method_9_code 50 = .ok (.getfield 36, 3) by decide +kernel) h ?_
  intro e13 h
  refine hg_iloadn (pc := 53) (j := 1) (i := 1) hC 1 rfl rfl (show decode prog_7_method_9_code 53 = .ok (.iload_n 1, 1) by decide +kernel) ?_
  refine hg_kSr (pc := 54) (As := [va_rf e13, .int p1]) (rest := [va_rf (some o)]) (vo := fun q => q.2) (so := fun q => q.1) hC cw_SignalEngine_Net_108 (fun q hq => hm_JA_copyOf_ok l D G S12 e13 p1 q hq) (Nat.le_of_ble_eq_true rfl) (Nat.le_of_ble_eq_true rfl) rfl (Nat.le_of_ble_eq_true rfl) (show decode prog_7_method_9_code 54 = .ok (.invokestatic 108, 3) by decide +kernel) h ?_
  intro q14 h
  refine hg_rput (pc := 57) (r := (some o)) (v := va_rf q14.2) hC fp_SignalEngine_Net_36 (hg_na _).1 (hg_na _).2 (show decode prog_7_method_9_code 57 = .ok (.putfield 36, 3) by decide +kernel) h ?_
  intro S15 h
  exact hg_vret (pc := 60) hC hR (hF _ (dc_some h)) (show decode prog_7_method_9_code 60 = .ok (.return_, 1) by decide +kernel)
noncomputable def hm_NT_add_L22 (G : hg_E) (S : hg_S) (o : Nat) (x1 : Int32) (x2 : Int32) (x3 : Int32) (x4 : Int32) : Option (hg_S × Int32) :=
  (hg_gr S (some o) 12 4).bind fun e1 => (hg_gi S (some o) 12 9).bind fun e2 => (hg_st S e1 (G.1 0) e2 x1).bind fun S3 => (hg_gr S3 (some o) 12 5).bind fun e4 => (hg_gi S3 (some o) 12 9).bind fun e5 => (hg_st S3 e4 (G.1 0) e5 x2).bind fun S6 => (hg_gr S6 (some o) 12 6).bind fun e7 => (hg_gi S6 (some o) 12 9).bind fun e8 => (hg_st S6 e7 (G.1 0) e8 x3).bind fun S9 => (hg_gr S9 (some o) 12 7).bind fun e10 => (hg_gi S9 (some o) 12 9).bind fun e11 => (hg_gr S9 (some o) 12 1).bind fun e12 => (hg_ld S9 e12 (G.1 0) x4).bind fun e13 => (hg_st S9 e10 (G.1 0) e11 e13).bind fun S14 => (hg_gr S14 (some o) 12 1).bind fun e15 => (hg_gi S14 (some o) 12 9).bind fun e16 => (hg_st S14 e15 (G.1 0) x4 e16).bind fun S17 => (hg_gr S17 (some o) 12 2).bind fun e18 => (hg_ld S17 e18 (G.1 0) x1).bind fun e19 => (hg_st S17 e18 (G.1 0) x1 (e19 + 1)).bind fun S20 => (hg_gi S20 (some o) 12 9).bind fun e21 => (hg_pf S20 (some o) 12 9 (.int (e21 + 1))).bind fun S22 => (hg_gi S22 (some o) 12 9).bind fun e23 => some (S22, (e23 - 1))
noncomputable def hm_NT_add (G : hg_E) (S : hg_S) (o : Nat) (p1 : Int32) (p2 : Int32) (p3 : Int32) (p4 : Int32) : Option (hg_S × Int32) :=
  (hg_gi S (some o) 12 9).bind fun e24 => (hg_gr S (some o) 12 4).bind fun e25 => (hg_ln S e25 (G.1 0)).bind fun e26 => if e24 = e26 then ((hg_gi S (some o) 12 9).bind fun e27 => (hg_chk S (some o) 12).bind fun b28 => (hm_NT_widen G S b28 (2 * e27)).bind fun q31 => hm_NT_add_L22 G q31 o p1 p2 p3 p4) else (hm_NT_add_L22 G S o p1 p2 p3 p4)
set_option maxHeartbeats 4000000 in
set_option maxRecDepth 100000 in
/-- SignalEngine$Net.add(IIII)I -/
theorem hm_NT_add_ok (l : Launch) (D : va_G) (G : hg_E) (Z : hg_S) (o : Nat) (p1 : Int32) (p2 : Int32) (p3 : Int32) (p4 : Int32) (q : hg_S × Int32) (hq : hm_NT_add G Z o p1 p2 p3 p4 = some q) : hg_C l ⟨"SignalEngine$Net", "add", "(IIII)I"⟩ prog_7_method_8_code 5 (some (.int)) 3 64 D G [.ref o, .int p1, .int p2, .int p3, .int p4] Z (.inl (some (.int q.2), q.1) : hg_O) := by
  refine hg_start (cv := fun q => (.inl (some (.int q.2), q.1) : hg_O)) hq ?_
  intro F hF h
  refine hg_enter (lv := [(0, va_rf (some o)), (1, .int p1), (2, .int p2), (3, .int p3), (4, .int p4)]) (by decide +kernel) (by simp [lg_sl, va_rf_cat, hg_cti, hg_ctr]) (by simp [lv_args, va_rf_cat, va_rf_some, hg_cti, hg_ctr]) ?_
  intro X hC hR
  have lab_22 : ∀ (S : hg_S) (x1 : Int32) (x2 : Int32) (x3 : Int32) (x4 : Int32), dc_wp (hm_NT_add_L22 G S o x1 x2 x3 x4) F → hg_G X l (hg_rm 3 64 Z) D 5 S 22 [(0, va_rf (some o)), (1, .int x1), (2, .int x2), (3, .int x3), (4, .int x4)] [] := by
    intro S x1 x2 x3 x4 h
    delta hm_NT_add_L22 at h
    refine hg_aloadn (pc := 22) (j := 0) (i := 0) (r := (some o)) hC 0 rfl rfl (show decode prog_7_method_8_code 22 = .ok (.aload_n 0, 1) by decide +kernel) ?_
    refine hg_rgr (pc := 23) (r := (some o)) hC fl_SignalEngine_Net_24 (show decode prog_7_method_8_code 23 = .ok (.getfield 24, 3) by decide +kernel) h ?_
    intro e1 h
    refine hg_aloadn (pc := 26) (j := 0) (i := 0) (r := (some o)) hC 0 rfl rfl (show decode prog_7_method_8_code 26 = .ok (.aload_n 0, 1) by decide +kernel) ?_
    refine hg_rgi (pc := 27) (r := (some o)) hC fl_SignalEngine_Net_39 (show decode prog_7_method_8_code 27 = .ok (.getfield 39, 3) by decide +kernel) h ?_
    intro e2 h
    refine hg_iloadn (pc := 30) (j := 1) (i := 1) hC 1 rfl rfl (show decode prog_7_method_8_code 30 = .ok (.iload_n 1, 1) by decide +kernel) ?_
    refine hg_riast (pc := 31) (r := e1) hC (show decode prog_7_method_8_code 31 = .ok (.iastore, 1) by decide +kernel) h ?_
    intro S3 h
    refine hg_aloadn (pc := 32) (j := 0) (i := 0) (r := (some o)) hC 0 rfl rfl (show decode prog_7_method_8_code 32 = .ok (.aload_n 0, 1) by decide +kernel) ?_
    refine hg_rgr (pc := 33) (r := (some o)) hC fl_SignalEngine_Net_27 (show decode prog_7_method_8_code 33 = .ok (.getfield 27, 3) by decide +kernel) h ?_
    intro e4 h
    refine hg_aloadn (pc := 36) (j := 0) (i := 0) (r := (some o)) hC 0 rfl rfl (show decode prog_7_method_8_code 36 = .ok (.aload_n 0, 1) by decide +kernel) ?_
    refine hg_rgi (pc := 37) (r := (some o)) hC fl_SignalEngine_Net_39 (show decode prog_7_method_8_code 37 = .ok (.getfield 39, 3) by decide +kernel) h ?_
    intro e5 h
    refine hg_iloadn (pc := 40) (j := 2) (i := 2) hC 2 rfl rfl (show decode prog_7_method_8_code 40 = .ok (.iload_n 2, 1) by decide +kernel) ?_
    refine hg_riast (pc := 41) (r := e4) hC (show decode prog_7_method_8_code 41 = .ok (.iastore, 1) by decide +kernel) h ?_
    intro S6 h
    refine hg_aloadn (pc := 42) (j := 0) (i := 0) (r := (some o)) hC 0 rfl rfl (show decode prog_7_method_8_code 42 = .ok (.aload_n 0, 1) by decide +kernel) ?_
    refine hg_rgr (pc := 43) (r := (some o)) hC fl_SignalEngine_Net_30 (show decode prog_7_method_8_code 43 = .ok (.getfield 30, 3) by decide +kernel) h ?_
    intro e7 h
    refine hg_aloadn (pc := 46) (j := 0) (i := 0) (r := (some o)) hC 0 rfl rfl (show decode prog_7_method_8_code 46 = .ok (.aload_n 0, 1) by decide +kernel) ?_
    refine hg_rgi (pc := 47) (r := (some o)) hC fl_SignalEngine_Net_39 (show decode prog_7_method_8_code 47 = .ok (.getfield 39, 3) by decide +kernel) h ?_
    intro e8 h
    refine hg_iloadn (pc := 50) (j := 3) (i := 3) hC 3 rfl rfl (show decode prog_7_method_8_code 50 = .ok (.iload_n 3, 1) by decide +kernel) ?_
    refine hg_riast (pc := 51) (r := e7) hC (show decode prog_7_method_8_code 51 = .ok (.iastore, 1) by decide +kernel) h ?_
    intro S9 h
    refine hg_aloadn (pc := 52) (j := 0) (i := 0) (r := (some o)) hC 0 rfl rfl (show decode prog_7_method_8_code 52 = .ok (.aload_n 0, 1) by decide +kernel) ?_
    refine hg_rgr (pc := 53) (r := (some o)) hC fl_SignalEngine_Net_33 (show decode prog_7_method_8_code 53 = .ok (.getfield 33, 3) by decide +kernel) h ?_
    intro e10 h
    refine hg_aloadn (pc := 56) (j := 0) (i := 0) (r := (some o)) hC 0 rfl rfl (show decode prog_7_method_8_code 56 = .ok (.aload_n 0, 1) by decide +kernel) ?_
    refine hg_rgi (pc := 57) (r := (some o)) hC fl_SignalEngine_Net_39 (show decode prog_7_method_8_code 57 = .ok (.getfield 39, 3) by decide +kernel) h ?_
    intro e11 h
    refine hg_aloadn (pc := 60) (j := 0) (i := 0) (r := (some o)) hC 0 rfl rfl (show decode prog_7_method_8_code 60 = .ok (.aload_n 0, 1) by decide +kernel) ?_
    refine hg_rgr (pc := 61) (r := (some o)) hC fl_SignalEngine_Net_15 (show decode prog_7_method_8_code 61 = .ok (.getfield 15, 3) by decide +kernel) h ?_
    intro e12 h
    refine hg_iload (pc := 64) (i := 4) hC 4 rfl (show decode prog_7_method_8_code 64 = .ok (.iload 4, 2) by decide +kernel) ?_
    refine hg_riald (pc := 66) (r := e12) hC (show decode prog_7_method_8_code 66 = .ok (.iaload, 1) by decide +kernel) h ?_
    intro e13 h
    refine hg_riast (pc := 67) (r := e10) hC (show decode prog_7_method_8_code 67 = .ok (.iastore, 1) by decide +kernel) h ?_
    intro S14 h
    refine hg_aloadn (pc := 68) (j := 0) (i := 0) (r := (some o)) hC 0 rfl rfl (show decode prog_7_method_8_code 68 = .ok (.aload_n 0, 1) by decide +kernel) ?_
    refine hg_rgr (pc := 69) (r := (some o)) hC fl_SignalEngine_Net_15 (show decode prog_7_method_8_code 69 = .ok (.getfield 15, 3) by decide +kernel) h ?_
    intro e15 h
    refine hg_iload (pc := 72) (i := 4) hC 4 rfl (show decode prog_7_method_8_code 72 = .ok (.iload 4, 2) by decide +kernel) ?_
    refine hg_aloadn (pc := 74) (j := 0) (i := 0) (r := (some o)) hC 0 rfl rfl (show decode prog_7_method_8_code 74 = .ok (.aload_n 0, 1) by decide +kernel) ?_
    refine hg_rgi (pc := 75) (r := (some o)) hC fl_SignalEngine_Net_39 (show decode prog_7_method_8_code 75 = .ok (.getfield 39, 3) by decide +kernel) h ?_
    intro e16 h
    refine hg_riast (pc := 78) (r := e15) hC (show decode prog_7_method_8_code 78 = .ok (.iastore, 1) by decide +kernel) h ?_
    intro S17 h
    refine hg_aloadn (pc := 79) (j := 0) (i := 0) (r := (some o)) hC 0 rfl rfl (show decode prog_7_method_8_code 79 = .ok (.aload_n 0, 1) by decide +kernel) ?_
    refine hg_rgr (pc := 80) (r := (some o)) hC fl_SignalEngine_Net_18 (show decode prog_7_method_8_code 80 = .ok (.getfield 18, 3) by decide +kernel) h ?_
    intro e18 h
    refine hg_iloadn (pc := 83) (j := 1) (i := 1) hC 1 rfl rfl (show decode prog_7_method_8_code 83 = .ok (.iload_n 1, 1) by decide +kernel) ?_
    refine hg_dup2 (pc := 84) hC (show decode prog_7_method_8_code 84 = .ok (.dup2, 1) by decide +kernel) rfl (va_rf_cat _) ?_
    refine hg_riald (pc := 85) (r := e18) hC (show decode prog_7_method_8_code 85 = .ok (.iaload, 1) by decide +kernel) h ?_
    intro e19 h
    refine hg_iconst (pc := 86) (v := 1) hC (show decode prog_7_method_8_code 86 = .ok (.iconst 1, 1) by decide +kernel) (by decide +kernel) ?_
    refine hg_iadd (pc := 87) hC (show decode prog_7_method_8_code 87 = .ok (.iadd, 1) by decide +kernel) ?_
    refine hg_riast (pc := 88) (r := e18) hC (show decode prog_7_method_8_code 88 = .ok (.iastore, 1) by decide +kernel) h ?_
    intro S20 h
    refine hg_aloadn (pc := 89) (j := 0) (i := 0) (r := (some o)) hC 0 rfl rfl (show decode prog_7_method_8_code 89 = .ok (.aload_n 0, 1) by decide +kernel) ?_
    refine hg_dup (pc := 90) hC (show decode prog_7_method_8_code 90 = .ok (.dup, 1) by decide +kernel) rfl ?_
    refine hg_rgi (pc := 91) (r := (some o)) hC fl_SignalEngine_Net_39 (show decode prog_7_method_8_code 91 = .ok (.getfield 39, 3) by decide +kernel) h ?_
    intro e21 h
    refine hg_iconst (pc := 94) (v := 1) hC (show decode prog_7_method_8_code 94 = .ok (.iconst 1, 1) by decide +kernel) (by decide +kernel) ?_
    refine hg_iadd (pc := 95) hC (show decode prog_7_method_8_code 95 = .ok (.iadd, 1) by decide +kernel) ?_
    refine hg_rput (pc := 96) (r := (some o)) (v := .int (e21 + 1)) hC fp_SignalEngine_Net_39 rfl rfl (show decode prog_7_method_8_code 96 = .ok (.putfield 39, 3) by decide +kernel) h ?_
    intro S22 h
    refine hg_aloadn (pc := 99) (j := 0) (i := 0) (r := (some o)) hC 0 rfl rfl (show decode prog_7_method_8_code 99 = .ok (.aload_n 0, 1) by decide +kernel) ?_
    refine hg_rgi (pc := 100) (r := (some o)) hC fl_SignalEngine_Net_39 (show decode prog_7_method_8_code 100 = .ok (.getfield 39, 3) by decide +kernel) h ?_
    intro e23 h
    refine hg_iconst (pc := 103) (v := 1) hC (show decode prog_7_method_8_code 103 = .ok (.iconst 1, 1) by decide +kernel) (by decide +kernel) ?_
    refine hg_isub (pc := 104) hC (show decode prog_7_method_8_code 104 = .ok (.isub, 1) by decide +kernel) ?_
    exact hg_iret (pc := 105) hC hR (hF _ (dc_some h)) (show decode prog_7_method_8_code 105 = .ok (.ireturn, 1) by decide +kernel)
  show hg_G X l (hg_rm 3 64 Z) D 5 Z 0 [(0, va_rf (some o)), (1, .int p1), (2, .int p2), (3, .int p3), (4, .int p4)] []
  have h : dc_wp (hm_NT_add G Z o p1 p2 p3 p4) F := h
  delta hm_NT_add at h
  refine hg_aloadn (pc := 0) (j := 0) (i := 0) (r := (some o)) hC 0 rfl rfl (show decode prog_7_method_8_code 0 = .ok (.aload_n 0, 1) by decide +kernel) ?_
  refine hg_rgi (pc := 1) (r := (some o)) hC fl_SignalEngine_Net_39 (show decode prog_7_method_8_code 1 = .ok (.getfield 39, 3) by decide +kernel) h ?_
  intro e24 h
  refine hg_aloadn (pc := 4) (j := 0) (i := 0) (r := (some o)) hC 0 rfl rfl (show decode prog_7_method_8_code 4 = .ok (.aload_n 0, 1) by decide +kernel) ?_
  refine hg_rgr (pc := 5) (r := (some o)) hC fl_SignalEngine_Net_24 (show decode prog_7_method_8_code 5 = .ok (.getfield 24, 3) by decide +kernel) h ?_
  intro e25 h
  refine hg_rlen (pc := 8) (r := e25) (t := 0) hC rfl (show decode prog_7_method_8_code 8 = .ok (.arraylength, 1) by decide +kernel) h ?_
  intro e26 h
  refine hg_icmp_ne (pc := 9) (tgt := 22) hC (show decode prog_7_method_8_code 9 = .ok (.if_icmp .ne 13, 3) by decide +kernel) (by decide +kernel) h ?_ ?_
  · intro h
    refine hg_aloadn (pc := 12) (j := 0) (i := 0) (r := (some o)) hC 0 rfl rfl (show decode prog_7_method_8_code 12 = .ok (.aload_n 0, 1) by decide +kernel) ?_
    refine hg_iconst (pc := 13) (v := 2) hC (show decode prog_7_method_8_code 13 = .ok (.iconst 2, 1) by decide +kernel) (by decide +kernel) ?_
    refine hg_aloadn (pc := 14) (j := 0) (i := 0) (r := (some o)) hC 0 rfl rfl (show decode prog_7_method_8_code 14 = .ok (.aload_n 0, 1) by decide +kernel) ?_
    refine hg_rgi (pc := 15) (r := (some o)) hC fl_SignalEngine_Net_39 (show decode prog_7_method_8_code 15 = .ok (.getfield 39, 3) by decide +kernel) h ?_
    intro e27 h
    refine hg_imul (pc := 18) hC (show decode prog_7_method_8_code 18 = .ok (.imul, 1) by decide +kernel) ?_
    obtain ⟨b28, hb29, h⟩ := dc_bind h
    obtain ⟨hb29, hv30⟩ := hg_chk_of (C := R_NT) rfl hb29
    refine hg_kVv (pc := 19) (b := b28) (r := (some o)) (As := [.int (2 * e27)]) (rest := []) (so := fun q => q) hC cw_SignalEngine_Net_104 (fun q hq => hm_NT_widen_ok l D G Z b28 (2 * e27) q hq) (Nat.le_of_ble_eq_true rfl) (Nat.le_of_ble_eq_true rfl) hb29 hv30 rfl (Nat.le_of_ble_eq_true rfl) (show decode prog_7_method_8_code 19 = .ok (.invokevirtual 104, 3) by decide +kernel) h ?_
    intro q31 h
    exact lab_22 q31 p1 p2 p3 p4 h
  · intro h
    exact lab_22 Z p1 p2 p3 p4 h
noncomputable def hm_NT_multiplexer_L103 (G : hg_E) (S : hg_S) (o : Nat) (x1 : Int32) (x2 : Int32) (x3 : Int32) (x4 : Int32) : Option (hg_S × Int32) :=
  (hg_chk S (some o) 12).bind fun b1 => (hm_NT_add G S b1 x1 x2 x3 x4).bind fun q4 => some (q4.1, q4.2)
noncomputable def hm_NT_multiplexer_L85 (G : hg_E) (S : hg_S) (o : Nat) (x5 : Int32) : Option (hg_S × Int32) :=
  some (S, x5)
noncomputable def hm_NT_multiplexer_L88 (G : hg_E) (S : hg_S) (o : Nat) (x1 : Int32) (x2 : Int32) (x3 : Int32) (x4 : Int32) (x5 : Int32) (x6 : Int32) : Option ((Int32 × Int32) ⊕ ((Int32) ⊕ (Unit))) :=
  (hg_gr S (some o) 12 7).bind fun e5 => (hg_ld S e5 (G.1 0) x5).bind fun e6 => some (.inl (e6, (x6 + 1)))
noncomputable def hm_NT_multiplexer_b37 (G : hg_E) (S : hg_S) (o : Nat) (x1 : Int32) (x2 : Int32) (x3 : Int32) (x4 : Int32) (x5 : Int32) (x6 : Int32) : Option ((Int32 × Int32) ⊕ ((Int32) ⊕ (Unit))) :=
  if x5 = (-1) then (some (.inr (.inr ()))) else ((hg_gi S (some o) 12 9).bind fun e7 => if x6 < e7 then ((hg_gr S (some o) 12 4).bind fun e8 => (hg_ld S e8 (G.1 0) x5).bind fun e9 => if e9 = x1 then ((hg_gr S (some o) 12 5).bind fun e10 => (hg_ld S e10 (G.1 0) x5).bind fun e11 => if e11 = x2 then ((hg_gr S (some o) 12 6).bind fun e12 => (hg_ld S e12 (G.1 0) x5).bind fun e13 => if e13 = x3 then (some (.inr (.inl x5))) else (hm_NT_multiplexer_L88 G S o x1 x2 x3 x4 x5 x6)) else (hm_NT_multiplexer_L88 G S o x1 x2 x3 x4 x5 x6)) else (hm_NT_multiplexer_L88 G S o x1 x2 x3 x4 x5 x6)) else (some (.inr (.inr ()))))
noncomputable def hm_NT_multiplexer_s37 (G : hg_E) (S : hg_S) (o : Nat) (x1 : Int32) (x2 : Int32) (x3 : Int32) (x4 : Int32) (q : Int32 × Int32) : Option ((Int32 × Int32) ⊕ ((Int32) ⊕ (Unit))) :=
  hm_NT_multiplexer_b37 G S o x1 x2 x3 x4 q.1 q.2
noncomputable def hm_NT_multiplexer_L37 (G : hg_E) (S : hg_S) (o : Nat) (x1 : Int32) (x2 : Int32) (x3 : Int32) (x4 : Int32) (x5 : Int32) (x6 : Int32) : Option (hg_S × Int32) :=
  (dc_it (hm_NT_multiplexer_s37 G S o x1 x2 x3 x4) (x5, x6)).bind (Sum.elim (fun (z : Int32) => hm_NT_multiplexer_L85 G S o z) (fun (z : Unit) => hm_NT_multiplexer_L103 G S o x1 x2 x3 x4))
noncomputable def hm_NT_multiplexer (G : hg_E) (S : hg_S) (o : Nat) (p1 : Int32) (p2 : Int32) (p3 : Int32) : Option (hg_S × Int32) :=
  if p2 = p3 then (some (S, p2)) else (dc_let (((((p1 + (31 * p2)) + (1009 * p3))) &&& 4095) : Int32) fun v14 => (hg_gr S (some o) 12 1).bind fun e15 => (hg_ld S e15 (G.1 0) v14).bind fun e16 => hm_NT_multiplexer_L37 G S o p1 p2 p3 v14 e16 0)
set_option maxHeartbeats 4000000 in
set_option maxRecDepth 100000 in
/-- SignalEngine$Net.multiplexer(III)I -/
theorem hm_NT_multiplexer_ok (l : Launch) (D : va_G) (G : hg_E) (Z : hg_S) (o : Nat) (p1 : Int32) (p2 : Int32) (p3 : Int32) (q : hg_S × Int32) (hq : hm_NT_multiplexer G Z o p1 p2 p3 = some q) : hg_C l ⟨"SignalEngine$Net", "multiplexer", "(III)I"⟩ prog_7_method_7_code 7 (some (.int)) 4 88 D G [.ref o, .int p1, .int p2, .int p3] Z (.inl (some (.int q.2), q.1) : hg_O) := by
  refine hg_start (cv := fun q => (.inl (some (.int q.2), q.1) : hg_O)) hq ?_
  intro F hF h
  refine hg_enter (lv := [(0, va_rf (some o)), (1, .int p1), (2, .int p2), (3, .int p3)]) (by decide +kernel) (by simp [lg_sl, va_rf_cat, hg_cti, hg_ctr]) (by simp [lv_args, va_rf_cat, va_rf_some, hg_cti, hg_ctr]) ?_
  intro X hC hR
  have lab_103 : ∀ (S : hg_S) (x1 : Int32) (x2 : Int32) (x3 : Int32) (x4 : Int32), dc_wp (hm_NT_multiplexer_L103 G S o x1 x2 x3 x4) F → hg_G X l (hg_rm 4 88 Z) D 7 S 103 [(0, va_rf (some o)), (1, .int x1), (2, .int x2), (3, .int x3), (4, .int x4)] [] := by
    intro S x1 x2 x3 x4 h
    delta hm_NT_multiplexer_L103 at h
    refine hg_aloadn (pc := 103) (j := 0) (i := 0) (r := (some o)) hC 0 rfl rfl (show decode prog_7_method_7_code 103 = .ok (.aload_n 0, 1) by decide +kernel) ?_
    refine hg_iloadn (pc := 104) (j := 1) (i := 1) hC 1 rfl rfl (show decode prog_7_method_7_code 104 = .ok (.iload_n 1, 1) by decide +kernel) ?_
    refine hg_iloadn (pc := 105) (j := 2) (i := 2) hC 2 rfl rfl (show decode prog_7_method_7_code 105 = .ok (.iload_n 2, 1) by decide +kernel) ?_
    refine hg_iloadn (pc := 106) (j := 3) (i := 3) hC 3 rfl rfl (show decode prog_7_method_7_code 106 = .ok (.iload_n 3, 1) by decide +kernel) ?_
    refine hg_iload (pc := 107) (i := 4) hC 4 rfl (show decode prog_7_method_7_code 107 = .ok (.iload 4, 2) by decide +kernel) ?_
    obtain ⟨b1, hb2, h⟩ := dc_bind h
    obtain ⟨hb2, hv3⟩ := hg_chk_of (C := R_NT) rfl hb2
    refine hg_kVi (pc := 109) (b := b1) (r := (some o)) (As := [.int x1, .int x2, .int x3, .int x4]) (rest := []) (vo := fun q => q.2) (so := fun q => q.1) hC cw_SignalEngine_Net_100 (fun q hq => hm_NT_add_ok l D G S b1 x1 x2 x3 x4 q hq) (Nat.le_of_ble_eq_true rfl) (Nat.le_of_ble_eq_true rfl) hb2 hv3 rfl (Nat.le_of_ble_eq_true rfl) (show decode prog_7_method_7_code 109 = .ok (.invokevirtual 100, 3) by decide +kernel) h ?_
    intro q4 h
    exact hg_iret (pc := 112) hC hR (hF _ (dc_some h)) (show decode prog_7_method_7_code 112 = .ok (.ireturn, 1) by decide +kernel)
  have lab_85 : ∀ (S : hg_S) (x5 : Int32), dc_wp (hm_NT_multiplexer_L85 G S o x5) F → hg_G X l (hg_rm 4 88 Z) D 7 S 85 [(0, va_rf (some o)), (5, .int x5)] [] := by
    intro S x5 h
    delta hm_NT_multiplexer_L85 at h
    refine hg_iload (pc := 85) (i := 5) hC 1 rfl (show decode prog_7_method_7_code 85 = .ok (.iload 5, 2) by decide +kernel) ?_
    exact hg_iret (pc := 87) hC hR (hF _ (dc_some h)) (show decode prog_7_method_7_code 87 = .ok (.ireturn, 1) by decide +kernel)
  have loop_37 : ∀ (S : hg_S) (x1 : Int32) (x2 : Int32) (x3 : Int32) (x4 : Int32) (q : Int32 × Int32), dc_wp (dc_it (hm_NT_multiplexer_s37 G S o x1 x2 x3 x4) q) (fun z => dc_wp ((Sum.elim (fun (z : Int32) => hm_NT_multiplexer_L85 G S o z) (fun (z : Unit) => hm_NT_multiplexer_L103 G S o x1 x2 x3 x4)) z) F) → hg_G X l (hg_rm 4 88 Z) D 7 S 37 [(0, va_rf (some o)), (1, .int x1), (2, .int x2), (3, .int x3), (4, .int x4), (5, .int q.1), (6, .int q.2)] [] := by
    intro S x1 x2 x3 x4
    refine dc_loopF ?_
    intro F_37 hl_37 hr_37
    have lab_88 : ∀ (x5 : Int32) (x6 : Int32), dc_wp (hm_NT_multiplexer_L88 G S o x1 x2 x3 x4 x5 x6) F_37 → hg_G X l (hg_rm 4 88 Z) D 7 S 88 [(0, va_rf (some o)), (1, .int x1), (2, .int x2), (3, .int x3), (4, .int x4), (5, .int x5), (6, .int x6)] [] := by
      intro x5 x6 h
      delta hm_NT_multiplexer_L88 at h
      refine hg_aloadn (pc := 88) (j := 0) (i := 0) (r := (some o)) hC 0 rfl rfl (show decode prog_7_method_7_code 88 = .ok (.aload_n 0, 1) by decide +kernel) ?_
      refine hg_rgr (pc := 89) (r := (some o)) hC fl_SignalEngine_Net_33 (show decode prog_7_method_7_code 89 = .ok (.getfield 33, 3) by decide +kernel) h ?_
      intro e5 h
      refine hg_iload (pc := 92) (i := 5) hC 5 rfl (show decode prog_7_method_7_code 92 = .ok (.iload 5, 2) by decide +kernel) ?_
      refine hg_riald (pc := 94) (r := e5) hC (show decode prog_7_method_7_code 94 = .ok (.iaload, 1) by decide +kernel) h ?_
      intro e6 h
      refine hg_istore (pc := 95) (i := 5) (lv' := [(5, .int e6), (0, va_rf (some o)), (1, .int x1), (2, .int x2), (3, .int x3), (4, .int x4), (6, .int x6)]) hC (Nat.le_of_ble_eq_true rfl) rfl (show decode prog_7_method_7_code 95 = .ok (.istore 5, 2) by decide +kernel) ?_
      refine hg_iinc (pc := 97) (i := 6) (v := (x6 + 1)) (lv' := [(6, .int (x6 + 1)), (5, .int e6), (0, va_rf (some o)), (1, .int x1), (2, .int x2), (3, .int x3), (4, .int x4)]) hC 6 rfl rfl (Nat.le_of_ble_eq_true rfl) rfl (show decode prog_7_method_7_code 97 = .ok (.iinc 6 1, 3) by decide +kernel) ?_
      refine hg_goto (pc := 100) (tgt := 37) hC (show decode prog_7_method_7_code 100 = .ok (.goto (-63), 3) by decide +kernel) (by decide +kernel) ?_
      exact hg_sub [2, 3, 4, 5, 6, 1, 0] rfl (hl_37 (e6, (x6 + 1)) (dc_some h))
    rintro ⟨x5, x6⟩ h
    have h : dc_wp (hm_NT_multiplexer_b37 G S o x1 x2 x3 x4 x5 x6) F_37 := h
    delta hm_NT_multiplexer_b37 at h
    refine hg_iload (pc := 37) (i := 5) hC 5 rfl (show decode prog_7_method_7_code 37 = .ok (.iload 5, 2) by decide +kernel) ?_
    refine hg_iconst (pc := 39) (v := (-1)) hC (show decode prog_7_method_7_code 39 = .ok (.iconst (-1), 1) by decide +kernel) (by decide +kernel) ?_
    refine hg_icmp_eq (pc := 40) (tgt := 103) hC (show decode prog_7_method_7_code 40 = .ok (.if_icmp .eq 63, 3) by decide +kernel) (by decide +kernel) h ?_ ?_
    · intro h
      have h : dc_wp (hm_NT_multiplexer_L103 G S o x1 x2 x3 x4) F := hr_37 (.inr ()) (dc_some h)
      exact hg_sub [0, 1, 2, 3, 4] rfl (lab_103 S x1 x2 x3 x4 h)
    · intro h
      refine hg_iload (pc := 43) (i := 6) hC 6 rfl (show decode prog_7_method_7_code 43 = .ok (.iload 6, 2) by decide +kernel) ?_
      refine hg_aloadn (pc := 45) (j := 0) (i := 0) (r := (some o)) hC 0 rfl rfl (show decode prog_7_method_7_code 45 = .ok (.aload_n 0, 1) by decide +kernel) ?_
      refine hg_rgi (pc := 46) (r := (some o)) hC fl_SignalEngine_Net_39 (show decode prog_7_method_7_code 46 = .ok (.getfield 39, 3) by decide +kernel) h ?_
      intro e7 h
      refine hg_icmp_ge (pc := 49) (tgt := 103) hC (show decode prog_7_method_7_code 49 = .ok (.if_icmp .ge 54, 3) by decide +kernel) (by decide +kernel) h ?_ ?_
      · intro h
        refine hg_aloadn (pc := 52) (j := 0) (i := 0) (r := (some o)) hC 0 rfl rfl (show decode prog_7_method_7_code 52 = .ok (.aload_n 0, 1) by decide +kernel) ?_
        refine hg_rgr (pc := 53) (r := (some o)) hC fl_SignalEngine_Net_24 (show decode prog_7_method_7_code 53 = .ok (.getfield 24, 3) by decide +kernel) h ?_
        intro e8 h
        refine hg_iload (pc := 56) (i := 5) hC 5 rfl (show decode prog_7_method_7_code 56 = .ok (.iload 5, 2) by decide +kernel) ?_
        refine hg_riald (pc := 58) (r := e8) hC (show decode prog_7_method_7_code 58 = .ok (.iaload, 1) by decide +kernel) h ?_
        intro e9 h
        refine hg_iloadn (pc := 59) (j := 1) (i := 1) hC 1 rfl rfl (show decode prog_7_method_7_code 59 = .ok (.iload_n 1, 1) by decide +kernel) ?_
        refine hg_icmp_ne (pc := 60) (tgt := 88) hC (show decode prog_7_method_7_code 60 = .ok (.if_icmp .ne 28, 3) by decide +kernel) (by decide +kernel) h ?_ ?_
        · intro h
          refine hg_aloadn (pc := 63) (j := 0) (i := 0) (r := (some o)) hC 0 rfl rfl (show decode prog_7_method_7_code 63 = .ok (.aload_n 0, 1) by decide +kernel) ?_
          refine hg_rgr (pc := 64) (r := (some o)) hC fl_SignalEngine_Net_27 (show decode prog_7_method_7_code 64 = .ok (.getfield 27, 3) by decide +kernel) h ?_
          intro e10 h
          refine hg_iload (pc := 67) (i := 5) hC 5 rfl (show decode prog_7_method_7_code 67 = .ok (.iload 5, 2) by decide +kernel) ?_
          refine hg_riald (pc := 69) (r := e10) hC (show decode prog_7_method_7_code 69 = .ok (.iaload, 1) by decide +kernel) h ?_
          intro e11 h
          refine hg_iloadn (pc := 70) (j := 2) (i := 2) hC 2 rfl rfl (show decode prog_7_method_7_code 70 = .ok (.iload_n 2, 1) by decide +kernel) ?_
          refine hg_icmp_ne (pc := 71) (tgt := 88) hC (show decode prog_7_method_7_code 71 = .ok (.if_icmp .ne 17, 3) by decide +kernel) (by decide +kernel) h ?_ ?_
          · intro h
            refine hg_aloadn (pc := 74) (j := 0) (i := 0) (r := (some o)) hC 0 rfl rfl (show decode prog_7_method_7_code 74 = .ok (.aload_n 0, 1) by decide +kernel) ?_
            refine hg_rgr (pc := 75) (r := (some o)) hC fl_SignalEngine_Net_30 (show decode prog_7_method_7_code 75 = .ok (.getfield 30, 3) by decide +kernel) h ?_
            intro e12 h
            refine hg_iload (pc := 78) (i := 5) hC 5 rfl (show decode prog_7_method_7_code 78 = .ok (.iload 5, 2) by decide +kernel) ?_
            refine hg_riald (pc := 80) (r := e12) hC (show decode prog_7_method_7_code 80 = .ok (.iaload, 1) by decide +kernel) h ?_
            intro e13 h
            refine hg_iloadn (pc := 81) (j := 3) (i := 3) hC 3 rfl rfl (show decode prog_7_method_7_code 81 = .ok (.iload_n 3, 1) by decide +kernel) ?_
            refine hg_icmp_ne (pc := 82) (tgt := 88) hC (show decode prog_7_method_7_code 82 = .ok (.if_icmp .ne 6, 3) by decide +kernel) (by decide +kernel) h ?_ ?_
            · intro h
              have h : dc_wp (hm_NT_multiplexer_L85 G S o x5) F := hr_37 (.inl x5) (dc_some h)
              exact hg_sub [0, 5] rfl (lab_85 S x5 h)
            · intro h
              exact lab_88 x5 x6 h
          · intro h
            exact lab_88 x5 x6 h
        · intro h
          exact lab_88 x5 x6 h
      · intro h
        have h : dc_wp (hm_NT_multiplexer_L103 G S o x1 x2 x3 x4) F := hr_37 (.inr ()) (dc_some h)
        exact hg_sub [0, 1, 2, 3, 4] rfl (lab_103 S x1 x2 x3 x4 h)
  have lab_37 : ∀ (S : hg_S) (x1 : Int32) (x2 : Int32) (x3 : Int32) (x4 : Int32) (x5 : Int32) (x6 : Int32), dc_wp (hm_NT_multiplexer_L37 G S o x1 x2 x3 x4 x5 x6) F → hg_G X l (hg_rm 4 88 Z) D 7 S 37 [(0, va_rf (some o)), (1, .int x1), (2, .int x2), (3, .int x3), (4, .int x4), (5, .int x5), (6, .int x6)] [] := fun S x1 x2 x3 x4 x5 x6 h => loop_37 S x1 x2 x3 x4 (x5, x6) (dc_bind h)
  show hg_G X l (hg_rm 4 88 Z) D 7 Z 0 [(0, va_rf (some o)), (1, .int p1), (2, .int p2), (3, .int p3)] []
  have h : dc_wp (hm_NT_multiplexer G Z o p1 p2 p3) F := h
  delta hm_NT_multiplexer at h
  refine hg_iloadn (pc := 0) (j := 2) (i := 2) hC 2 rfl rfl (show decode prog_7_method_7_code 0 = .ok (.iload_n 2, 1) by decide +kernel) ?_
  refine hg_iloadn (pc := 1) (j := 3) (i := 3) hC 3 rfl rfl (show decode prog_7_method_7_code 1 = .ok (.iload_n 3, 1) by decide +kernel) ?_
  refine hg_icmp_ne (pc := 2) (tgt := 7) hC (show decode prog_7_method_7_code 2 = .ok (.if_icmp .ne 5, 3) by decide +kernel) (by decide +kernel) h ?_ ?_
  · intro h
    refine hg_iloadn (pc := 5) (j := 2) (i := 2) hC 2 rfl rfl (show decode prog_7_method_7_code 5 = .ok (.iload_n 2, 1) by decide +kernel) ?_
    exact hg_iret (pc := 6) hC hR (hF _ (dc_some h)) (show decode prog_7_method_7_code 6 = .ok (.ireturn, 1) by decide +kernel)
  · intro h
    refine hg_iloadn (pc := 7) (j := 1) (i := 1) hC 1 rfl rfl (show decode prog_7_method_7_code 7 = .ok (.iload_n 1, 1) by decide +kernel) ?_
    refine hg_bipush (pc := 8) (v := 31) hC (show decode prog_7_method_7_code 8 = .ok (.bipush 31, 2) by decide +kernel) (by decide +kernel) ?_
    refine hg_iloadn (pc := 10) (j := 2) (i := 2) hC 2 rfl rfl (show decode prog_7_method_7_code 10 = .ok (.iload_n 2, 1) by decide +kernel) ?_
    refine hg_imul (pc := 11) hC (show decode prog_7_method_7_code 11 = .ok (.imul, 1) by decide +kernel) ?_
    refine hg_iadd (pc := 12) hC (show decode prog_7_method_7_code 12 = .ok (.iadd, 1) by decide +kernel) ?_
    refine hg_sipush (pc := 13) (v := 1009) hC (show decode prog_7_method_7_code 13 = .ok (.sipush 1009, 3) by decide +kernel) (by decide +kernel) ?_
    refine hg_iloadn (pc := 16) (j := 3) (i := 3) hC 3 rfl rfl (show decode prog_7_method_7_code 16 = .ok (.iload_n 3, 1) by decide +kernel) ?_
    refine hg_imul (pc := 17) hC (show decode prog_7_method_7_code 17 = .ok (.imul, 1) by decide +kernel) ?_
    refine hg_iadd (pc := 18) hC (show decode prog_7_method_7_code 18 = .ok (.iadd, 1) by decide +kernel) ?_
    refine hg_sipush (pc := 19) (v := 4095) hC (show decode prog_7_method_7_code 19 = .ok (.sipush 4095, 3) by decide +kernel) (by decide +kernel) ?_
    refine hg_iand (pc := 22) hC (show decode prog_7_method_7_code 22 = .ok (.iand, 1) by decide +kernel) ?_
    refine hg_letI h ?_
    intro v14 h
    refine hg_istore (pc := 23) (i := 4) (lv' := [(4, .int v14), (0, va_rf (some o)), (1, .int p1), (2, .int p2), (3, .int p3)]) hC (Nat.le_of_ble_eq_true rfl) rfl (show decode prog_7_method_7_code 23 = .ok (.istore 4, 2) by decide +kernel) ?_
    refine hg_aloadn (pc := 25) (j := 0) (i := 0) (r := (some o)) hC 1 rfl rfl (show decode prog_7_method_7_code 25 = .ok (.aload_n 0, 1) by decide +kernel) ?_
    refine hg_rgr (pc := 26) (r := (some o)) hC fl_SignalEngine_Net_15 (show decode prog_7_method_7_code 26 = .ok (.getfield 15, 3) by decide +kernel) h ?_
    intro e15 h
    refine hg_iload (pc := 29) (i := 4) hC 0 rfl (show decode prog_7_method_7_code 29 = .ok (.iload 4, 2) by decide +kernel) ?_
    refine hg_riald (pc := 31) (r := e15) hC (show decode prog_7_method_7_code 31 = .ok (.iaload, 1) by decide +kernel) h ?_
    intro e16 h
    refine hg_istore (pc := 32) (i := 5) (lv' := [(5, .int e16), (4, .int v14), (0, va_rf (some o)), (1, .int p1), (2, .int p2), (3, .int p3)]) hC (Nat.le_of_ble_eq_true rfl) rfl (show decode prog_7_method_7_code 32 = .ok (.istore 5, 2) by decide +kernel) ?_
    refine hg_iconst (pc := 34) (v := 0) hC (show decode prog_7_method_7_code 34 = .ok (.iconst 0, 1) by decide +kernel) (by decide +kernel) ?_
    refine hg_istore (pc := 35) (i := 6) (lv' := [(6, .int 0), (5, .int e16), (4, .int v14), (0, va_rf (some o)), (1, .int p1), (2, .int p2), (3, .int p3)]) hC (Nat.le_of_ble_eq_true rfl) rfl (show decode prog_7_method_7_code 35 = .ok (.istore 6, 2) by decide +kernel) ?_
    exact hg_sub [3, 4, 5, 6, 2, 1, 0] rfl (lab_37 Z p1 p2 p3 v14 e16 0 h)
noncomputable def hm_NT_fold_L234 (G : hg_E) (S : hg_S) (o : Nat) : Option (hg_S × Int32) :=
  (hg_gr S (some o) 12 0).bind fun e1 => (hg_ld S e1 (G.1 0) 0).bind fun e2 => some (S, e2)
noncomputable def hm_NT_fold_L228 (G : hg_E) (S : hg_S) (o : Nat) (x4 : Int32) (x5 : Int32) (x6 : Int32) : Option ((hg_S × Int32 × Int32) ⊕ ((hg_S))) :=
  some (.inl (S, x5, (x6 + 1)))
noncomputable def hm_NT_fold_L221 (G : hg_E) (S : hg_S) (o : Nat) (x4 : Int32) (x5 : Int32) (x6 : Int32) (x7 : Int32) (x8 : Int32) (y0 : Int32) (y1 : Int32) (y2 : Option Nat) : Option ((hg_S × Int32) ⊕ ((hg_S))) :=
  (hg_st S y2 (G.1 0) y1 y0).bind fun S3 => some (.inl (S3, (x8 + 1)))
noncomputable def hm_NT_fold_b160 (G : hg_E) (S : hg_S) (o : Nat) (x4 : Int32) (x5 : Int32) (x6 : Int32) (x7 : Int32) (x8 : Int32) : Option ((hg_S × Int32) ⊕ ((hg_S))) :=
  if x8 < x5 then ((hg_gr S (some o) 12 0).bind fun e4 => if x7 = 0 then ((hg_gr S (some o) 12 0).bind fun e5 => (hg_ld S e5 (G.1 0) x8).bind fun e6 => (hg_chk S (some o) 12).bind fun b7 => (hm_NT_multiplexer G S b7 x6 e6 (0 : Int32)).bind fun q10 => hm_NT_fold_L221 G q10.1 o x4 x5 x6 x7 x8 q10.2 x8 e4) else ((hg_gr S (some o) 12 0).bind fun e11 => (hg_ld S e11 (G.1 0) (2 * x8)).bind fun e12 => (hg_gr S (some o) 12 0).bind fun e13 => (hg_ld S e13 (G.1 0) ((2 * x8) + 1)).bind fun e14 => (hg_chk S (some o) 12).bind fun b15 => (hm_NT_multiplexer G S b15 x6 e12 e14).bind fun q18 => hm_NT_fold_L221 G q18.1 o x4 x5 x6 x7 x8 q18.2 x8 e4)) else (some (.inr S))
noncomputable def hm_NT_fold_s160 (G : hg_E) (o : Nat) (x4 : Int32) (x5 : Int32) (x6 : Int32) (x7 : Int32) (q : hg_S × Int32) : Option ((hg_S × Int32) ⊕ ((hg_S))) :=
  hm_NT_fold_b160 G q.1 o x4 x5 x6 x7 q.2
noncomputable def hm_NT_fold_L160 (G : hg_E) (S : hg_S) (o : Nat) (x4 : Int32) (x5 : Int32) (x6 : Int32) (x7 : Int32) (x8 : Int32) : Option ((hg_S × Int32 × Int32) ⊕ ((hg_S))) :=
  (dc_it (hm_NT_fold_s160 G o x4 x5 x6 x7) (S, x8)).bind (fun (z : hg_S) => hm_NT_fold_L228 G z o x4 x5 x6)
noncomputable def hm_NT_fold_L155 (G : hg_E) (S : hg_S) (o : Nat) (x4 : Int32) (x6 : Int32) (x7 : Int32) (y0 : Int32) : Option ((hg_S × Int32 × Int32) ⊕ ((hg_S))) :=
  hm_NT_fold_L160 G S o x4 y0 x6 x7 0
noncomputable def hm_NT_fold_L139 (G : hg_E) (S : hg_S) (o : Nat) (x4 : Int32) (x5 : Int32) (x6 : Int32) (y0 : Int32) : Option ((hg_S × Int32 × Int32) ⊕ ((hg_S))) :=
  if y0 = 0 then (hm_NT_fold_L155 G S o x4 x6 y0 x5) else (hm_NT_fold_L155 G S o x4 x6 y0 (x5 / 2))
noncomputable def hm_NT_fold_b92 (G : hg_E) (S : hg_S) (o : Nat) (x4 : Int32) (x5 : Int32) (x6 : Int32) : Option ((hg_S × Int32 × Int32) ⊕ ((hg_S))) :=
  if x6 < 12 then (if x6 < 4 then ((hg_gi S (some o) 12 10).bind fun e19 => if (3 - x6) < e19 then (hm_NT_fold_L139 G S o x4 x5 x6 1) else (hm_NT_fold_L139 G S o x4 x5 x6 0)) else (if (11 - x6) < x4 then (hm_NT_fold_L139 G S o x4 x5 x6 1) else (hm_NT_fold_L139 G S o x4 x5 x6 0))) else (some (.inr S))
noncomputable def hm_NT_fold_s92 (G : hg_E) (o : Nat) (x4 : Int32) (q : hg_S × Int32 × Int32) : Option ((hg_S × Int32 × Int32) ⊕ ((hg_S))) :=
  hm_NT_fold_b92 G q.1 o x4 q.2.1 q.2.2
noncomputable def hm_NT_fold_L92 (G : hg_E) (S : hg_S) (o : Nat) (x4 : Int32) (x5 : Int32) (x6 : Int32) : Option (hg_S × Int32) :=
  (dc_it (hm_NT_fold_s92 G o x4) (S, x5, x6)).bind (fun (z : hg_S) => hm_NT_fold_L234 G z o)
noncomputable def hm_NT_fold_L89 (G : hg_E) (S : hg_S) (o : Nat) (x4 : Int32) (x5 : Int32) : Option (hg_S × Int32) :=
  hm_NT_fold_L92 G S o x4 x5 0
noncomputable def hm_NT_fold_L57 (G : hg_E) (S : hg_S) (o : Nat) (x1 : Int32) (x2 : Int32) (x3 : Option Nat) (x4 : Int32) (x5 : Int32) (x6 : Int32) (y0 : Int32) : Option ((hg_S × Int32) ⊕ ((hg_S))) :=
  (hg_gr S (some o) 12 0).bind fun e20 => (hg_gi S (some o) 12 10).bind fun e21 => (hm_NT_turned G S x6 e21).bind fun q22 => (hg_chk S (some o) 12).bind fun b23 => (hm_NT_truth G S b23 x1 y0 q22 x3).bind fun q26 => (hg_st S e20 (G.1 0) x6 q26).bind fun S27 => some (.inl (S27, (x6 + 1)))
noncomputable def hm_NT_fold_b28 (G : hg_E) (S : hg_S) (o : Nat) (x1 : Int32) (x2 : Int32) (x3 : Option Nat) (x4 : Int32) (x5 : Int32) (x6 : Int32) : Option ((hg_S × Int32) ⊕ ((hg_S))) :=
  if x6 < x5 then (if x2 = 0 then ((hg_gi S (some o) 12 10).bind fun e28 => (hm_NT_turned G S (((Int32.toUInt32 x6 >>> (Int32.toUInt32 e28 &&& Int32.toUInt32 31)).toInt32)) x4).bind fun q29 => hm_NT_fold_L57 G S o x1 x2 x3 x4 x5 x6 q29) else (hm_NT_fold_L57 G S o x1 x2 x3 x4 x5 x6 256)) else (some (.inr S))
noncomputable def hm_NT_fold_s28 (G : hg_E) (o : Nat) (x1 : Int32) (x2 : Int32) (x3 : Option Nat) (x4 : Int32) (x5 : Int32) (q : hg_S × Int32) : Option ((hg_S × Int32) ⊕ ((hg_S))) :=
  hm_NT_fold_b28 G q.1 o x1 x2 x3 x4 x5 q.2
noncomputable def hm_NT_fold_L28 (G : hg_E) (S : hg_S) (o : Nat) (x1 : Int32) (x2 : Int32) (x3 : Option Nat) (x4 : Int32) (x5 : Int32) (x6 : Int32) : Option (hg_S × Int32) :=
  (dc_it (hm_NT_fold_s28 G o x1 x2 x3 x4 x5) (S, x6)).bind (fun (z : hg_S) => hm_NT_fold_L89 G z o x4 x5)
noncomputable def hm_NT_fold_L12 (G : hg_E) (S : hg_S) (o : Nat) (x1 : Int32) (x2 : Int32) (x3 : Option Nat) (y0 : Int32) : Option (hg_S × Int32) :=
  (hg_gi S (some o) 12 10).bind fun e30 => dc_let (((1 : Int32) <<< ((y0 + e30) &&& (31 : Int32))) : Int32) fun v31 => hm_NT_fold_L28 G S o x1 x2 x3 y0 v31 0
noncomputable def hm_NT_fold (G : hg_E) (S : hg_S) (o : Nat) (p1 : Int32) (p2 : Int32) (p3 : Option Nat) : Option (hg_S × Int32) :=
  if p2 = 0 then ((hg_gi S (some o) 12 12).bind fun e32 => hm_NT_fold_L12 G S o p1 p2 p3 e32) else (hm_NT_fold_L12 G S o p1 p2 p3 0)
set_option maxHeartbeats 4000000 in
set_option maxRecDepth 100000 in
/-- SignalEngine$Net.fold(IZLSignalEngine$Atlas;)I -/
theorem hm_NT_fold_ok (l : Launch) (D : va_G) (G : hg_E) (Z : hg_S) (o : Nat) (p1 : Int32) (p2 : Int32) (p3 : Option Nat) (q : hg_S × Int32) (hq : hm_NT_fold G Z o p1 p2 p3 = some q) : hg_C l ⟨"SignalEngine$Net", "fold", "(IZLSignalEngine$Atlas;)I"⟩ prog_7_method_4_code 9 (some (.int)) 5 114 D G [.ref o, .int p1, .int p2, va_rf p3] Z (.inl (some (.int q.2), q.1) : hg_O) := by
  refine hg_start (cv := fun q => (.inl (some (.int q.2), q.1) : hg_O)) hq ?_
  intro F hF h
  refine hg_enter (lv := [(0, va_rf (some o)), (1, .int p1), (2, .int p2), (3, va_rf p3)]) (by decide +kernel) (by simp [lg_sl, va_rf_cat, hg_cti, hg_ctr]) (by simp [lv_args, va_rf_cat, va_rf_some, hg_cti, hg_ctr]) ?_
  intro X hC hR
  have lab_234 : ∀ (S : hg_S), dc_wp (hm_NT_fold_L234 G S o) F → hg_G X l (hg_rm 5 114 Z) D 9 S 234 [(0, va_rf (some o))] [] := by
    intro S  h
    delta hm_NT_fold_L234 at h
    refine hg_aloadn (pc := 234) (j := 0) (i := 0) (r := (some o)) hC 0 rfl rfl (show decode prog_7_method_4_code 234 = .ok (.aload_n 0, 1) by decide +kernel) ?_
    refine hg_rgr (pc := 235) (r := (some o)) hC fl_SignalEngine_Net_11 (show decode prog_7_method_4_code 235 = .ok (.getfield 11, 3) by decide +kernel) h ?_
    intro e1 h
    refine hg_iconst (pc := 238) (v := 0) hC (show decode prog_7_method_4_code 238 = .ok (.iconst 0, 1) by decide +kernel) (by decide +kernel) ?_
    refine hg_riald (pc := 239) (r := e1) hC (show decode prog_7_method_4_code 239 = .ok (.iaload, 1) by decide +kernel) h ?_
    intro e2 h
    exact hg_iret (pc := 240) hC hR (hF _ (dc_some h)) (show decode prog_7_method_4_code 240 = .ok (.ireturn, 1) by decide +kernel)
  have loop_92 : ∀ (x4 : Int32) (q : hg_S × Int32 × Int32), dc_wp (dc_it (hm_NT_fold_s92 G o x4) q) (fun z => dc_wp ((fun (z : hg_S) => hm_NT_fold_L234 G z o) z) F) → hg_G X l (hg_rm 5 114 Z) D 9 q.1 92 [(0, va_rf (some o)), (4, .int x4), (5, .int q.2.1), (6, .int q.2.2)] [] := by
    intro x4
    refine dc_loopF ?_
    intro F_92 hl_92 hr_92
    have lab_228 : ∀ (S : hg_S) (x5 : Int32) (x6 : Int32), dc_wp (hm_NT_fold_L228 G S o x4 x5 x6) F_92 → hg_G X l (hg_rm 5 114 Z) D 9 S 228 [(0, va_rf (some o)), (4, .int x4), (5, .int x5), (6, .int x6)] [] := by
      intro S x5 x6 h
      delta hm_NT_fold_L228 at h
      refine hg_iinc (pc := 228) (i := 6) (v := (x6 + 1)) (lv' := [(6, .int (x6 + 1)), (0, va_rf (some o)), (4, .int x4), (5, .int x5)]) hC 3 rfl rfl (Nat.le_of_ble_eq_true rfl) rfl (show decode prog_7_method_4_code 228 = .ok (.iinc 6 1, 3) by decide +kernel) ?_
      refine hg_goto (pc := 231) (tgt := 92) hC (show decode prog_7_method_4_code 231 = .ok (.goto (-139), 3) by decide +kernel) (by decide +kernel) ?_
      exact hg_sub [1, 2, 3, 0] rfl (hl_92 (S, x5, (x6 + 1)) (dc_some h))
    have loop_160 : ∀ (x5 : Int32) (x6 : Int32) (x7 : Int32) (q : hg_S × Int32), dc_wp (dc_it (hm_NT_fold_s160 G o x4 x5 x6 x7) q) (fun z => dc_wp ((fun (z : hg_S) => hm_NT_fold_L228 G z o x4 x5 x6) z) F_92) → hg_G X l (hg_rm 5 114 Z) D 9 q.1 160 [(0, va_rf (some o)), (4, .int x4), (5, .int x5), (6, .int x6), (7, .int x7), (8, .int q.2)] [] := by
      intro x5 x6 x7
      refine dc_loopF ?_
      intro F_160 hl_160 hr_160
      have lab_221 : ∀ (S : hg_S) (x8 : Int32) (y0 : Int32) (y1 : Int32) (y2 : Option Nat), dc_wp (hm_NT_fold_L221 G S o x4 x5 x6 x7 x8 y0 y1 y2) F_160 → hg_G X l (hg_rm 5 114 Z) D 9 S 221 [(0, va_rf (some o)), (4, .int x4), (5, .int x5), (6, .int x6), (7, .int x7), (8, .int x8)] [.int y0, .int y1, va_rf y2] := by
        intro S x8 y0 y1 y2 h
        delta hm_NT_fold_L221 at h
        refine hg_riast (pc := 221) (r := y2) hC (show decode prog_7_method_4_code 221 = .ok (.iastore, 1) by decide +kernel) h ?_
        intro S3 h
        refine hg_iinc (pc := 222) (i := 8) (v := (x8 + 1)) (lv' := [(8, .int (x8 + 1)), (0, va_rf (some o)), (4, .int x4), (5, .int x5), (6, .int x6), (7, .int x7)]) hC 5 rfl rfl (Nat.le_of_ble_eq_true rfl) rfl (show decode prog_7_method_4_code 222 = .ok (.iinc 8 1, 3) by decide +kernel) ?_
        refine hg_goto (pc := 225) (tgt := 160) hC (show decode prog_7_method_4_code 225 = .ok (.goto (-65), 3) by decide +kernel) (by decide +kernel) ?_
        exact hg_sub [1, 2, 3, 4, 5, 0] rfl (hl_160 (S3, (x8 + 1)) (dc_some h))
      rintro ⟨S, x8⟩ h
      have h : dc_wp (hm_NT_fold_b160 G S o x4 x5 x6 x7 x8) F_160 := h
      delta hm_NT_fold_b160 at h
      refine hg_iload (pc := 160) (i := 8) hC 5 rfl (show decode prog_7_method_4_code 160 = .ok (.iload 8, 2) by decide +kernel) ?_
      refine hg_iload (pc := 162) (i := 5) hC 2 rfl (show decode prog_7_method_4_code 162 = .ok (.iload 5, 2) by decide +kernel) ?_
      refine hg_icmp_ge (pc := 164) (tgt := 228) hC (show decode prog_7_method_4_code 164 = .ok (.if_icmp .ge 64, 3) by decide +kernel) (by decide +kernel) h ?_ ?_
      · intro h
        refine hg_aloadn (pc := 167) (j := 0) (i := 0) (r := (some o)) hC 0 rfl rfl (show decode prog_7_method_4_code 167 = .ok (.aload_n 0, 1) by decide +kernel) ?_
        refine hg_rgr (pc := 168) (r := (some o)) hC fl_SignalEngine_Net_11 (show decode prog_7_method_4_code 168 = .ok (.getfield 11, 3) by decide +kernel) h ?_
        intro e4 h
        refine hg_iload (pc := 171) (i := 8) hC 5 rfl (show decode prog_7_method_4_code 171 = .ok (.iload 8, 2) by decide +kernel) ?_
        refine hg_iload (pc := 173) (i := 7) hC 4 rfl (show decode prog_7_method_4_code 173 = .ok (.iload 7, 2) by decide +kernel) ?_
        refine hg_if_eq (pc := 175) (tgt := 207) hC (show decode prog_7_method_4_code 175 = .ok (.ifCond .eq 32, 3) by decide +kernel) (by decide +kernel) h ?_ ?_
        · intro h
          refine hg_aloadn (pc := 207) (j := 0) (i := 0) (r := (some o)) hC 0 rfl rfl (show decode prog_7_method_4_code 207 = .ok (.aload_n 0, 1) by decide +kernel) ?_
          refine hg_iload (pc := 208) (i := 6) hC 3 rfl (show decode prog_7_method_4_code 208 = .ok (.iload 6, 2) by decide +kernel) ?_
          refine hg_aloadn (pc := 210) (j := 0) (i := 0) (r := (some o)) hC 0 rfl rfl (show decode prog_7_method_4_code 210 = .ok (.aload_n 0, 1) by decide +kernel) ?_
          refine hg_rgr (pc := 211) (r := (some o)) hC fl_SignalEngine_Net_11 (show decode prog_7_method_4_code 211 = .ok (.getfield 11, 3) by decide +kernel) h ?_
          intro e5 h
          refine hg_iload (pc := 214) (i := 8) hC 5 rfl (show decode prog_7_method_4_code 214 = .ok (.iload 8, 2) by decide +kernel) ?_
          refine hg_riald (pc := 216) (r := e5) hC (show decode prog_7_method_4_code 216 = .ok (.iaload, 1) by decide +kernel) h ?_
          intro e6 h
          refine hg_iconst (pc := 217) (v := 0) hC (show decode prog_7_method_4_code 217 = .ok (.iconst 0, 1) by decide +kernel) (by decide +kernel) ?_
          obtain ⟨b7, hb8, h⟩ := dc_bind h
          obtain ⟨hb8, hv9⟩ := hg_chk_of (C := R_NT) rfl hb8
          refine hg_kVi (pc := 218) (b := b7) (r := (some o)) (As := [.int x6, .int e6, .int 0]) (rest := [.int x8, va_rf e4]) (vo := fun q => q.2) (so := fun q => q.1) hC cw_SignalEngine_Net_73 (fun q hq => hm_NT_multiplexer_ok l D G S b7 x6 e6 (0 : Int32) q hq) (Nat.le_of_ble_eq_true rfl) (Nat.le_of_ble_eq_true rfl) hb8 hv9 rfl (by simp only [List.map, va_rf_cat]; exact Nat.le_of_ble_eq_true rfl) (show decode prog_7_method_4_code 218 = .ok (.invokevirtual 73, 3) by decide +kernel) h ?_
          intro q10 h
          exact lab_221 q10.1 x8 q10.2 x8 e4 h
        · intro h
          refine hg_aloadn (pc := 178) (j := 0) (i := 0) (r := (some o)) hC 0 rfl rfl (show decode prog_7_method_4_code 178 = .ok (.aload_n 0, 1) by decide +kernel) ?_
          refine hg_iload (pc := 179) (i := 6) hC 3 rfl (show decode prog_7_method_4_code 179 = .ok (.iload 6, 2) by decide +kernel) ?_
          refine hg_aloadn (pc := 181) (j := 0) (i := 0) (r := (some o)) hC 0 rfl rfl (show decode prog_7_method_4_code 181 = .ok (.aload_n 0, 1) by decide +kernel) ?_
          refine hg_rgr (pc := 182) (r := (some o)) hC fl_SignalEngine_Net_11 (show decode prog_7_method_4_code 182 = .ok (.getfield 11, 3) by decide +kernel) h ?_
          intro e11 h
          refine hg_iconst (pc := 185) (v := 2) hC (show decode prog_7_method_4_code 185 = .ok (.iconst 2, 1) by decide +kernel) (by decide +kernel) ?_
          refine hg_iload (pc := 186) (i := 8) hC 5 rfl (show decode prog_7_method_4_code 186 = .ok (.iload 8, 2) by decide +kernel) ?_
          refine hg_imul (pc := 188) hC (show decode prog_7_method_4_code 188 = .ok (.imul, 1) by decide +kernel) ?_
          refine hg_riald (pc := 189) (r := e11) hC (show decode prog_7_method_4_code 189 = .ok (.iaload, 1) by decide +kernel) h ?_
          intro e12 h
          refine hg_aloadn (pc := 190) (j := 0) (i := 0) (r := (some o)) hC 0 rfl rfl (show decode prog_7_method_4_code 190 = .ok (.aload_n 0, 1) by decide +kernel) ?_
          refine hg_rgr (pc := 191) (r := (some o)) hC fl_SignalEngine_Net_11 (show decode prog_7_method_4_code 191 = .ok (.getfield 11, 3) by decide +kernel) h ?_
          intro e13 h
          refine hg_iconst (pc := 194) (v := 2) hC (show decode prog_7_method_4_code 194 = .ok (.iconst 2, 1) by decide +kernel) (by decide +kernel) ?_
          refine hg_iload (pc := 195) (i := 8) hC 5 rfl (show decode prog_7_method_4_code 195 = .ok (.iload 8, 2) by decide +kernel) ?_
          refine hg_imul (pc := 197) hC (show decode prog_7_method_4_code 197 = .ok (.imul, 1) by decide +kernel) ?_
          refine hg_iconst (pc := 198) (v := 1) hC (show decode prog_7_method_4_code 198 = .ok (.iconst 1, 1) by decide +kernel) (by decide +kernel) ?_
          refine hg_iadd (pc := 199) hC (show decode prog_7_method_4_code 199 = .ok (.iadd, 1) by decide +kernel) ?_
          refine hg_riald (pc := 200) (r := e13) hC (show decode prog_7_method_4_code 200 = .ok (.iaload, 1) by decide +kernel) h ?_
          intro e14 h
          obtain ⟨b15, hb16, h⟩ := dc_bind h
          obtain ⟨hb16, hv17⟩ := hg_chk_of (C := R_NT) rfl hb16
          refine hg_kVi (pc := 201) (b := b15) (r := (some o)) (As := [.int x6, .int e12, .int e14]) (rest := [.int x8, va_rf e4]) (vo := fun q => q.2) (so := fun q => q.1) hC cw_SignalEngine_Net_73 (fun q hq => hm_NT_multiplexer_ok l D G S b15 x6 e12 e14 q hq) (Nat.le_of_ble_eq_true rfl) (Nat.le_of_ble_eq_true rfl) hb16 hv17 rfl (by simp only [List.map, va_rf_cat]; exact Nat.le_of_ble_eq_true rfl) (show decode prog_7_method_4_code 201 = .ok (.invokevirtual 73, 3) by decide +kernel) h ?_
          intro q18 h
          refine hg_goto (pc := 204) (tgt := 221) hC (show decode prog_7_method_4_code 204 = .ok (.goto 17, 3) by decide +kernel) (by decide +kernel) ?_
          exact lab_221 q18.1 x8 q18.2 x8 e4 h
      · intro h
        have h : dc_wp (hm_NT_fold_L228 G S o x4 x5 x6) F_92 := hr_160 S (dc_some h)
        exact hg_sub [0, 1, 2, 3] rfl (lab_228 S x5 x6 h)
    have lab_160 : ∀ (S : hg_S) (x5 : Int32) (x6 : Int32) (x7 : Int32) (x8 : Int32), dc_wp (hm_NT_fold_L160 G S o x4 x5 x6 x7 x8) F_92 → hg_G X l (hg_rm 5 114 Z) D 9 S 160 [(0, va_rf (some o)), (4, .int x4), (5, .int x5), (6, .int x6), (7, .int x7), (8, .int x8)] [] := fun S x5 x6 x7 x8 h => loop_160 x5 x6 x7 (S, x8) (dc_bind h)
    have lab_155 : ∀ (S : hg_S) (x6 : Int32) (x7 : Int32) (y0 : Int32), dc_wp (hm_NT_fold_L155 G S o x4 x6 x7 y0) F_92 → hg_G X l (hg_rm 5 114 Z) D 9 S 155 [(0, va_rf (some o)), (4, .int x4), (6, .int x6), (7, .int x7)] [.int y0] := by
      intro S x6 x7 y0 h
      delta hm_NT_fold_L155 at h
      refine hg_istore (pc := 155) (i := 5) (lv' := [(5, .int y0), (0, va_rf (some o)), (4, .int x4), (6, .int x6), (7, .int x7)]) hC (Nat.le_of_ble_eq_true rfl) rfl (show decode prog_7_method_4_code 155 = .ok (.istore 5, 2) by decide +kernel) ?_
      refine hg_iconst (pc := 157) (v := 0) hC (show decode prog_7_method_4_code 157 = .ok (.iconst 0, 1) by decide +kernel) (by decide +kernel) ?_
      refine hg_istore (pc := 158) (i := 8) (lv' := [(8, .int 0), (5, .int y0), (0, va_rf (some o)), (4, .int x4), (6, .int x6), (7, .int x7)]) hC (Nat.le_of_ble_eq_true rfl) rfl (show decode prog_7_method_4_code 158 = .ok (.istore 8, 2) by decide +kernel) ?_
      exact hg_sub [2, 3, 1, 4, 5, 0] rfl (lab_160 S y0 x6 x7 0 h)
    have lab_139 : ∀ (S : hg_S) (x5 : Int32) (x6 : Int32) (y0 : Int32), dc_wp (hm_NT_fold_L139 G S o x4 x5 x6 y0) F_92 → hg_G X l (hg_rm 5 114 Z) D 9 S 139 [(0, va_rf (some o)), (4, .int x4), (5, .int x5), (6, .int x6)] [.int y0] := by
      intro S x5 x6 y0 h
      delta hm_NT_fold_L139 at h
      refine hg_istore (pc := 139) (i := 7) (lv' := [(7, .int y0), (0, va_rf (some o)), (4, .int x4), (5, .int x5), (6, .int x6)]) hC (Nat.le_of_ble_eq_true rfl) rfl (show decode prog_7_method_4_code 139 = .ok (.istore 7, 2) by decide +kernel) ?_
      refine hg_iload (pc := 141) (i := 7) hC 0 rfl (show decode prog_7_method_4_code 141 = .ok (.iload 7, 2) by decide +kernel) ?_
      refine hg_if_eq (pc := 143) (tgt := 153) hC (show decode prog_7_method_4_code 143 = .ok (.ifCond .eq 10, 3) by decide +kernel) (by decide +kernel) h ?_ ?_
      · intro h
        refine hg_iload (pc := 153) (i := 5) hC 3 rfl (show decode prog_7_method_4_code 153 = .ok (.iload 5, 2) by decide +kernel) ?_
        exact hg_sub [1, 2, 4, 0] rfl (lab_155 S x6 y0 x5 h)
      · intro h
        refine hg_iload (pc := 146) (i := 5) hC 3 rfl (show decode prog_7_method_4_code 146 = .ok (.iload 5, 2) by decide +kernel) ?_
        refine hg_iconst (pc := 148) (v := 2) hC (show decode prog_7_method_4_code 148 = .ok (.iconst 2, 1) by decide +kernel) (by decide +kernel) ?_
        refine hg_idiv (pc := 149) hC (show decode prog_7_method_4_code 149 = .ok (.idiv, 1) by decide +kernel) (by decide +kernel) ?_
        refine hg_goto (pc := 150) (tgt := 155) hC (show decode prog_7_method_4_code 150 = .ok (.goto 5, 3) by decide +kernel) (by decide +kernel) ?_
        exact hg_sub [1, 2, 4, 0] rfl (lab_155 S x6 y0 (x5 / 2) h)
    rintro ⟨S, x5, x6⟩ h
    have h : dc_wp (hm_NT_fold_b92 G S o x4 x5 x6) F_92 := h
    delta hm_NT_fold_b92 at h
    refine hg_iload (pc := 92) (i := 6) hC 3 rfl (show decode prog_7_method_4_code 92 = .ok (.iload 6, 2) by decide +kernel) ?_
    refine hg_bipush (pc := 94) (v := 12) hC (show decode prog_7_method_4_code 94 = .ok (.bipush 12, 2) by decide +kernel) (by decide +kernel) ?_
    refine hg_icmp_ge (pc := 96) (tgt := 234) hC (show decode prog_7_method_4_code 96 = .ok (.if_icmp .ge 138, 3) by decide +kernel) (by decide +kernel) h ?_ ?_
    · intro h
      refine hg_iload (pc := 99) (i := 6) hC 3 rfl (show decode prog_7_method_4_code 99 = .ok (.iload 6, 2) by decide +kernel) ?_
      refine hg_iconst (pc := 101) (v := 4) hC (show decode prog_7_method_4_code 101 = .ok (.iconst 4, 1) by decide +kernel) (by decide +kernel) ?_
      refine hg_icmp_ge (pc := 102) (tgt := 124) hC (show decode prog_7_method_4_code 102 = .ok (.if_icmp .ge 22, 3) by decide +kernel) (by decide +kernel) h ?_ ?_
      · intro h
        refine hg_iconst (pc := 105) (v := 3) hC (show decode prog_7_method_4_code 105 = .ok (.iconst 3, 1) by decide +kernel) (by decide +kernel) ?_
        refine hg_iload (pc := 106) (i := 6) hC 3 rfl (show decode prog_7_method_4_code 106 = .ok (.iload 6, 2) by decide +kernel) ?_
        refine hg_isub (pc := 108) hC (show decode prog_7_method_4_code 108 = .ok (.isub, 1) by decide +kernel) ?_
        refine hg_aloadn (pc := 109) (j := 0) (i := 0) (r := (some o)) hC 0 rfl rfl (show decode prog_7_method_4_code 109 = .ok (.aload_n 0, 1) by decide +kernel) ?_
        refine hg_rgi (pc := 110) (r := (some o)) hC fl_SignalEngine_Net_57 (show decode prog_7_method_4_code 110 = .ok (.getfield 57, 3) by decide +kernel) h ?_
        intro e19 h
        refine hg_icmp_ge (pc := 113) (tgt := 120) hC (show decode prog_7_method_4_code 113 = .ok (.if_icmp .ge 7, 3) by decide +kernel) (by decide +kernel) h ?_ ?_
        · intro h
          refine hg_iconst (pc := 116) (v := 1) hC (show decode prog_7_method_4_code 116 = .ok (.iconst 1, 1) by decide +kernel) (by decide +kernel) ?_
          refine hg_goto (pc := 117) (tgt := 139) hC (show decode prog_7_method_4_code 117 = .ok (.goto 22, 3) by decide +kernel) (by decide +kernel) ?_
          exact lab_139 S x5 x6 1 h
        · intro h
          refine hg_iconst (pc := 120) (v := 0) hC (show decode prog_7_method_4_code 120 = .ok (.iconst 0, 1) by decide +kernel) (by decide +kernel) ?_
          refine hg_goto (pc := 121) (tgt := 139) hC (show decode prog_7_method_4_code 121 = .ok (.goto 18, 3) by decide +kernel) (by decide +kernel) ?_
          exact lab_139 S x5 x6 0 h
      · intro h
        refine hg_bipush (pc := 124) (v := 11) hC (show decode prog_7_method_4_code 124 = .ok (.bipush 11, 2) by decide +kernel) (by decide +kernel) ?_
        refine hg_iload (pc := 126) (i := 6) hC 3 rfl (show decode prog_7_method_4_code 126 = .ok (.iload 6, 2) by decide +kernel) ?_
        refine hg_isub (pc := 128) hC (show decode prog_7_method_4_code 128 = .ok (.isub, 1) by decide +kernel) ?_
        refine hg_iload (pc := 129) (i := 4) hC 1 rfl (show decode prog_7_method_4_code 129 = .ok (.iload 4, 2) by decide +kernel) ?_
        refine hg_icmp_ge (pc := 131) (tgt := 138) hC (show decode prog_7_method_4_code 131 = .ok (.if_icmp .ge 7, 3) by decide +kernel) (by decide +kernel) h ?_ ?_
        · intro h
          refine hg_iconst (pc := 134) (v := 1) hC (show decode prog_7_method_4_code 134 = .ok (.iconst 1, 1) by decide +kernel) (by decide +kernel) ?_
          refine hg_goto (pc := 135) (tgt := 139) hC (show decode prog_7_method_4_code 135 = .ok (.goto 4, 3) by decide +kernel) (by decide +kernel) ?_
          exact lab_139 S x5 x6 1 h
        · intro h
          refine hg_iconst (pc := 138) (v := 0) hC (show decode prog_7_method_4_code 138 = .ok (.iconst 0, 1) by decide +kernel) (by decide +kernel) ?_
          exact lab_139 S x5 x6 0 h
    · intro h
      have h : dc_wp (hm_NT_fold_L234 G S o) F := hr_92 S (dc_some h)
      exact hg_sub [0] rfl (lab_234 S h)
  have lab_92 : ∀ (S : hg_S) (x4 : Int32) (x5 : Int32) (x6 : Int32), dc_wp (hm_NT_fold_L92 G S o x4 x5 x6) F → hg_G X l (hg_rm 5 114 Z) D 9 S 92 [(0, va_rf (some o)), (4, .int x4), (5, .int x5), (6, .int x6)] [] := fun S x4 x5 x6 h => loop_92 x4 (S, x5, x6) (dc_bind h)
  have lab_89 : ∀ (S : hg_S) (x4 : Int32) (x5 : Int32), dc_wp (hm_NT_fold_L89 G S o x4 x5) F → hg_G X l (hg_rm 5 114 Z) D 9 S 89 [(0, va_rf (some o)), (4, .int x4), (5, .int x5)] [] := by
    intro S x4 x5 h
    delta hm_NT_fold_L89 at h
    refine hg_iconst (pc := 89) (v := 0) hC (show decode prog_7_method_4_code 89 = .ok (.iconst 0, 1) by decide +kernel) (by decide +kernel) ?_
    refine hg_istore (pc := 90) (i := 6) (lv' := [(6, .int 0), (0, va_rf (some o)), (4, .int x4), (5, .int x5)]) hC (Nat.le_of_ble_eq_true rfl) rfl (show decode prog_7_method_4_code 90 = .ok (.istore 6, 2) by decide +kernel) ?_
    exact hg_sub [1, 2, 3, 0] rfl (lab_92 S x4 x5 0 h)
  have loop_28 : ∀ (x1 : Int32) (x2 : Int32) (x3 : Option Nat) (x4 : Int32) (x5 : Int32) (q : hg_S × Int32), dc_wp (dc_it (hm_NT_fold_s28 G o x1 x2 x3 x4 x5) q) (fun z => dc_wp ((fun (z : hg_S) => hm_NT_fold_L89 G z o x4 x5) z) F) → hg_G X l (hg_rm 5 114 Z) D 9 q.1 28 [(0, va_rf (some o)), (1, .int x1), (2, .int x2), (3, va_rf x3), (4, .int x4), (5, .int x5), (6, .int q.2)] [] := by
    intro x1 x2 x3 x4 x5
    refine dc_loopF ?_
    intro F_28 hl_28 hr_28
    have lab_57 : ∀ (S : hg_S) (x6 : Int32) (y0 : Int32), dc_wp (hm_NT_fold_L57 G S o x1 x2 x3 x4 x5 x6 y0) F_28 → hg_G X l (hg_rm 5 114 Z) D 9 S 57 [(0, va_rf (some o)), (1, .int x1), (2, .int x2), (3, va_rf x3), (4, .int x4), (5, .int x5), (6, .int x6)] [.int y0] := by
      intro S x6 y0 h
      delta hm_NT_fold_L57 at h
      refine hg_istore (pc := 57) (i := 7) (lv' := [(7, .int y0), (0, va_rf (some o)), (1, .int x1), (2, .int x2), (3, va_rf x3), (4, .int x4), (5, .int x5), (6, .int x6)]) hC (Nat.le_of_ble_eq_true rfl) rfl (show decode prog_7_method_4_code 57 = .ok (.istore 7, 2) by decide +kernel) ?_
      refine hg_aloadn (pc := 59) (j := 0) (i := 0) (r := (some o)) hC 1 rfl rfl (show decode prog_7_method_4_code 59 = .ok (.aload_n 0, 1) by decide +kernel) ?_
      refine hg_rgr (pc := 60) (r := (some o)) hC fl_SignalEngine_Net_11 (show decode prog_7_method_4_code 60 = .ok (.getfield 11, 3) by decide +kernel) h ?_
      intro e20 h
      refine hg_iload (pc := 63) (i := 6) hC 7 rfl (show decode prog_7_method_4_code 63 = .ok (.iload 6, 2) by decide +kernel) ?_
      refine hg_aloadn (pc := 65) (j := 0) (i := 0) (r := (some o)) hC 1 rfl rfl (show decode prog_7_method_4_code 65 = .ok (.aload_n 0, 1) by decide +kernel) ?_
      refine hg_iloadn (pc := 66) (j := 1) (i := 1) hC 2 rfl rfl (show decode prog_7_method_4_code 66 = .ok (.iload_n 1, 1) by decide +kernel) ?_
      refine hg_iload (pc := 67) (i := 7) hC 0 rfl (show decode prog_7_method_4_code 67 = .ok (.iload 7, 2) by decide +kernel) ?_
      refine hg_iload (pc := 69) (i := 6) hC 7 rfl (show decode prog_7_method_4_code 69 = .ok (.iload 6, 2) by decide +kernel) ?_
      refine hg_aloadn (pc := 71) (j := 0) (i := 0) (r := (some o)) hC 1 rfl rfl (show decode prog_7_method_4_code 71 = .ok (.aload_n 0, 1) by decide +kernel) ?_
      refine hg_rgi (pc := 72) (r := (some o)) hC fl_SignalEngine_Net_57 (show decode prog_7_method_4_code 72 = .ok (.getfield 57, 3) by decide +kernel) h ?_
      intro e21 h
      refine hg_kSi (pc := 75) (As := [.int x6, .int e21]) (rest := [.int y0, .int x1, va_rf (some o), .int x6, va_rf e20]) (vo := fun q => q) (so := fun q => S) hC cw_SignalEngine_Net_77 (fun q hq => hm_NT_turned_ok l D G S x6 e21 q hq) (Nat.le_of_ble_eq_true rfl) (Nat.le_of_ble_eq_true rfl) rfl (by simp only [List.map, va_rf_cat]; exact Nat.le_of_ble_eq_true rfl) (show decode prog_7_method_4_code 75 = .ok (.invokestatic 77, 3) by decide +kernel) h ?_
      intro q22 h
      refine hg_aloadn (pc := 78) (j := 3) (i := 3) (r := x3) hC 4 rfl rfl (show decode prog_7_method_4_code 78 = .ok (.aload_n 3, 1) by decide +kernel) ?_
      obtain ⟨b23, hb24, h⟩ := dc_bind h
      obtain ⟨hb24, hv25⟩ := hg_chk_of (C := R_NT) rfl hb24
      refine hg_kVi (pc := 79) (b := b23) (r := (some o)) (As := [.int x1, .int y0, .int q22, va_rf x3]) (rest := [.int x6, va_rf e20]) (vo := fun q => q) (so := fun q => S) hC cw_SignalEngine_Net_81 (fun q hq => hm_NT_truth_ok l D G S b23 x1 y0 q22 x3 q hq) (Nat.le_of_ble_eq_true rfl) (Nat.le_of_ble_eq_true rfl) hb24 hv25 rfl (by simp only [List.map, va_rf_cat]; exact Nat.le_of_ble_eq_true rfl) (show decode prog_7_method_4_code 79 = .ok (.invokevirtual 81, 3) by decide +kernel) h ?_
      intro q26 h
      refine hg_riast (pc := 82) (r := e20) hC (show decode prog_7_method_4_code 82 = .ok (.iastore, 1) by decide +kernel) h ?_
      intro S27 h
      refine hg_iinc (pc := 83) (i := 6) (v := (x6 + 1)) (lv' := [(6, .int (x6 + 1)), (7, .int y0), (0, va_rf (some o)), (1, .int x1), (2, .int x2), (3, va_rf x3), (4, .int x4), (5, .int x5)]) hC 7 rfl rfl (Nat.le_of_ble_eq_true rfl) rfl (show decode prog_7_method_4_code 83 = .ok (.iinc 6 1, 3) by decide +kernel) ?_
      refine hg_goto (pc := 86) (tgt := 28) hC (show decode prog_7_method_4_code 86 = .ok (.goto (-58), 3) by decide +kernel) (by decide +kernel) ?_
      exact hg_sub [2, 3, 4, 5, 6, 7, 0] rfl (hl_28 (S27, (x6 + 1)) (dc_some h))
    rintro ⟨S, x6⟩ h
    have h : dc_wp (hm_NT_fold_b28 G S o x1 x2 x3 x4 x5 x6) F_28 := h
    delta hm_NT_fold_b28 at h
    refine hg_iload (pc := 28) (i := 6) hC 6 rfl (show decode prog_7_method_4_code 28 = .ok (.iload 6, 2) by decide +kernel) ?_
    refine hg_iload (pc := 30) (i := 5) hC 5 rfl (show decode prog_7_method_4_code 30 = .ok (.iload 5, 2) by decide +kernel) ?_
    refine hg_icmp_ge (pc := 32) (tgt := 89) hC (show decode prog_7_method_4_code 32 = .ok (.if_icmp .ge 57, 3) by decide +kernel) (by decide +kernel) h ?_ ?_
    · intro h
      refine hg_iloadn (pc := 35) (j := 2) (i := 2) hC 2 rfl rfl (show decode prog_7_method_4_code 35 = .ok (.iload_n 2, 1) by decide +kernel) ?_
      refine hg_if_eq (pc := 36) (tgt := 45) hC (show decode prog_7_method_4_code 36 = .ok (.ifCond .eq 9, 3) by decide +kernel) (by decide +kernel) h ?_ ?_
      · intro h
        refine hg_iload (pc := 45) (i := 6) hC 6 rfl (show decode prog_7_method_4_code 45 = .ok (.iload 6, 2) by decide +kernel) ?_
        refine hg_aloadn (pc := 47) (j := 0) (i := 0) (r := (some o)) hC 0 rfl rfl (show decode prog_7_method_4_code 47 = .ok (.aload_n 0, 1) by decide +kernel) ?_
        refine hg_rgi (pc := 48) (r := (some o)) hC fl_SignalEngine_Net_57 (show decode prog_7_method_4_code 48 = .ok (.getfield 57, 3) by decide +kernel) h ?_
        intro e28 h
        refine hg_iushr (pc := 51) hC (show decode prog_7_method_4_code 51 = .ok (.iushr, 1) by decide +kernel) ?_
        refine hg_iload (pc := 52) (i := 4) hC 4 rfl (show decode prog_7_method_4_code 52 = .ok (.iload 4, 2) by decide +kernel) ?_
        refine hg_kSi (pc := 54) (As := [.int (((Int32.toUInt32 x6 >>> (Int32.toUInt32 e28 &&& Int32.toUInt32 31)).toInt32)), .int x4]) (rest := []) (vo := fun q => q) (so := fun q => S) hC cw_SignalEngine_Net_77 (fun q hq => hm_NT_turned_ok l D G S (((Int32.toUInt32 x6 >>> (Int32.toUInt32 e28 &&& Int32.toUInt32 31)).toInt32)) x4 q hq) (Nat.le_of_ble_eq_true rfl) (Nat.le_of_ble_eq_true rfl) rfl (Nat.le_of_ble_eq_true rfl) (show decode prog_7_method_4_code 54 = .ok (.invokestatic 77, 3) by decide +kernel) h ?_
        intro q29 h
        exact lab_57 S x6 q29 h
      · intro h
        refine hg_sipush (pc := 39) (v := 256) hC (show decode prog_7_method_4_code 39 = .ok (.sipush 256, 3) by decide +kernel) (by decide +kernel) ?_
        refine hg_goto (pc := 42) (tgt := 57) hC (show decode prog_7_method_4_code 42 = .ok (.goto 15, 3) by decide +kernel) (by decide +kernel) ?_
        exact lab_57 S x6 256 h
    · intro h
      have h : dc_wp (hm_NT_fold_L89 G S o x4 x5) F := hr_28 S (dc_some h)
      exact hg_sub [0, 4, 5] rfl (lab_89 S x4 x5 h)
  have lab_28 : ∀ (S : hg_S) (x1 : Int32) (x2 : Int32) (x3 : Option Nat) (x4 : Int32) (x5 : Int32) (x6 : Int32), dc_wp (hm_NT_fold_L28 G S o x1 x2 x3 x4 x5 x6) F → hg_G X l (hg_rm 5 114 Z) D 9 S 28 [(0, va_rf (some o)), (1, .int x1), (2, .int x2), (3, va_rf x3), (4, .int x4), (5, .int x5), (6, .int x6)] [] := fun S x1 x2 x3 x4 x5 x6 h => loop_28 x1 x2 x3 x4 x5 (S, x6) (dc_bind h)
  have lab_12 : ∀ (S : hg_S) (x1 : Int32) (x2 : Int32) (x3 : Option Nat) (y0 : Int32), dc_wp (hm_NT_fold_L12 G S o x1 x2 x3 y0) F → hg_G X l (hg_rm 5 114 Z) D 9 S 12 [(0, va_rf (some o)), (1, .int x1), (2, .int x2), (3, va_rf x3)] [.int y0] := by
    intro S x1 x2 x3 y0 h
    delta hm_NT_fold_L12 at h
    refine hg_istore (pc := 12) (i := 4) (lv' := [(4, .int y0), (0, va_rf (some o)), (1, .int x1), (2, .int x2), (3, va_rf x3)]) hC (Nat.le_of_ble_eq_true rfl) (by simp [va_rf_cat, hg_cti]) (show decode prog_7_method_4_code 12 = .ok (.istore 4, 2) by decide +kernel) ?_
    refine hg_iconst (pc := 14) (v := 1) hC (show decode prog_7_method_4_code 14 = .ok (.iconst 1, 1) by decide +kernel) (by decide +kernel) ?_
    refine hg_iload (pc := 15) (i := 4) hC 0 rfl (show decode prog_7_method_4_code 15 = .ok (.iload 4, 2) by decide +kernel) ?_
    refine hg_aloadn (pc := 17) (j := 0) (i := 0) (r := (some o)) hC 1 rfl rfl (show decode prog_7_method_4_code 17 = .ok (.aload_n 0, 1) by decide +kernel) ?_
    refine hg_rgi (pc := 18) (r := (some o)) hC fl_SignalEngine_Net_57 (show decode prog_7_method_4_code 18 = .ok (.getfield 57, 3) by decide +kernel) h ?_
    intro e30 h
    refine hg_iadd (pc := 21) hC (show decode prog_7_method_4_code 21 = .ok (.iadd, 1) by decide +kernel) ?_
    refine hg_ishl (pc := 22) hC (show decode prog_7_method_4_code 22 = .ok (.ishl, 1) by decide +kernel) ?_
    refine hg_letI h ?_
    intro v31 h
    refine hg_istore (pc := 23) (i := 5) (lv' := [(5, .int v31), (4, .int y0), (0, va_rf (some o)), (1, .int x1), (2, .int x2), (3, va_rf x3)]) hC (Nat.le_of_ble_eq_true rfl) rfl (show decode prog_7_method_4_code 23 = .ok (.istore 5, 2) by decide +kernel) ?_
    refine hg_iconst (pc := 25) (v := 0) hC (show decode prog_7_method_4_code 25 = .ok (.iconst 0, 1) by decide +kernel) (by decide +kernel) ?_
    refine hg_istore (pc := 26) (i := 6) (lv' := [(6, .int 0), (5, .int v31), (4, .int y0), (0, va_rf (some o)), (1, .int x1), (2, .int x2), (3, va_rf x3)]) hC (Nat.le_of_ble_eq_true rfl) rfl (show decode prog_7_method_4_code 26 = .ok (.istore 6, 2) by decide +kernel) ?_
    exact hg_sub [3, 4, 5, 6, 2, 1, 0] rfl (lab_28 S x1 x2 x3 y0 v31 0 h)
  show hg_G X l (hg_rm 5 114 Z) D 9 Z 0 [(0, va_rf (some o)), (1, .int p1), (2, .int p2), (3, va_rf p3)] []
  have h : dc_wp (hm_NT_fold G Z o p1 p2 p3) F := h
  delta hm_NT_fold at h
  refine hg_iloadn (pc := 0) (j := 2) (i := 2) hC 2 rfl rfl (show decode prog_7_method_4_code 0 = .ok (.iload_n 2, 1) by decide +kernel) ?_
  refine hg_if_eq (pc := 1) (tgt := 8) hC (show decode prog_7_method_4_code 1 = .ok (.ifCond .eq 7, 3) by decide +kernel) (by decide +kernel) h ?_ ?_
  · intro h
    refine hg_aloadn (pc := 8) (j := 0) (i := 0) (r := (some o)) hC 0 rfl rfl (show decode prog_7_method_4_code 8 = .ok (.aload_n 0, 1) by decide +kernel) ?_
    refine hg_rgi (pc := 9) (r := (some o)) hC fl_SignalEngine_Net_65 (show decode prog_7_method_4_code 9 = .ok (.getfield 65, 3) by decide +kernel) h ?_
    intro e32 h
    exact lab_12 Z p1 p2 p3 e32 h
  · intro h
    refine hg_iconst (pc := 4) (v := 0) hC (show decode prog_7_method_4_code 4 = .ok (.iconst 0, 1) by decide +kernel) (by decide +kernel) ?_
    refine hg_goto (pc := 5) (tgt := 12) hC (show decode prog_7_method_4_code 5 = .ok (.goto 7, 3) by decide +kernel) (by decide +kernel) ?_
    exact lab_12 Z p1 p2 p3 0 h
noncomputable def hm_NT_build_L123 (G : hg_E) (S : hg_S) (o : Nat) : Option (hg_S) :=
  some S
noncomputable def hm_NT_build_b75 (G : hg_E) (S : hg_S) (o : Nat) (x2 : Option Nat) (x3 : Int32) : Option ((hg_S × Int32) ⊕ ((hg_S))) :=
  (hg_gi S (some o) 12 13).bind fun e1 => if x3 < e1 then ((hg_chk S (some o) 12).bind fun b2 => (hm_NT_fold G S b2 x3 (0 : Int32) x2).bind fun q5 => (hg_chk q5.1 (some o) 12).bind fun b6 => (hm_NT_fold G q5.1 b6 x3 (1 : Int32) x2).bind fun q9 => (hg_gr q9.1 (some o) 12 3).bind fun e10 => (hg_chk q9.1 (some o) 12).bind fun b11 => (hm_NT_multiplexer G q9.1 b11 (12 : Int32) q5.2 q9.2).bind fun q14 => (hg_st q14.1 e10 (G.1 0) x3 q14.2).bind fun S15 => some (.inl (S15, (x3 + 1)))) else (some (.inr S))
noncomputable def hm_NT_build_s75 (G : hg_E) (o : Nat) (x2 : Option Nat) (q : hg_S × Int32) : Option ((hg_S × Int32) ⊕ ((hg_S))) :=
  hm_NT_build_b75 G q.1 o x2 q.2
noncomputable def hm_NT_build_L75 (G : hg_E) (S : hg_S) (o : Nat) (x2 : Option Nat) (x3 : Int32) : Option (hg_S) :=
  (dc_it (hm_NT_build_s75 G o x2) (S, x3)).bind (fun (z : hg_S) => hm_NT_build_L123 G z o)
noncomputable def hm_NT_build (G : hg_E) (S : hg_S) (o : Nat) (p1 : Option Nat) (p2 : Option Nat) : Option (hg_S) :=
  (hg_gr S (some o) 12 1).bind fun e16 => (hm_JA_fill G S e16 ((-1) : Int32)).bind fun q17 => (hg_gr q17 (some o) 12 2).bind fun e18 => (hm_JA_fill G q17 e18 (0 : Int32)).bind fun q19 => (hg_gr q19 (some o) 12 8).bind fun e20 => (hm_JA_fill G q19 e20 (0 : Int32)).bind fun q21 => (hg_pf q21 (some o) 12 14 (.int 0)).bind fun S22 => (hg_pf S22 (some o) 12 9 (.int 2)).bind fun S23 => (hg_gi S23 p1 9 1).bind fun e24 => (hg_pf S23 (some o) 12 10 (.int e24)).bind fun S25 => (hg_gi S25 p1 9 2).bind fun e26 => (hg_pf S25 (some o) 12 11 (.int e26)).bind fun S27 => (hg_gi S27 p1 9 3).bind fun e28 => (hg_pf S27 (some o) 12 12 (.int e28)).bind fun S29 => (hg_gi S29 (some o) 12 11).bind fun e30 => (hg_gi S29 (some o) 12 12).bind fun e31 => (hg_pf S29 (some o) 12 13 (.int ((e30 + e31) + 1))).bind fun S32 => hm_NT_build_L75 G S32 o p2 0
set_option maxHeartbeats 4000000 in
set_option maxRecDepth 100000 in
/-- SignalEngine$Net.build(LSignalEngine$Program;LSignalEngine$Atlas;)V -/
theorem hm_NT_build_ok (l : Launch) (D : va_G) (G : hg_E) (Z : hg_S) (o : Nat) (p1 : Option Nat) (p2 : Option Nat) (q : hg_S) (hq : hm_NT_build G Z o p1 p2 = some q) : hg_C l ⟨"SignalEngine$Net", "build", "(LSignalEngine$Program;LSignalEngine$Atlas;)V"⟩ prog_7_method_3_code 6 none 6 142 D G [.ref o, va_rf p1, va_rf p2] Z (.inl (none, q) : hg_O) := by
  refine hg_start (cv := fun q => (.inl (none, q) : hg_O)) hq ?_
  intro F hF h
  refine hg_enter (lv := [(0, va_rf (some o)), (1, va_rf p1), (2, va_rf p2)]) (by decide +kernel) (by simp [lg_sl, va_rf_cat, hg_cti, hg_ctr]) (by simp [lv_args, va_rf_cat, va_rf_some, hg_cti, hg_ctr]) ?_
  intro X hC hR
  have lab_123 : ∀ (S : hg_S), dc_wp (hm_NT_build_L123 G S o) F → hg_G X l (hg_rm 6 142 Z) D 6 S 123 [(0, va_rf (some o))] [] := by
    intro S  h
    delta hm_NT_build_L123 at h
    exact hg_vret (pc := 123) hC hR (hF _ (dc_some h)) (show decode prog_7_method_3_code 123 = .ok (.return_, 1) by decide +kernel)
  have loop_75 : ∀ (x2 : Option Nat) (q : hg_S × Int32), dc_wp (dc_it (hm_NT_build_s75 G o x2) q) (fun z => dc_wp ((fun (z : hg_S) => hm_NT_build_L123 G z o) z) F) → hg_G X l (hg_rm 6 142 Z) D 6 q.1 75 [(0, va_rf (some o)), (2, va_rf x2), (3, .int q.2)] [] := by
    intro x2
    refine dc_loopF ?_
    intro F_75 hl_75 hr_75
    rintro ⟨S, x3⟩ h
    have h : dc_wp (hm_NT_build_b75 G S o x2 x3) F_75 := h
    delta hm_NT_build_b75 at h
    refine hg_iloadn (pc := 75) (j := 3) (i := 3) hC 2 rfl rfl (show decode prog_7_method_3_code 75 = .ok (.iload_n 3, 1) by decide +kernel) ?_
    refine hg_aloadn (pc := 76) (j := 0) (i := 0) (r := (some o)) hC 0 rfl rfl (show decode prog_7_method_3_code 76 = .ok (.aload_n 0, 1) by decide +kernel) ?_
    refine hg_rgi (pc := 77) (r := (some o)) hC fl_SignalEngine_Net_66 (show decode prog_7_method_3_code 77 = .ok (.getfield 66, 3) by decide +kernel) h ?_
    intro e1 h
    refine hg_icmp_ge (pc := 80) (tgt := 123) hC (show decode prog_7_method_3_code 80 = .ok (.if_icmp .ge 43, 3) by decide +kernel) (by decide +kernel) h ?_ ?_
    · intro h
      refine hg_aloadn (pc := 83) (j := 0) (i := 0) (r := (some o)) hC 0 rfl rfl (show decode prog_7_method_3_code 83 = .ok (.aload_n 0, 1) by decide +kernel) ?_
      refine hg_iloadn (pc := 84) (j := 3) (i := 3) hC 2 rfl rfl (show decode prog_7_method_3_code 84 = .ok (.iload_n 3, 1) by decide +kernel) ?_
      refine hg_iconst (pc := 85) (v := 0) hC (show decode prog_7_method_3_code 85 = .ok (.iconst 0, 1) by decide +kernel) (by decide +kernel) ?_
      refine hg_aloadn (pc := 86) (j := 2) (i := 2) (r := x2) hC 1 rfl rfl (show decode prog_7_method_3_code 86 = .ok (.aload_n 2, 1) by decide +kernel) ?_
      obtain ⟨b2, hb3, h⟩ := dc_bind h
      obtain ⟨hb3, hv4⟩ := hg_chk_of (C := R_NT) rfl hb3
      refine hg_kVi (pc := 87) (b := b2) (r := (some o)) (As := [.int x3, .int 0, va_rf x2]) (rest := []) (vo := fun q => q.2) (so := fun q => q.1) hC cw_SignalEngine_Net_69 (fun q hq => hm_NT_fold_ok l D G S b2 x3 (0 : Int32) x2 q hq) (Nat.le_of_ble_eq_true rfl) (Nat.le_of_ble_eq_true rfl) hb3 hv4 rfl (Nat.le_of_ble_eq_true rfl) (show decode prog_7_method_3_code 87 = .ok (.invokevirtual 69, 3) by decide +kernel) h ?_
      intro q5 h
      refine hg_istore (pc := 90) (i := 4) (lv' := [(4, .int q5.2), (0, va_rf (some o)), (2, va_rf x2), (3, .int x3)]) hC (Nat.le_of_ble_eq_true rfl) rfl (show decode prog_7_method_3_code 90 = .ok (.istore 4, 2) by decide +kernel) ?_
      refine hg_aloadn (pc := 92) (j := 0) (i := 0) (r := (some o)) hC 1 rfl rfl (show decode prog_7_method_3_code 92 = .ok (.aload_n 0, 1) by decide +kernel) ?_
      refine hg_iloadn (pc := 93) (j := 3) (i := 3) hC 3 rfl rfl (show decode prog_7_method_3_code 93 = .ok (.iload_n 3, 1) by decide +kernel) ?_
      refine hg_iconst (pc := 94) (v := 1) hC (show decode prog_7_method_3_code 94 = .ok (.iconst 1, 1) by decide +kernel) (by decide +kernel) ?_
      refine hg_aloadn (pc := 95) (j := 2) (i := 2) (r := x2) hC 2 rfl rfl (show decode prog_7_method_3_code 95 = .ok (.aload_n 2, 1) by decide +kernel) ?_
      obtain ⟨b6, hb7, h⟩ := dc_bind h
      obtain ⟨hb7, hv8⟩ := hg_chk_of (C := R_NT) rfl hb7
      refine hg_kVi (pc := 96) (b := b6) (r := (some o)) (As := [.int x3, .int 1, va_rf x2]) (rest := []) (vo := fun q => q.2) (so := fun q => q.1) hC cw_SignalEngine_Net_69 (fun q hq => hm_NT_fold_ok l D G q5.1 b6 x3 (1 : Int32) x2 q hq) (Nat.le_of_ble_eq_true rfl) (Nat.le_of_ble_eq_true rfl) hb7 hv8 rfl (Nat.le_of_ble_eq_true rfl) (show decode prog_7_method_3_code 96 = .ok (.invokevirtual 69, 3) by decide +kernel) h ?_
      intro q9 h
      refine hg_istore (pc := 99) (i := 5) (lv' := [(5, .int q9.2), (4, .int q5.2), (0, va_rf (some o)), (2, va_rf x2), (3, .int x3)]) hC (Nat.le_of_ble_eq_true rfl) rfl (show decode prog_7_method_3_code 99 = .ok (.istore 5, 2) by decide +kernel) ?_
      refine hg_aloadn (pc := 101) (j := 0) (i := 0) (r := (some o)) hC 2 rfl rfl (show decode prog_7_method_3_code 101 = .ok (.aload_n 0, 1) by decide +kernel) ?_
      refine hg_rgr (pc := 102) (r := (some o)) hC fl_SignalEngine_Net_21 (show decode prog_7_method_3_code 102 = .ok (.getfield 21, 3) by decide +kernel) h ?_
      intro e10 h
      refine hg_iloadn (pc := 105) (j := 3) (i := 3) hC 4 rfl rfl (show decode prog_7_method_3_code 105 = .ok (.iload_n 3, 1) by decide +kernel) ?_
      refine hg_aloadn (pc := 106) (j := 0) (i := 0) (r := (some o)) hC 2 rfl rfl (show decode prog_7_method_3_code 106 = .ok (.aload_n 0, 1) by decide +kernel) ?_
      refine hg_bipush (pc := 107) (v := 12) hC (show decode prog_7_method_3_code 107 = .ok (.bipush 12, 2) by decide +kernel) (by decide +kernel) ?_
      refine hg_iload (pc := 109) (i := 4) hC 1 rfl (show decode prog_7_method_3_code 109 = .ok (.iload 4, 2) by decide +kernel) ?_
      refine hg_iload (pc := 111) (i := 5) hC 0 rfl (show decode prog_7_method_3_code 111 = .ok (.iload 5, 2) by decide +kernel) ?_
      obtain ⟨b11, hb12, h⟩ := dc_bind h
      obtain ⟨hb12, hv13⟩ := hg_chk_of (C := R_NT) rfl hb12
      refine hg_kVi (pc := 113) (b := b11) (r := (some o)) (As := [.int 12, .int q5.2, .int q9.2]) (rest := [.int x3, va_rf e10]) (vo := fun q => q.2) (so := fun q => q.1) hC cw_SignalEngine_Net_73 (fun q hq => hm_NT_multiplexer_ok l D G q9.1 b11 (12 : Int32) q5.2 q9.2 q hq) (Nat.le_of_ble_eq_true rfl) (Nat.le_of_ble_eq_true rfl) hb12 hv13 rfl (by simp only [List.map, va_rf_cat]; exact Nat.le_of_ble_eq_true rfl) (show decode prog_7_method_3_code 113 = .ok (.invokevirtual 73, 3) by decide +kernel) h ?_
      intro q14 h
      refine hg_riast (pc := 116) (r := e10) hC (show decode prog_7_method_3_code 116 = .ok (.iastore, 1) by decide +kernel) h ?_
      intro S15 h
      refine hg_iinc (pc := 117) (i := 3) (v := (x3 + 1)) (lv' := [(3, .int (x3 + 1)), (5, .int q9.2), (4, .int q5.2), (0, va_rf (some o)), (2, va_rf x2)]) hC 4 rfl rfl (Nat.le_of_ble_eq_true rfl) (by simp [va_rf_cat, hg_cti]) (show decode prog_7_method_3_code 117 = .ok (.iinc 3 1, 3) by decide +kernel) ?_
      refine hg_goto (pc := 120) (tgt := 75) hC (show decode prog_7_method_3_code 120 = .ok (.goto (-45), 3) by decide +kernel) (by decide +kernel) ?_
      exact hg_sub [3, 4, 0] rfl (hl_75 (S15, (x3 + 1)) (dc_some h))
    · intro h
      have h : dc_wp (hm_NT_build_L123 G S o) F := hr_75 S (dc_some h)
      exact hg_sub [0] rfl (lab_123 S h)
  have lab_75 : ∀ (S : hg_S) (x2 : Option Nat) (x3 : Int32), dc_wp (hm_NT_build_L75 G S o x2 x3) F → hg_G X l (hg_rm 6 142 Z) D 6 S 75 [(0, va_rf (some o)), (2, va_rf x2), (3, .int x3)] [] := fun S x2 x3 h => loop_75 x2 (S, x3) (dc_bind h)
  show hg_G X l (hg_rm 6 142 Z) D 6 Z 0 [(0, va_rf (some o)), (1, va_rf p1), (2, va_rf p2)] []
  have h : dc_wp (hm_NT_build G Z o p1 p2) F := h
  delta hm_NT_build at h
  refine hg_aloadn (pc := 0) (j := 0) (i := 0) (r := (some o)) hC 0 rfl rfl (show decode prog_7_method_3_code 0 = .ok (.aload_n 0, 1) by decide +kernel) ?_
  refine hg_rgr (pc := 1) (r := (some o)) hC fl_SignalEngine_Net_15 (show decode prog_7_method_3_code 1 = .ok (.getfield 15, 3) by decide +kernel) h ?_
  intro e16 h
  refine hg_iconst (pc := 4) (v := (-1)) hC (show decode prog_7_method_3_code 4 = .ok (.iconst (-1), 1) by decide +kernel) (by decide +kernel) ?_
  refine hg_kSv (pc := 5) (As := [va_rf e16, .int (-1)]) (rest := []) (so := fun q => q) hC cw_SignalEngine_Net_43 (fun q hq => hm_JA_fill_ok l D G Z e16 ((-1) : Int32) q hq) (Nat.le_of_ble_eq_true rfl) (Nat.le_of_ble_eq_true rfl) rfl (Nat.le_of_ble_eq_true rfl) (show decode prog_7_method_3_code 5 = .ok (.invokestatic 43, 3) by decide +kernel) h ?_
  intro q17 h
  refine hg_aloadn (pc := 8) (j := 0) (i := 0) (r := (some o)) hC 0 rfl rfl (show decode prog_7_method_3_code 8 = .ok (.aload_n 0, 1) by decide +kernel) ?_
  refine hg_rgr (pc := 9) (r := (some o)) hC fl_SignalEngine_Net_18 (show decode prog_7_method_3_code 9 = .ok (.getfield 18, 3) by decide +kernel) h ?_
  intro e18 h
  refine hg_iconst (pc := 12) (v := 0) hC (show decode prog_7_method_3_code 12 = .ok (.iconst 0, 1) by decide +kernel) (by decide +kernel) ?_
  refine hg_kSv (pc := 13) (As := [va_rf e18, .int 0]) (rest := []) (so := fun q => q) hC cw_SignalEngine_Net_43 (fun q hq => hm_JA_fill_ok l D G q17 e18 (0 : Int32) q hq) (Nat.le_of_ble_eq_true rfl) (Nat.le_of_ble_eq_true rfl) rfl (Nat.le_of_ble_eq_true rfl) (show decode prog_7_method_3_code 13 = .ok (.invokestatic 43, 3) by decide +kernel) h ?_
  intro q19 h
  refine hg_aloadn (pc := 16) (j := 0) (i := 0) (r := (some o)) hC 0 rfl rfl (show decode prog_7_method_3_code 16 = .ok (.aload_n 0, 1) by decide +kernel) ?_
  refine hg_rgr (pc := 17) (r := (some o)) hC fl_SignalEngine_Net_36 (show decode prog_7_method_3_code 17 = .ok (.getfield 36, 3) by decide +kernel) h ?_
  intro e20 h
  refine hg_iconst (pc := 20) (v := 0) hC (show decode prog_7_method_3_code 20 = .ok (.iconst 0, 1) by decide +kernel) (by decide +kernel) ?_
  refine hg_kSv (pc := 21) (As := [va_rf e20, .int 0]) (rest := []) (so := fun q => q) hC cw_SignalEngine_Net_43 (fun q hq => hm_JA_fill_ok l D G q19 e20 (0 : Int32) q hq) (Nat.le_of_ble_eq_true rfl) (Nat.le_of_ble_eq_true rfl) rfl (Nat.le_of_ble_eq_true rfl) (show decode prog_7_method_3_code 21 = .ok (.invokestatic 43, 3) by decide +kernel) h ?_
  intro q21 h
  refine hg_aloadn (pc := 24) (j := 0) (i := 0) (r := (some o)) hC 0 rfl rfl (show decode prog_7_method_3_code 24 = .ok (.aload_n 0, 1) by decide +kernel) ?_
  refine hg_iconst (pc := 25) (v := 0) hC (show decode prog_7_method_3_code 25 = .ok (.iconst 0, 1) by decide +kernel) (by decide +kernel) ?_
  refine hg_rput (pc := 26) (r := (some o)) (v := .int 0) hC fp_SignalEngine_Net_49 rfl rfl (show decode prog_7_method_3_code 26 = .ok (.putfield 49, 3) by decide +kernel) h ?_
  intro S22 h
  refine hg_aloadn (pc := 29) (j := 0) (i := 0) (r := (some o)) hC 0 rfl rfl (show decode prog_7_method_3_code 29 = .ok (.aload_n 0, 1) by decide +kernel) ?_
  refine hg_iconst (pc := 30) (v := 2) hC (show decode prog_7_method_3_code 30 = .ok (.iconst 2, 1) by decide +kernel) (by decide +kernel) ?_
  refine hg_rput (pc := 31) (r := (some o)) (v := .int 2) hC fp_SignalEngine_Net_39 rfl rfl (show decode prog_7_method_3_code 31 = .ok (.putfield 39, 3) by decide +kernel) h ?_
  intro S23 h
  refine hg_aloadn (pc := 34) (j := 0) (i := 0) (r := (some o)) hC 0 rfl rfl (show decode prog_7_method_3_code 34 = .ok (.aload_n 0, 1) by decide +kernel) ?_
  refine hg_aloadn (pc := 35) (j := 1) (i := 1) (r := p1) hC 1 rfl rfl (show decode prog_7_method_3_code 35 = .ok (.aload_n 1, 1) by decide +kernel) ?_
  refine hg_rgi (pc := 36) (r := p1) hC fl_SignalEngine_Net_52 (show decode prog_7_method_3_code 36 = .ok (.getfield 52, 3) by decide +kernel) h ?_
  intro e24 h
  refine hg_rput (pc := 39) (r := (some o)) (v := .int e24) hC fp_SignalEngine_Net_57 rfl rfl (show decode prog_7_method_3_code 39 = .ok (.putfield 57, 3) by decide +kernel) h ?_
  intro S25 h
  refine hg_aloadn (pc := 42) (j := 0) (i := 0) (r := (some o)) hC 0 rfl rfl (show decode prog_7_method_3_code 42 = .ok (.aload_n 0, 1) by decide +kernel) ?_
  refine hg_aloadn (pc := 43) (j := 1) (i := 1) (r := p1) hC 1 rfl rfl (show decode prog_7_method_3_code 43 = .ok (.aload_n 1, 1) by decide +kernel) ?_
  refine hg_rgi (pc := 44) (r := p1) hC fl_SignalEngine_Net_58 (show decode prog_7_method_3_code 44 = .ok (.getfield 58, 3) by decide +kernel) h ?_
  intro e26 h
  refine hg_rput (pc := 47) (r := (some o)) (v := .int e26) hC fp_SignalEngine_Net_61 rfl rfl (show decode prog_7_method_3_code 47 = .ok (.putfield 61, 3) by decide +kernel) h ?_
  intro S27 h
  refine hg_aloadn (pc := 50) (j := 0) (i := 0) (r := (some o)) hC 0 rfl rfl (show decode prog_7_method_3_code 50 = .ok (.aload_n 0, 1) by decide +kernel) ?_
  refine hg_aloadn (pc := 51) (j := 1) (i := 1) (r := p1) hC 1 rfl rfl (show decode prog_7_method_3_code 51 = .ok (.aload_n 1, 1) by decide +kernel) ?_
  refine hg_rgi (pc := 52) (r := p1) hC fl_SignalEngine_Net_62 (show decode prog_7_method_3_code 52 = .ok (.getfield 62, 3) by decide +kernel) h ?_
  intro e28 h
  refine hg_rput (pc := 55) (r := (some o)) (v := .int e28) hC fp_SignalEngine_Net_65 rfl rfl (show decode prog_7_method_3_code 55 = .ok (.putfield 65, 3) by decide +kernel) h ?_
  intro S29 h
  refine hg_aloadn (pc := 58) (j := 0) (i := 0) (r := (some o)) hC 0 rfl rfl (show decode prog_7_method_3_code 58 = .ok (.aload_n 0, 1) by decide +kernel) ?_
  refine hg_aloadn (pc := 59) (j := 0) (i := 0) (r := (some o)) hC 0 rfl rfl (show decode prog_7_method_3_code 59 = .ok (.aload_n 0, 1) by decide +kernel) ?_
  refine hg_rgi (pc := 60) (r := (some o)) hC fl_SignalEngine_Net_61 (show decode prog_7_method_3_code 60 = .ok (.getfield 61, 3) by decide +kernel) h ?_
  intro e30 h
  refine hg_aloadn (pc := 63) (j := 0) (i := 0) (r := (some o)) hC 0 rfl rfl (show decode prog_7_method_3_code 63 = .ok (.aload_n 0, 1) by decide +kernel) ?_
  refine hg_rgi (pc := 64) (r := (some o)) hC fl_SignalEngine_Net_65 (show decode prog_7_method_3_code 64 = .ok (.getfield 65, 3) by decide +kernel) h ?_
  intro e31 h
  refine hg_iadd (pc := 67) hC (show decode prog_7_method_3_code 67 = .ok (.iadd, 1) by decide +kernel) ?_
  refine hg_iconst (pc := 68) (v := 1) hC (show decode prog_7_method_3_code 68 = .ok (.iconst 1, 1) by decide +kernel) (by decide +kernel) ?_
  refine hg_iadd (pc := 69) hC (show decode prog_7_method_3_code 69 = .ok (.iadd, 1) by decide +kernel) ?_
  refine hg_rput (pc := 70) (r := (some o)) (v := .int ((e30 + e31) + 1)) hC fp_SignalEngine_Net_66 rfl rfl (show decode prog_7_method_3_code 70 = .ok (.putfield 66, 3) by decide +kernel) h ?_
  intro S32 h
  refine hg_iconst (pc := 73) (v := 0) hC (show decode prog_7_method_3_code 73 = .ok (.iconst 0, 1) by decide +kernel) (by decide +kernel) ?_
  refine hg_istoren (pc := 74) (j := 3) (i := 3) (lv' := [(3, .int 0), (0, va_rf (some o)), (1, va_rf p1), (2, va_rf p2)]) hC rfl (Nat.le_of_ble_eq_true rfl) (by simp [va_rf_cat, hg_cti]) (show decode prog_7_method_3_code 74 = .ok (.istore_n 3, 1) by decide +kernel) ?_
  exact hg_sub [1, 3, 0] rfl (lab_75 S32 p2 0 h)
noncomputable def hm_SE_lay_L60 (G : hg_E) (S : hg_S) (o : Nat) : Option ((hg_S × Int32) ⊕ hg_X) :=
  (hg_gr S (some o) 0 11).bind fun e1 => (hg_chk S e1 12).bind fun b2 => (hm_NT_multiplexers G S b2).bind fun q5 => some (.inl (S, q5))
noncomputable def hm_SE_lay_L40 (G : hg_E) (S : hg_S) (o : Nat) : Option ((hg_S × Int32) ⊕ hg_X) :=
  (hg_gr S (some o) 0 11).bind fun e6 => (hg_gr S (some o) 0 3).bind fun e7 => (hg_gr S (some o) 0 10).bind fun e8 => (hg_chk S e6 12).bind fun b9 => (hm_NT_build G S b9 e7 e8).bind fun q12 => (hg_pf q12 (some o) 0 13 (.int 1)).bind fun S13 => hm_SE_lay_L60 G S13 o
noncomputable def hm_SE_lay (G : hg_E) (S : hg_S) (o : Nat) : Option ((hg_S × Int32) ⊕ hg_X) :=
  (hg_gi S (some o) 0 12).bind fun e14 => if e14 = 0 then (if 1 ≤ S.2.2.1 ∧ 6 ≤ S.2.2.2 then some (.inr ((S.1, S.2.1 + 1, S.2.2.1 - 1, S.2.2.2 - 6), S.2.1, false)) else none) else ((hg_gi S (some o) 0 13).bind fun e16 => if e16 = 0 then ((hg_gr S (some o) 0 11).bind fun e17 => if e17 = none then ((hg_new S 12 15 [.null, .null, .null, .null, .null, .null, .null, .null, .null, .int 0, .int 0, .int 0, .int 0, .int 0, .int 0]).bind fun S18 => (hm_NT_init G S18 S.2.1).bind fun q19 => (hg_pf q19 (some o) 0 11 (va_rf (some S.2.1))).bind fun S20 => hm_SE_lay_L40 G S20 o) else (hm_SE_lay_L40 G S o)) else (hm_SE_lay_L60 G S o))
set_option maxHeartbeats 4000000 in
set_option maxRecDepth 100000 in
/-- SignalEngine.lay()I -/
theorem hm_SE_lay_ok (l : Launch) (hlt : l.stackTraces = false) (D : va_G) (G : hg_E) (Z : hg_S) (o : Nat) (q : (hg_S × Int32) ⊕ hg_X) (hq : hm_SE_lay G Z o = some q) : hg_C l ⟨"SignalEngine", "lay", "()I"⟩ prog_1_method_26_code 1 (some (.int)) 7 167 D G [.ref o] Z (Sum.elim (fun q => (.inl (some (.int q.2), q.1) : hg_O)) hg_ox q) := by
  refine hg_start (cv := fun q => (Sum.elim (fun q => (.inl (some (.int q.2), q.1) : hg_O)) hg_ox q)) hq ?_
  intro F hF h
  refine hg_enter (lv := [(0, va_rf (some o))]) (by decide +kernel) (by simp [lg_sl, va_rf_cat, hg_cti, hg_ctr]) (by simp [lv_args, va_rf_cat, va_rf_some, hg_cti, hg_ctr]) ?_
  intro X hC hR
  have lab_60 : ∀ (S : hg_S), dc_wp (hm_SE_lay_L60 G S o) F → hg_G X l (hg_rm 7 167 Z) D 1 S 60 [(0, va_rf (some o))] [] := by
    intro S  h
    delta hm_SE_lay_L60 at h
    refine hg_aloadn (pc := 60) (j := 0) (i := 0) (r := (some o)) hC 0 rfl rfl (show decode prog_1_method_26_code 60 = .ok (.aload_n 0, 1) by decide +kernel) ?_
    refine hg_rgr (pc := 61) (r := (some o)) hC fl_SignalEngine_233 (show decode prog_1_method_26_code 61 = .ok (.getfield 233, 3) by decide +kernel) h ?_
    intro e1 h
    obtain ⟨b2, hb3, h⟩ := dc_bind h
    obtain ⟨hb3, hv4⟩ := hg_chk_of (C := R_NT) rfl hb3
    refine hg_kVi (pc := 64) (b := b2) (r := e1) (As := []) (rest := []) (vo := fun q => q) (so := fun q => S) hC cw_SignalEngine_244 (fun q hq => hm_NT_multiplexers_ok l D G S b2 q hq) (Nat.le_of_ble_eq_true rfl) (Nat.le_of_ble_eq_true rfl) hb3 hv4 rfl (Nat.le_of_ble_eq_true rfl) (show decode prog_1_method_26_code 64 = .ok (.invokevirtual 244, 3) by decide +kernel) h ?_
    intro q5 h
    exact hg_iret (pc := 67) hC hR (hF _ (dc_some h)) (show decode prog_1_method_26_code 67 = .ok (.ireturn, 1) by decide +kernel)
  have lab_40 : ∀ (S : hg_S), dc_wp (hm_SE_lay_L40 G S o) F → hg_G X l (hg_rm 7 167 Z) D 1 S 40 [(0, va_rf (some o))] [] := by
    intro S  h
    delta hm_SE_lay_L40 at h
    refine hg_aloadn (pc := 40) (j := 0) (i := 0) (r := (some o)) hC 0 rfl rfl (show decode prog_1_method_26_code 40 = .ok (.aload_n 0, 1) by decide +kernel) ?_
    refine hg_rgr (pc := 41) (r := (some o)) hC fl_SignalEngine_233 (show decode prog_1_method_26_code 41 = .ok (.getfield 233, 3) by decide +kernel) h ?_
    intro e6 h
    refine hg_aloadn (pc := 44) (j := 0) (i := 0) (r := (some o)) hC 0 rfl rfl (show decode prog_1_method_26_code 44 = .ok (.aload_n 0, 1) by decide +kernel) ?_
    refine hg_rgr (pc := 45) (r := (some o)) hC fl_SignalEngine_52 (show decode prog_1_method_26_code 45 = .ok (.getfield 52, 3) by decide +kernel) h ?_
    intro e7 h
    refine hg_aloadn (pc := 48) (j := 0) (i := 0) (r := (some o)) hC 0 rfl rfl (show decode prog_1_method_26_code 48 = .ok (.aload_n 0, 1) by decide +kernel) ?_
    refine hg_rgr (pc := 49) (r := (some o)) hC fl_SignalEngine_169 (show decode prog_1_method_26_code 49 = .ok (.getfield 169, 3) by decide +kernel) h ?_
    intro e8 h
    obtain ⟨b9, hb10, h⟩ := dc_bind h
    obtain ⟨hb10, hv11⟩ := hg_chk_of (C := R_NT) rfl hb10
    refine hg_kVv (pc := 52) (b := b9) (r := e6) (As := [va_rf e7, va_rf e8]) (rest := []) (so := fun q => q) hC cw_SignalEngine_240 (fun q hq => hm_NT_build_ok l D G S b9 e7 e8 q hq) (Nat.le_of_ble_eq_true rfl) (Nat.le_of_ble_eq_true rfl) hb10 hv11 rfl (Nat.le_of_ble_eq_true rfl) (show decode prog_1_method_26_code 52 = .ok (.invokevirtual 240, 3) by decide +kernel) h ?_
    intro q12 h
    refine hg_aloadn (pc := 55) (j := 0) (i := 0) (r := (some o)) hC 0 rfl rfl (show decode prog_1_method_26_code 55 = .ok (.aload_n 0, 1) by decide +kernel) ?_
    refine hg_iconst (pc := 56) (v := 1) hC (show decode prog_1_method_26_code 56 = .ok (.iconst 1, 1) by decide +kernel) (by decide +kernel) ?_
    refine hg_rput (pc := 57) (r := (some o)) (v := .int 1) hC fp_SignalEngine_94 (dc_nar (Or.inr rfl)).2.1 (dc_nar (Or.inr rfl)).2.2 (show decode prog_1_method_26_code 57 = .ok (.putfield 94, 3) by decide +kernel) h ?_
    intro S13 h
    exact lab_60 S13 h
  show hg_G X l (hg_rm 7 167 Z) D 1 Z 0 [(0, va_rf (some o))] []
  have h : dc_wp (hm_SE_lay G Z o) F := h
  delta hm_SE_lay at h
  refine hg_aloadn (pc := 0) (j := 0) (i := 0) (r := (some o)) hC 0 rfl rfl (show decode prog_1_method_26_code 0 = .ok (.aload_n 0, 1) by decide +kernel) ?_
  refine hg_rgi (pc := 1) (r := (some o)) hC fl_SignalEngine_91 (show decode prog_1_method_26_code 1 = .ok (.getfield 91, 3) by decide +kernel) h ?_
  intro e14 h
  refine hg_if_ne (pc := 4) (tgt := 15) hC (show decode prog_1_method_26_code 4 = .ok (.ifCond .ne 11, 3) by decide +kernel) (by decide +kernel) h ?_ ?_
  · intro h
    rcases dc_ite h with ⟨hr15, h⟩ | ⟨_, h⟩
    · exact hg_raise (pc := 7) (rest := []) hC hlt hR false exq_SignalEngine_142 exq_SignalEngine_142_two (show decode prog_1_method_26_code 7 = .ok (.new 140, 3) by decide +kernel) (show decode prog_1_method_26_code 10 = .ok (.dup, 1) by decide +kernel) (show decode prog_1_method_26_code 11 = .ok (.invokespecial 142, 3) by decide +kernel) (show decode prog_1_method_26_code 14 = .ok (.athrow, 1) by decide +kernel) hr15 (Nat.le_of_ble_eq_true rfl) (Nat.le_of_ble_eq_true rfl) ((fun (z : hg_X) (h : dc_wp (some (.inr z)) F) => hF (.inr z) (dc_some h)) ((Z.1, Z.2.1 + 1, Z.2.2.1 - 1, Z.2.2.2 - 6), Z.2.1, false) h)
    · exact (dc_not h).elim
  · intro h
    refine hg_aloadn (pc := 15) (j := 0) (i := 0) (r := (some o)) hC 0 rfl rfl (show decode prog_1_method_26_code 15 = .ok (.aload_n 0, 1) by decide +kernel) ?_
    refine hg_rgi (pc := 16) (r := (some o)) hC fl_SignalEngine_94 (show decode prog_1_method_26_code 16 = .ok (.getfield 94, 3) by decide +kernel) h ?_
    intro e16 h
    refine hg_if_ne (pc := 19) (tgt := 60) hC (show decode prog_1_method_26_code 19 = .ok (.ifCond .ne 41, 3) by decide +kernel) (by decide +kernel) h ?_ ?_
    · intro h
      refine hg_aloadn (pc := 22) (j := 0) (i := 0) (r := (some o)) hC 0 rfl rfl (show decode prog_1_method_26_code 22 = .ok (.aload_n 0, 1) by decide +kernel) ?_
      refine hg_rgr (pc := 23) (r := (some o)) hC fl_SignalEngine_233 (show decode prog_1_method_26_code 23 = .ok (.getfield 233, 3) by decide +kernel) h ?_
      intro e17 h
      refine hg_ifnonnull (pc := 26) (tgt := 40) (r := e17) hC (show decode prog_1_method_26_code 26 = .ok (.ifnonnull 14, 3) by decide +kernel) (by decide +kernel) h ?_ ?_
      · intro h
        refine hg_aloadn (pc := 29) (j := 0) (i := 0) (r := (some o)) hC 0 rfl rfl (show decode prog_1_method_26_code 29 = .ok (.aload_n 0, 1) by decide +kernel) ?_
        refine hg_rnew (pc := 30) hC nw_SignalEngine_237 (show decode prog_1_method_26_code 30 = .ok (.new 237, 3) by decide +kernel) h ?_
        intro S18 h
        refine hg_dup (pc := 33) hC (show decode prog_1_method_26_code 33 = .ok (.dup, 1) by decide +kernel) (va_rf_cat _) ?_
        refine hg_kJv (pc := 34) (b := Z.2.1) (r := (some Z.2.1)) (As := []) (rest := [va_rf (some Z.2.1), va_rf (some o)]) (so := fun q => q) hC cw_SignalEngine_239 (fun q hq => hm_NT_init_ok l D G S18 Z.2.1 q hq) (Nat.le_of_ble_eq_true rfl) (Nat.le_of_ble_eq_true rfl) rfl rfl (by simp only [List.map, va_rf_cat]; exact Nat.le_of_ble_eq_true rfl) (show decode prog_1_method_26_code 34 = .ok (.invokespecial 239, 3) by decide +kernel) h ?_
        intro q19 h
        refine hg_rput (pc := 37) (r := (some o)) (v := va_rf (some Z.2.1)) hC fp_SignalEngine_233 (hg_nr _).1 (hg_nr _).2 (show decode prog_1_method_26_code 37 = .ok (.putfield 233, 3) by decide +kernel) h ?_
        intro S20 h
        exact lab_40 S20 h
      · intro h
        exact lab_40 Z h
    · intro h
      exact lab_60 Z h
noncomputable def hm_NT_truthOn_L52 (G : hg_E) (S : hg_S) (o : Nat) (x3 : Int32) : Option (Int32) :=
  some x3
noncomputable def hm_NT_truthOn_L45 (G : hg_E) (S : hg_S) (o : Nat) (x1 : Int32) (x4 : Int32) (y0 : Int32) : Option ((Int32 × Int32) ⊕ ((Int32))) :=
  some (.inl (y0, (x4 + 1)))
noncomputable def hm_NT_truthOn_b5 (G : hg_E) (S : hg_S) (o : Nat) (x1 : Int32) (x3 : Int32) (x4 : Int32) : Option ((Int32 × Int32) ⊕ ((Int32))) :=
  if x3 < 2 then (some (.inr x3)) else (if x4 < 13 then ((hg_gr S (some o) 12 4).bind fun e1 => (hg_ld S e1 (G.1 0) x3).bind fun e2 => if ((((Int32.toUInt32 x1 >>> (Int32.toUInt32 e2 &&& Int32.toUInt32 31)).toInt32)) &&& 1) = 0 then ((hg_gr S (some o) 12 5).bind fun e3 => (hg_ld S e3 (G.1 0) x3).bind fun e4 => hm_NT_truthOn_L45 G S o x1 x4 e4) else ((hg_gr S (some o) 12 6).bind fun e5 => (hg_ld S e5 (G.1 0) x3).bind fun e6 => hm_NT_truthOn_L45 G S o x1 x4 e6)) else (some (.inr x3)))
noncomputable def hm_NT_truthOn_s5 (G : hg_E) (S : hg_S) (o : Nat) (x1 : Int32) (q : Int32 × Int32) : Option ((Int32 × Int32) ⊕ ((Int32))) :=
  hm_NT_truthOn_b5 G S o x1 q.1 q.2
noncomputable def hm_NT_truthOn_L5 (G : hg_E) (S : hg_S) (o : Nat) (x1 : Int32) (x3 : Int32) (x4 : Int32) : Option (Int32) :=
  (dc_it (hm_NT_truthOn_s5 G S o x1) (x3, x4)).bind (fun (z : Int32) => hm_NT_truthOn_L52 G S o z)
noncomputable def hm_NT_truthOn (G : hg_E) (S : hg_S) (o : Nat) (p1 : Int32) (p2 : Int32) : Option (Int32) :=
  hm_NT_truthOn_L5 G S o p1 p2 0
set_option maxHeartbeats 4000000 in
set_option maxRecDepth 100000 in
/-- SignalEngine$Net.truthOn(II)I -/
theorem hm_NT_truthOn_ok (l : Launch) (D : va_G) (G : hg_E) (Z : hg_S) (o : Nat) (p1 : Int32) (p2 : Int32) (q : Int32) (hq : hm_NT_truthOn G Z o p1 p2 = some q) : hg_C l ⟨"SignalEngine$Net", "truthOn", "(II)I"⟩ prog_7_method_11_code 5 (some (.int)) 0 0 D G [.ref o, .int p1, .int p2] Z (.inl (some (.int q), Z) : hg_O) := by
  refine hg_start (cv := fun q => (.inl (some (.int q), Z) : hg_O)) hq ?_
  intro F hF h
  refine hg_enter (lv := [(0, va_rf (some o)), (1, .int p1), (2, .int p2)]) (by decide +kernel) (by simp [lg_sl, va_rf_cat, hg_cti, hg_ctr]) (by simp [lv_args, va_rf_cat, va_rf_some, hg_cti, hg_ctr]) ?_
  intro X hC hR
  have lab_52 : ∀ (x3 : Int32), dc_wp (hm_NT_truthOn_L52 G Z o x3) F → hg_G X l (hg_rm 0 0 Z) D 5 Z 52 [(0, va_rf (some o)), (3, .int x3)] [] := by
    intro x3 h
    delta hm_NT_truthOn_L52 at h
    refine hg_iloadn (pc := 52) (j := 3) (i := 3) hC 1 rfl rfl (show decode prog_7_method_11_code 52 = .ok (.iload_n 3, 1) by decide +kernel) ?_
    exact hg_iret (pc := 53) hC hR (hF _ (dc_some h)) (show decode prog_7_method_11_code 53 = .ok (.ireturn, 1) by decide +kernel)
  have loop_5 : ∀ (x1 : Int32) (q : Int32 × Int32), dc_wp (dc_it (hm_NT_truthOn_s5 G Z o x1) q) (fun z => dc_wp ((fun (z : Int32) => hm_NT_truthOn_L52 G Z o z) z) F) → hg_G X l (hg_rm 0 0 Z) D 5 Z 5 [(0, va_rf (some o)), (1, .int x1), (3, .int q.1), (4, .int q.2)] [] := by
    intro x1
    refine dc_loopF ?_
    intro F_5 hl_5 hr_5
    have lab_45 : ∀ (x4 : Int32) (y0 : Int32), dc_wp (hm_NT_truthOn_L45 G Z o x1 x4 y0) F_5 → hg_G X l (hg_rm 0 0 Z) D 5 Z 45 [(0, va_rf (some o)), (1, .int x1), (4, .int x4)] [.int y0] := by
      intro x4 y0 h
      delta hm_NT_truthOn_L45 at h
      refine hg_istoren (pc := 45) (j := 3) (i := 3) (lv' := [(3, .int y0), (0, va_rf (some o)), (1, .int x1), (4, .int x4)]) hC rfl (Nat.le_of_ble_eq_true rfl) rfl (show decode prog_7_method_11_code 45 = .ok (.istore_n 3, 1) by decide +kernel) ?_
      refine hg_iinc (pc := 46) (i := 4) (v := (x4 + 1)) (lv' := [(4, .int (x4 + 1)), (3, .int y0), (0, va_rf (some o)), (1, .int x1)]) hC 3 rfl rfl (Nat.le_of_ble_eq_true rfl) rfl (show decode prog_7_method_11_code 46 = .ok (.iinc 4 1, 3) by decide +kernel) ?_
      refine hg_goto (pc := 49) (tgt := 5) hC (show decode prog_7_method_11_code 49 = .ok (.goto (-44), 3) by decide +kernel) (by decide +kernel) ?_
      exact hg_sub [2, 3, 1, 0] rfl (hl_5 (y0, (x4 + 1)) (dc_some h))
    rintro ⟨x3, x4⟩ h
    have h : dc_wp (hm_NT_truthOn_b5 G Z o x1 x3 x4) F_5 := h
    delta hm_NT_truthOn_b5 at h
    refine hg_iloadn (pc := 5) (j := 3) (i := 3) hC 2 rfl rfl (show decode prog_7_method_11_code 5 = .ok (.iload_n 3, 1) by decide +kernel) ?_
    refine hg_iconst (pc := 6) (v := 2) hC (show decode prog_7_method_11_code 6 = .ok (.iconst 2, 1) by decide +kernel) (by decide +kernel) ?_
    refine hg_icmp_lt (pc := 7) (tgt := 52) hC (show decode prog_7_method_11_code 7 = .ok (.if_icmp .lt 45, 3) by decide +kernel) (by decide +kernel) h ?_ ?_
    · intro h
      have h : dc_wp (hm_NT_truthOn_L52 G Z o x3) F := hr_5 x3 (dc_some h)
      exact hg_sub [0, 2] rfl (lab_52 x3 h)
    · intro h
      refine hg_iload (pc := 10) (i := 4) hC 3 rfl (show decode prog_7_method_11_code 10 = .ok (.iload 4, 2) by decide +kernel) ?_
      refine hg_bipush (pc := 12) (v := 13) hC (show decode prog_7_method_11_code 12 = .ok (.bipush 13, 2) by decide +kernel) (by decide +kernel) ?_
      refine hg_icmp_ge (pc := 14) (tgt := 52) hC (show decode prog_7_method_11_code 14 = .ok (.if_icmp .ge 38, 3) by decide +kernel) (by decide +kernel) h ?_ ?_
      · intro h
        refine hg_iloadn (pc := 17) (j := 1) (i := 1) hC 1 rfl rfl (show decode prog_7_method_11_code 17 = .ok (.iload_n 1, 1) by decide +kernel) ?_
        refine hg_aloadn (pc := 18) (j := 0) (i := 0) (r := (some o)) hC 0 rfl rfl (show decode prog_7_method_11_code 18 = .ok (.aload_n 0, 1) by decide +kernel) ?_
        refine hg_rgr (pc := 19) (r := (some o)) hC fl_SignalEngine_Net_24 (show decode prog_7_method_11_code 19 = .ok (.getfield 24, 3) by decide +kernel) h ?_
        intro e1 h
        refine hg_iloadn (pc := 22) (j := 3) (i := 3) hC 2 rfl rfl (show decode prog_7_method_11_code 22 = .ok (.iload_n 3, 1) by decide +kernel) ?_
        refine hg_riald (pc := 23) (r := e1) hC (show decode prog_7_method_11_code 23 = .ok (.iaload, 1) by decide +kernel) h ?_
        intro e2 h
        refine hg_iushr (pc := 24) hC (show decode prog_7_method_11_code 24 = .ok (.iushr, 1) by decide +kernel) ?_
        refine hg_iconst (pc := 25) (v := 1) hC (show decode prog_7_method_11_code 25 = .ok (.iconst 1, 1) by decide +kernel) (by decide +kernel) ?_
        refine hg_iand (pc := 26) hC (show decode prog_7_method_11_code 26 = .ok (.iand, 1) by decide +kernel) ?_
        refine hg_if_ne (pc := 27) (tgt := 39) hC (show decode prog_7_method_11_code 27 = .ok (.ifCond .ne 12, 3) by decide +kernel) (by decide +kernel) h ?_ ?_
        · intro h
          refine hg_aloadn (pc := 30) (j := 0) (i := 0) (r := (some o)) hC 0 rfl rfl (show decode prog_7_method_11_code 30 = .ok (.aload_n 0, 1) by decide +kernel) ?_
          refine hg_rgr (pc := 31) (r := (some o)) hC fl_SignalEngine_Net_27 (show decode prog_7_method_11_code 31 = .ok (.getfield 27, 3) by decide +kernel) h ?_
          intro e3 h
          refine hg_iloadn (pc := 34) (j := 3) (i := 3) hC 2 rfl rfl (show decode prog_7_method_11_code 34 = .ok (.iload_n 3, 1) by decide +kernel) ?_
          refine hg_riald (pc := 35) (r := e3) hC (show decode prog_7_method_11_code 35 = .ok (.iaload, 1) by decide +kernel) h ?_
          intro e4 h
          refine hg_goto (pc := 36) (tgt := 45) hC (show decode prog_7_method_11_code 36 = .ok (.goto 9, 3) by decide +kernel) (by decide +kernel) ?_
          exact hg_sub [0, 1, 3] rfl (lab_45 x4 e4 h)
        · intro h
          refine hg_aloadn (pc := 39) (j := 0) (i := 0) (r := (some o)) hC 0 rfl rfl (show decode prog_7_method_11_code 39 = .ok (.aload_n 0, 1) by decide +kernel) ?_
          refine hg_rgr (pc := 40) (r := (some o)) hC fl_SignalEngine_Net_30 (show decode prog_7_method_11_code 40 = .ok (.getfield 30, 3) by decide +kernel) h ?_
          intro e5 h
          refine hg_iloadn (pc := 43) (j := 3) (i := 3) hC 2 rfl rfl (show decode prog_7_method_11_code 43 = .ok (.iload_n 3, 1) by decide +kernel) ?_
          refine hg_riald (pc := 44) (r := e5) hC (show decode prog_7_method_11_code 44 = .ok (.iaload, 1) by decide +kernel) h ?_
          intro e6 h
          exact hg_sub [0, 1, 3] rfl (lab_45 x4 e6 h)
      · intro h
        have h : dc_wp (hm_NT_truthOn_L52 G Z o x3) F := hr_5 x3 (dc_some h)
        exact hg_sub [0, 2] rfl (lab_52 x3 h)
  have lab_5 : ∀ (x1 : Int32) (x3 : Int32) (x4 : Int32), dc_wp (hm_NT_truthOn_L5 G Z o x1 x3 x4) F → hg_G X l (hg_rm 0 0 Z) D 5 Z 5 [(0, va_rf (some o)), (1, .int x1), (3, .int x3), (4, .int x4)] [] := fun x1 x3 x4 h => loop_5 x1 (x3, x4) (dc_bind h)
  show hg_G X l (hg_rm 0 0 Z) D 5 Z 0 [(0, va_rf (some o)), (1, .int p1), (2, .int p2)] []
  have h : dc_wp (hm_NT_truthOn G Z o p1 p2) F := h
  delta hm_NT_truthOn at h
  refine hg_iloadn (pc := 0) (j := 2) (i := 2) hC 2 rfl rfl (show decode prog_7_method_11_code 0 = .ok (.iload_n 2, 1) by decide +kernel) ?_
  refine hg_istoren (pc := 1) (j := 3) (i := 3) (lv' := [(3, .int p2), (0, va_rf (some o)), (1, .int p1), (2, .int p2)]) hC rfl (Nat.le_of_ble_eq_true rfl) rfl (show decode prog_7_method_11_code 1 = .ok (.istore_n 3, 1) by decide +kernel) ?_
  refine hg_iconst (pc := 2) (v := 0) hC (show decode prog_7_method_11_code 2 = .ok (.iconst 0, 1) by decide +kernel) (by decide +kernel) ?_
  refine hg_istore (pc := 3) (i := 4) (lv' := [(4, .int 0), (3, .int p2), (0, va_rf (some o)), (1, .int p1), (2, .int p2)]) hC (Nat.le_of_ble_eq_true rfl) rfl (show decode prog_7_method_11_code 3 = .ok (.istore 4, 2) by decide +kernel) ?_
  exact hg_sub [2, 3, 1, 0] rfl (lab_5 p1 p2 0 h)
noncomputable def hm_NT_truthsOn_L39 (G : hg_E) (S : hg_S) (o : Nat) (x2 : Int64) : Option (Int64) :=
  some x2
noncomputable def hm_NT_truthsOn_b5 (G : hg_E) (S : hg_S) (o : Nat) (x1 : Int32) (x2 : Int64) (x4 : Int32) : Option ((Int64 × Int32) ⊕ ((Int64))) :=
  (hg_gi S (some o) 12 13).bind fun e1 => if x4 < e1 then ((hg_gr S (some o) 12 3).bind fun e2 => (hg_ld S e2 (G.1 0) x4).bind fun e3 => (hg_chk S (some o) 12).bind fun b4 => (hm_NT_truthOn G S b4 x1 e3).bind fun q7 => dc_let ((x2 ||| ((Int32.toInt64 q7) <<< (Int32.toInt64 x4 &&& 63))) : Int64) fun v8 => some (.inl (v8, (x4 + 1)))) else (some (.inr x2))
noncomputable def hm_NT_truthsOn_s5 (G : hg_E) (S : hg_S) (o : Nat) (x1 : Int32) (q : Int64 × Int32) : Option ((Int64 × Int32) ⊕ ((Int64))) :=
  hm_NT_truthsOn_b5 G S o x1 q.1 q.2
noncomputable def hm_NT_truthsOn_L5 (G : hg_E) (S : hg_S) (o : Nat) (x1 : Int32) (x2 : Int64) (x4 : Int32) : Option (Int64) :=
  (dc_it (hm_NT_truthsOn_s5 G S o x1) (x2, x4)).bind (fun (z : Int64) => hm_NT_truthsOn_L39 G S o z)
noncomputable def hm_NT_truthsOn (G : hg_E) (S : hg_S) (o : Nat) (p1 : Int32) : Option (Int64) :=
  hm_NT_truthsOn_L5 G S o p1 0 0
set_option maxHeartbeats 4000000 in
set_option maxRecDepth 100000 in
/-- SignalEngine$Net.truthsOn(I)J -/
theorem hm_NT_truthsOn_ok (l : Launch) (D : va_G) (G : hg_E) (Z : hg_S) (o : Nat) (p1 : Int32) (q : Int64) (hq : hm_NT_truthsOn G Z o p1 = some q) : hg_C l ⟨"SignalEngine$Net", "truthsOn", "(I)J"⟩ prog_7_method_10_code 5 (some (.long)) 1 24 D G [.ref o, .int p1] Z (.inl (some (.long q), Z) : hg_O) := by
  refine hg_start (cv := fun q => (.inl (some (.long q), Z) : hg_O)) hq ?_
  intro F hF h
  refine hg_enter (lv := [(0, va_rf (some o)), (1, .int p1)]) (by decide +kernel) (by simp [lg_sl, va_rf_cat, hg_cti, hg_ctr]) (by simp [lv_args, va_rf_cat, va_rf_some, hg_cti, hg_ctr]) ?_
  intro X hC hR
  have lab_39 : ∀ (x2 : Int64), dc_wp (hm_NT_truthsOn_L39 G Z o x2) F → hg_G X l (hg_rm 1 24 Z) D 5 Z 39 [(0, va_rf (some o)), (2, .long x2)] [] := by
    intro x2 h
    delta hm_NT_truthsOn_L39 at h
    refine hg_lloadn (pc := 39) (j := 2) (i := 2) hC 1 rfl rfl (show decode prog_7_method_10_code 39 = .ok (.lload_n 2, 1) by decide +kernel) ?_
    exact hg_lret (pc := 40) hC hR (hF _ (dc_some h)) (show decode prog_7_method_10_code 40 = .ok (.lreturn, 1) by decide +kernel)
  have loop_5 : ∀ (x1 : Int32) (q : Int64 × Int32), dc_wp (dc_it (hm_NT_truthsOn_s5 G Z o x1) q) (fun z => dc_wp ((fun (z : Int64) => hm_NT_truthsOn_L39 G Z o z) z) F) → hg_G X l (hg_rm 1 24 Z) D 5 Z 5 [(0, va_rf (some o)), (1, .int x1), (2, .long q.1), (4, .int q.2)] [] := by
    intro x1
    refine dc_loopF ?_
    intro F_5 hl_5 hr_5
    rintro ⟨x2, x4⟩ h
    have h : dc_wp (hm_NT_truthsOn_b5 G Z o x1 x2 x4) F_5 := h
    delta hm_NT_truthsOn_b5 at h
    refine hg_iload (pc := 5) (i := 4) hC 3 rfl (show decode prog_7_method_10_code 5 = .ok (.iload 4, 2) by decide +kernel) ?_
    refine hg_aloadn (pc := 7) (j := 0) (i := 0) (r := (some o)) hC 0 rfl rfl (show decode prog_7_method_10_code 7 = .ok (.aload_n 0, 1) by decide +kernel) ?_
    refine hg_rgi (pc := 8) (r := (some o)) hC fl_SignalEngine_Net_66 (show decode prog_7_method_10_code 8 = .ok (.getfield 66, 3) by decide +kernel) h ?_
    intro e1 h
    refine hg_icmp_ge (pc := 11) (tgt := 39) hC (show decode prog_7_method_10_code 11 = .ok (.if_icmp .ge 28, 3) by decide +kernel) (by decide +kernel) h ?_ ?_
    · intro h
      refine hg_lloadn (pc := 14) (j := 2) (i := 2) hC 2 rfl rfl (show decode prog_7_method_10_code 14 = .ok (.lload_n 2, 1) by decide +kernel) ?_
      refine hg_aloadn (pc := 15) (j := 0) (i := 0) (r := (some o)) hC 0 rfl rfl (show decode prog_7_method_10_code 15 = .ok (.aload_n 0, 1) by decide +kernel) ?_
      refine hg_iloadn (pc := 16) (j := 1) (i := 1) hC 1 rfl rfl (show decode prog_7_method_10_code 16 = .ok (.iload_n 1, 1) by decide +kernel) ?_
      refine hg_aloadn (pc := 17) (j := 0) (i := 0) (r := (some o)) hC 0 rfl rfl (show decode prog_7_method_10_code 17 = .ok (.aload_n 0, 1) by decide +kernel) ?_
      refine hg_rgr (pc := 18) (r := (some o)) hC fl_SignalEngine_Net_21 (show decode prog_7_method_10_code 18 = .ok (.getfield 21, 3) by decide +kernel) h ?_
      intro e2 h
      refine hg_iload (pc := 21) (i := 4) hC 3 rfl (show decode prog_7_method_10_code 21 = .ok (.iload 4, 2) by decide +kernel) ?_
      refine hg_riald (pc := 23) (r := e2) hC (show decode prog_7_method_10_code 23 = .ok (.iaload, 1) by decide +kernel) h ?_
      intro e3 h
      obtain ⟨b4, hb5, h⟩ := dc_bind h
      obtain ⟨hb5, hv6⟩ := hg_chk_of (C := R_NT) rfl hb5
      refine hg_kVi (pc := 24) (b := b4) (r := (some o)) (As := [.int x1, .int e3]) (rest := [.long x2]) (vo := fun q => q) (so := fun q => Z) hC cw_SignalEngine_Net_112 (fun q hq => hm_NT_truthOn_ok l D G Z b4 x1 e3 q hq) (Nat.le_of_ble_eq_true rfl) (Nat.le_of_ble_eq_true rfl) hb5 hv6 rfl (Nat.le_of_ble_eq_true rfl) (show decode prog_7_method_10_code 24 = .ok (.invokevirtual 112, 3) by decide +kernel) h ?_
      intro q7 h
      refine hg_i2l (pc := 27) hC (show decode prog_7_method_10_code 27 = .ok (.i2l, 1) by decide +kernel) ?_
      refine hg_iload (pc := 28) (i := 4) hC 3 rfl (show decode prog_7_method_10_code 28 = .ok (.iload 4, 2) by decide +kernel) ?_
      refine hg_lshl (pc := 30) hC (show decode prog_7_method_10_code 30 = .ok (.lshl, 1) by decide +kernel) ?_
      refine hg_lor (pc := 31) hC (show decode prog_7_method_10_code 31 = .ok (.lor, 1) by decide +kernel) ?_
      refine hg_letL h ?_
      intro v8 h
      refine hg_lstoren (pc := 32) (j := 2) (i := 2) (lv' := [(2, .long v8), (0, va_rf (some o)), (1, .int x1), (4, .int x4)]) hC rfl (Nat.le_of_ble_eq_true rfl) rfl (show decode prog_7_method_10_code 32 = .ok (.lstore_n 2, 1) by decide +kernel) ?_
      refine hg_iinc (pc := 33) (i := 4) (v := (x4 + 1)) (lv' := [(4, .int (x4 + 1)), (2, .long v8), (0, va_rf (some o)), (1, .int x1)]) hC 3 rfl rfl (Nat.le_of_ble_eq_true rfl) rfl (show decode prog_7_method_10_code 33 = .ok (.iinc 4 1, 3) by decide +kernel) ?_
      refine hg_goto (pc := 36) (tgt := 5) hC (show decode prog_7_method_10_code 36 = .ok (.goto (-31), 3) by decide +kernel) (by decide +kernel) ?_
      exact hg_sub [2, 3, 1, 0] rfl (hl_5 (v8, (x4 + 1)) (dc_some h))
    · intro h
      have h : dc_wp (hm_NT_truthsOn_L39 G Z o x2) F := hr_5 x2 (dc_some h)
      exact hg_sub [0, 2] rfl (lab_39 x2 h)
  have lab_5 : ∀ (x1 : Int32) (x2 : Int64) (x4 : Int32), dc_wp (hm_NT_truthsOn_L5 G Z o x1 x2 x4) F → hg_G X l (hg_rm 1 24 Z) D 5 Z 5 [(0, va_rf (some o)), (1, .int x1), (2, .long x2), (4, .int x4)] [] := fun x1 x2 x4 h => loop_5 x1 (x2, x4) (dc_bind h)
  show hg_G X l (hg_rm 1 24 Z) D 5 Z 0 [(0, va_rf (some o)), (1, .int p1)] []
  have h : dc_wp (hm_NT_truthsOn G Z o p1) F := h
  delta hm_NT_truthsOn at h
  refine hg_lconst (pc := 0) (v := 0) hC (show decode prog_7_method_10_code 0 = .ok (.lconst 0, 1) by decide +kernel) (by decide +kernel) ?_
  refine hg_lstoren (pc := 1) (j := 2) (i := 2) (lv' := [(2, .long 0), (0, va_rf (some o)), (1, .int p1)]) hC rfl (Nat.le_of_ble_eq_true rfl) rfl (show decode prog_7_method_10_code 1 = .ok (.lstore_n 2, 1) by decide +kernel) ?_
  refine hg_iconst (pc := 2) (v := 0) hC (show decode prog_7_method_10_code 2 = .ok (.iconst 0, 1) by decide +kernel) (by decide +kernel) ?_
  refine hg_istore (pc := 3) (i := 4) (lv' := [(4, .int 0), (2, .long 0), (0, va_rf (some o)), (1, .int p1)]) hC (Nat.le_of_ble_eq_true rfl) rfl (show decode prog_7_method_10_code 3 = .ok (.istore 4, 2) by decide +kernel) ?_
  exact hg_sub [2, 3, 1, 0] rfl (lab_5 p1 0 0 h)
noncomputable def hm_SE_pass_L26 (G : hg_E) (S : hg_S) (o : Nat) : Option ((hg_S × Int64) ⊕ hg_X) :=
  if 1 ≤ S.2.2.1 ∧ 6 ≤ S.2.2.2 then some (.inr ((S.1, S.2.1 + 1, S.2.2.1 - 1, S.2.2.2 - 6), S.2.1, true)) else none
noncomputable def hm_SE_pass (G : hg_E) (S : hg_S) (o : Nat) (p1 : Int32) : Option ((hg_S × Int64) ⊕ hg_X) :=
  (hg_gi S (some o) 0 13).bind fun e2 => if e2 = 0 then (if 1 ≤ S.2.2.1 ∧ 6 ≤ S.2.2.2 then some (.inr ((S.1, S.2.1 + 1, S.2.2.1 - 1, S.2.2.2 - 6), S.2.1, false)) else none) else (if p1 < 0 then (hm_SE_pass_L26 G S o) else (if p1 < 8192 then ((hg_gr S (some o) 0 11).bind fun e4 => (hg_chk S e4 12).bind fun b5 => (hm_NT_truthsOn G S b5 p1).bind fun q8 => some (.inl (S, q8))) else (hm_SE_pass_L26 G S o)))
set_option maxHeartbeats 4000000 in
set_option maxRecDepth 100000 in
/-- SignalEngine.pass(I)J -/
theorem hm_SE_pass_ok (l : Launch) (hlt : l.stackTraces = false) (D : va_G) (G : hg_E) (Z : hg_S) (o : Nat) (p1 : Int32) (q : (hg_S × Int64) ⊕ hg_X) (hq : hm_SE_pass G Z o p1 = some q) : hg_C l ⟨"SignalEngine", "pass", "(I)J"⟩ prog_1_method_27_code 2 (some (.long)) 6 100 D G [.ref o, .int p1] Z (Sum.elim (fun q => (.inl (some (.long q.2), q.1) : hg_O)) hg_ox q) := by
  refine hg_start (cv := fun q => (Sum.elim (fun q => (.inl (some (.long q.2), q.1) : hg_O)) hg_ox q)) hq ?_
  intro F hF h
  refine hg_enter (lv := [(0, va_rf (some o)), (1, .int p1)]) (by decide +kernel) (by simp [lg_sl, va_rf_cat, hg_cti, hg_ctr]) (by simp [lv_args, va_rf_cat, va_rf_some, hg_cti, hg_ctr]) ?_
  intro X hC hR
  have lab_26 : ∀ (S : hg_S), dc_wp (hm_SE_pass_L26 G S o) F → hg_G X l (hg_rm 6 100 Z) D 2 S 26 [(0, va_rf (some o))] [] := by
    intro S  h
    delta hm_SE_pass_L26 at h
    rcases dc_ite h with ⟨hr1, h⟩ | ⟨_, h⟩
    · exact hg_raise (pc := 26) (rest := []) hC hlt hR true exq_SignalEngine_152 exq_SignalEngine_152_two (show decode prog_1_method_27_code 26 = .ok (.new 150, 3) by decide +kernel) (show decode prog_1_method_27_code 29 = .ok (.dup, 1) by decide +kernel) (show decode prog_1_method_27_code 30 = .ok (.invokespecial 152, 3) by decide +kernel) (show decode prog_1_method_27_code 33 = .ok (.athrow, 1) by decide +kernel) hr1 (Nat.le_of_ble_eq_true rfl) (Nat.le_of_ble_eq_true rfl) ((fun (z : hg_X) (h : dc_wp (some (.inr z)) F) => hF (.inr z) (dc_some h)) ((S.1, S.2.1 + 1, S.2.2.1 - 1, S.2.2.2 - 6), S.2.1, true) h)
    · exact (dc_not h).elim
  show hg_G X l (hg_rm 6 100 Z) D 2 Z 0 [(0, va_rf (some o)), (1, .int p1)] []
  have h : dc_wp (hm_SE_pass G Z o p1) F := h
  delta hm_SE_pass at h
  refine hg_aloadn (pc := 0) (j := 0) (i := 0) (r := (some o)) hC 0 rfl rfl (show decode prog_1_method_27_code 0 = .ok (.aload_n 0, 1) by decide +kernel) ?_
  refine hg_rgi (pc := 1) (r := (some o)) hC fl_SignalEngine_94 (show decode prog_1_method_27_code 1 = .ok (.getfield 94, 3) by decide +kernel) h ?_
  intro e2 h
  refine hg_if_ne (pc := 4) (tgt := 15) hC (show decode prog_1_method_27_code 4 = .ok (.ifCond .ne 11, 3) by decide +kernel) (by decide +kernel) h ?_ ?_
  · intro h
    rcases dc_ite h with ⟨hr3, h⟩ | ⟨_, h⟩
    · exact hg_raise (pc := 7) (rest := []) hC hlt hR false exq_SignalEngine_142 exq_SignalEngine_142_two (show decode prog_1_method_27_code 7 = .ok (.new 140, 3) by decide +kernel) (show decode prog_1_method_27_code 10 = .ok (.dup, 1) by decide +kernel) (show decode prog_1_method_27_code 11 = .ok (.invokespecial 142, 3) by decide +kernel) (show decode prog_1_method_27_code 14 = .ok (.athrow, 1) by decide +kernel) hr3 (Nat.le_of_ble_eq_true rfl) (Nat.le_of_ble_eq_true rfl) ((fun (z : hg_X) (h : dc_wp (some (.inr z)) F) => hF (.inr z) (dc_some h)) ((Z.1, Z.2.1 + 1, Z.2.2.1 - 1, Z.2.2.2 - 6), Z.2.1, false) h)
    · exact (dc_not h).elim
  · intro h
    refine hg_iloadn (pc := 15) (j := 1) (i := 1) hC 1 rfl rfl (show decode prog_1_method_27_code 15 = .ok (.iload_n 1, 1) by decide +kernel) ?_
    refine hg_if_lt (pc := 16) (tgt := 26) hC (show decode prog_1_method_27_code 16 = .ok (.ifCond .lt 10, 3) by decide +kernel) (by decide +kernel) h ?_ ?_
    · intro h
      exact hg_sub [0] rfl (lab_26 Z h)
    · intro h
      refine hg_iloadn (pc := 19) (j := 1) (i := 1) hC 1 rfl rfl (show decode prog_1_method_27_code 19 = .ok (.iload_n 1, 1) by decide +kernel) ?_
      refine hg_sipush (pc := 20) (v := 8192) hC (show decode prog_1_method_27_code 20 = .ok (.sipush 8192, 3) by decide +kernel) (by decide +kernel) ?_
      refine hg_icmp_lt (pc := 23) (tgt := 34) hC (show decode prog_1_method_27_code 23 = .ok (.if_icmp .lt 11, 3) by decide +kernel) (by decide +kernel) h ?_ ?_
      · intro h
        refine hg_aloadn (pc := 34) (j := 0) (i := 0) (r := (some o)) hC 0 rfl rfl (show decode prog_1_method_27_code 34 = .ok (.aload_n 0, 1) by decide +kernel) ?_
        refine hg_rgr (pc := 35) (r := (some o)) hC fl_SignalEngine_233 (show decode prog_1_method_27_code 35 = .ok (.getfield 233, 3) by decide +kernel) h ?_
        intro e4 h
        refine hg_iloadn (pc := 38) (j := 1) (i := 1) hC 1 rfl rfl (show decode prog_1_method_27_code 38 = .ok (.iload_n 1, 1) by decide +kernel) ?_
        obtain ⟨b5, hb6, h⟩ := dc_bind h
        obtain ⟨hb6, hv7⟩ := hg_chk_of (C := R_NT) rfl hb6
        refine hg_kVl (pc := 39) (b := b5) (r := e4) (As := [.int p1]) (rest := []) (vo := fun q => q) (so := fun q => Z) hC cw_SignalEngine_247 (fun q hq => hm_NT_truthsOn_ok l D G Z b5 p1 q hq) (Nat.le_of_ble_eq_true rfl) (Nat.le_of_ble_eq_true rfl) hb6 hv7 rfl (Nat.le_of_ble_eq_true rfl) (show decode prog_1_method_27_code 39 = .ok (.invokevirtual 247, 3) by decide +kernel) h ?_
        intro q8 h
        exact hg_lret (pc := 42) hC hR (hF _ (dc_some h)) (show decode prog_1_method_27_code 42 = .ok (.lreturn, 1) by decide +kernel)
      · intro h
        exact hg_sub [0] rfl (lab_26 Z h)
