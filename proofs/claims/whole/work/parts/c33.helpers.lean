noncomputable def hl_restart (G : hg_E) (S : hg_S) (b : Nat) (v : Int64) : Option (hg_S × Int64 × Int32) :=
  (hg_chk S (some b) 0).bind fun b1 => (hm_SE_restart G S b1).bind (Sum.elim (fun q => some (q.1, Int32.toInt64 q.2, (0 : Int32))) (fun z => if z.2.2 = true then none else some (z.1, v, (1 : Int32))))
set_option maxHeartbeats 4000000 in
set_option maxRecDepth 100000 in
/-- the law's restart -/
theorem hl_restart_ok (l : Launch) (hlt : l.stackTraces = false) (D : va_G) (G : hg_E) (S : hg_S) (b w : Nat) (v : Int64) (q : hg_S × Int64 × Int32) (hq : hl_restart G S b v = some q) : hl_CH l ⟨"SignalEngineLaw", "restart", "(LSignalEngine;[J)I"⟩ method_3_code 3 (some (.int)) [(0, 8, 11, 13)] 7 121 D G [.ref b, .ref w] (S.1 ++ [lw_o G w v], S.2) (some (.int q.2.2)) (q.1.1 ++ [lw_o G w q.2.1], q.1.2) := by
  refine hg_start (cv := fun q => (.inl (some (.int q.2.2), (q.1.1 ++ [lw_o G w q.2.1], q.1.2)) : hg_O)) hq ?_
  intro F hF h
  refine hl_enterH (lv := [(0, va_rf (some b)), (1, va_rf (some w))]) (by decide +kernel) (by simp [lg_sl, hg_cti, hg_ctr]) (by simp [lv_args, va_rf_some, hg_cti, hg_ctr]) ?_
  intro X hC hT hN hR
  have h : dc_wp (hl_restart G S b v) F := h
  delta hl_restart at h
  show hg_G X l (hg_rm 7 121 (S.1 ++ [lw_o G w v], S.2)) D 3 (S.1 ++ [lw_o G w v], S.2) 0 [(0, va_rf (some b)), (1, va_rf (some w))] []
  obtain ⟨b1, hb1, h⟩ := dc_bind h
  obtain ⟨hb2, hv⟩ := hg_chk_of (C := R_SE) rfl hb1
  have hbo : b = b1 := Option.some.inj hb2
  subst hbo
  obtain ⟨q2, hq2, h⟩ := dc_bind h
  have hM := hm_SE_restart_ok l hlt D G S b q2 hq2
  refine hg_aloadn (pc := 0) (j := 1) (i := 1) (r := (some w)) hC 1 rfl rfl (show decode method_3_code 0 = .ok (.aload_n 1, 1) by decide +kernel) ?_
  refine hg_iconst (pc := 1) (v := 0) hC (show decode method_3_code 1 = .ok (.iconst 0, 1) by decide +kernel) (by decide +kernel) ?_
  refine hg_aloadn (pc := 2) (j := 0) (i := 0) (r := (some b)) hC 0 rfl rfl (show decode method_3_code 2 = .ok (.aload_n 0, 1) by decide +kernel) ?_
  rcases q2 with u | ⟨zs, zx, zb⟩
  · refine hl_cV (pc := 3) (S := S) (F := [lw_o G w v]) (As := []) (rest := [.int 0, va_rf (some w)]) (v := some (.int u.2)) (u := u.1) (b := b) hC cw_SignalEngineLaw_7 hM ⟨Nat.le_of_ble_eq_true rfl, Nat.le_of_ble_eq_true rfl⟩ hv rfl (Nat.le_of_ble_eq_true rfl) (show decode method_3_code 3 = .ok (.invokevirtual 7, 3) by decide +kernel) ?_
    show hg_G X l (hg_rm 7 121 (S.1 ++ [lw_o G w v], S.2)) D 3 (u.1.1 ++ [lw_o G w v], u.1.2) 6 [(0, va_rf (some b)), (1, va_rf (some w))] [.int u.2, .int 0, va_rf (some w)]
    refine hg_i2l (pc := 6) hC (show decode method_3_code 6 = .ok (.i2l, 1) by decide +kernel) ?_
    refine lw_last (pc := 7) (w := w) (v := v) (ws := u.1.1) (F := []) (S2 := u.1.2) hC (show decode method_3_code 7 = .ok (.lastore, 1) by decide +kernel) ?_
    refine hg_goto (pc := 8) (tgt := 14) hC (show decode method_3_code 8 = .ok (.goto 6, 3) by decide +kernel) (by decide +kernel) ?_
    refine hg_iconst (pc := 14) (v := 0) hC (show decode method_3_code 14 = .ok (.iconst 0, 1) by decide +kernel) (by decide +kernel) ?_
    exact hg_iret (pc := 15) hC hR (hF _ (dc_some h)) (show decode method_3_code 15 = .ok (.ireturn, 1) by decide +kernel)
  · rcases dc_ite h with ⟨hz, h⟩ | ⟨hz, h⟩
    · exact (dc_not h).elim
    · have hz2 : zb = false := by cases zb with | true => exact absurd rfl hz | false => rfl
      subst hz2
      refine hl_catch1 (pc := 3) (S := S) (F := [lw_o G w v]) (As := []) (rest := [.int 0, va_rf (some w)]) (b := b) (C := "java/lang/IllegalStateException") (x := zx) (u := zs) hC hT (by decide) (by decide) w_1148 cw_SignalEngineLaw_7 hM ⟨Nat.le_of_ble_eq_true rfl, Nat.le_of_ble_eq_true rfl⟩ hv rfl (Nat.le_of_ble_eq_true rfl) (show decode method_3_code 3 = .ok (.invokevirtual 7, 3) by decide +kernel) ?_
      refine hg_astoren (pc := 11) (j := 2) (i := 2) (r := some zx) (lv' := [(2, va_rf (some zx)), (0, va_rf (some b)), (1, va_rf (some w))]) hC rfl (Nat.le_of_ble_eq_true rfl) rfl (show decode method_3_code 11 = .ok (.astore_n 2, 1) by decide +kernel) ?_
      refine hg_iconst (pc := 12) (v := 1) hC (show decode method_3_code 12 = .ok (.iconst 1, 1) by decide +kernel) (by decide +kernel) ?_
      exact hg_iret (pc := 13) hC hR (hF _ (dc_some h)) (show decode method_3_code 13 = .ok (.ireturn, 1) by decide +kernel)
noncomputable def hl_instant (G : hg_E) (S : hg_S) (b : Nat) (p1 : Int32) (v : Int64) : Option (hg_S × Int64 × Int32) :=
  (hg_chk S (some b) 0).bind fun b1 => (hm_SE_instant G S b1 p1).bind (Sum.elim (fun q => some (q.1, Int32.toInt64 q.2, (0 : Int32))) (fun z => if z.2.2 = true then some (z.1, v, (2 : Int32)) else some (z.1, v, (1 : Int32))))
set_option maxHeartbeats 4000000 in
set_option maxRecDepth 100000 in
/-- the law's instant -/
theorem hl_instant_ok (l : Launch) (hlt : l.stackTraces = false) (D : va_G) (G : hg_E) (S : hg_S) (b w : Nat) (p1 : Int32) (v : Int64) (q : hg_S × Int64 × Int32) (hq : hl_instant G S b p1 v = some q) : hl_CH l ⟨"SignalEngineLaw", "instant", "(LSignalEngine;I[J)I"⟩ method_4_code 4 (some (.int)) [(0, 9, 12, 13), (0, 9, 15, 19)] 7 158 D G [.ref b, .int p1, .ref w] (S.1 ++ [lw_o G w v], S.2) (some (.int q.2.2)) (q.1.1 ++ [lw_o G w q.2.1], q.1.2) := by
  refine hg_start (cv := fun q => (.inl (some (.int q.2.2), (q.1.1 ++ [lw_o G w q.2.1], q.1.2)) : hg_O)) hq ?_
  intro F hF h
  refine hl_enterH (lv := [(0, va_rf (some b)), (1, .int p1), (2, va_rf (some w))]) (by decide +kernel) (by simp [lg_sl, hg_cti, hg_ctr]) (by simp [lv_args, va_rf_some, hg_cti, hg_ctr]) ?_
  intro X hC hT hN hR
  have h : dc_wp (hl_instant G S b p1 v) F := h
  delta hl_instant at h
  show hg_G X l (hg_rm 7 158 (S.1 ++ [lw_o G w v], S.2)) D 4 (S.1 ++ [lw_o G w v], S.2) 0 [(0, va_rf (some b)), (1, .int p1), (2, va_rf (some w))] []
  obtain ⟨b1, hb1, h⟩ := dc_bind h
  obtain ⟨hb2, hv⟩ := hg_chk_of (C := R_SE) rfl hb1
  have hbo : b = b1 := Option.some.inj hb2
  subst hbo
  obtain ⟨q2, hq2, h⟩ := dc_bind h
  have hM := hm_SE_instant_ok l hlt D G S b p1 q2 hq2
  refine hg_aloadn (pc := 0) (j := 2) (i := 2) (r := (some w)) hC 2 rfl rfl (show decode method_4_code 0 = .ok (.aload_n 2, 1) by decide +kernel) ?_
  refine hg_iconst (pc := 1) (v := 0) hC (show decode method_4_code 1 = .ok (.iconst 0, 1) by decide +kernel) (by decide +kernel) ?_
  refine hg_aloadn (pc := 2) (j := 0) (i := 0) (r := (some b)) hC 0 rfl rfl (show decode method_4_code 2 = .ok (.aload_n 0, 1) by decide +kernel) ?_
  refine hg_iloadn (pc := 3) (j := 1) (i := 1) hC 1 rfl rfl (show decode method_4_code 3 = .ok (.iload_n 1, 1) by decide +kernel) ?_
  rcases q2 with u | ⟨zs, zx, zb⟩
  · refine hl_cV (pc := 4) (S := S) (F := [lw_o G w v]) (As := [.int p1]) (rest := [.int 0, va_rf (some w)]) (v := some (.int u.2)) (u := u.1) (b := b) hC cw_SignalEngineLaw_15 hM ⟨Nat.le_of_ble_eq_true rfl, Nat.le_of_ble_eq_true rfl⟩ hv rfl (Nat.le_of_ble_eq_true rfl) (show decode method_4_code 4 = .ok (.invokevirtual 15, 3) by decide +kernel) ?_
    show hg_G X l (hg_rm 7 158 (S.1 ++ [lw_o G w v], S.2)) D 4 (u.1.1 ++ [lw_o G w v], u.1.2) 7 [(0, va_rf (some b)), (1, .int p1), (2, va_rf (some w))] [.int u.2, .int 0, va_rf (some w)]
    refine hg_i2l (pc := 7) hC (show decode method_4_code 7 = .ok (.i2l, 1) by decide +kernel) ?_
    refine lw_last (pc := 8) (w := w) (v := v) (ws := u.1.1) (F := []) (S2 := u.1.2) hC (show decode method_4_code 8 = .ok (.lastore, 1) by decide +kernel) ?_
    refine hg_goto (pc := 9) (tgt := 18) hC (show decode method_4_code 9 = .ok (.goto 9, 3) by decide +kernel) (by decide +kernel) ?_
    refine hg_iconst (pc := 18) (v := 0) hC (show decode method_4_code 18 = .ok (.iconst 0, 1) by decide +kernel) (by decide +kernel) ?_
    exact hg_iret (pc := 19) hC hR (hF _ (dc_some h)) (show decode method_4_code 19 = .ok (.ireturn, 1) by decide +kernel)
  · rcases dc_ite h with ⟨hz, h⟩ | ⟨hz, h⟩
    · have hz2 : zb = true := hz
      subst hz2
      refine hl_catch2 (pc := 4) (S := S) (F := [lw_o G w v]) (As := [.int p1]) (rest := [.int 0, va_rf (some w)]) (b := b) (x := zx) (u := zs) hC hN hT (by decide) (by decide) (by decide) (by decide) w_1148 w_1178 cw_SignalEngineLaw_15 hM ⟨Nat.le_of_ble_eq_true rfl, Nat.le_of_ble_eq_true rfl⟩ hv rfl (Nat.le_of_ble_eq_true rfl) (show decode method_4_code 4 = .ok (.invokevirtual 15, 3) by decide +kernel) ?_
      refine hg_astoren (pc := 15) (j := 3) (i := 3) (r := some zx) (lv' := [(3, va_rf (some zx)), (0, va_rf (some b)), (1, .int p1), (2, va_rf (some w))]) hC rfl (Nat.le_of_ble_eq_true rfl) rfl (show decode method_4_code 15 = .ok (.astore_n 3, 1) by decide +kernel) ?_
      refine hg_iconst (pc := 16) (v := 2) hC (show decode method_4_code 16 = .ok (.iconst 2, 1) by decide +kernel) (by decide +kernel) ?_
      exact hg_iret (pc := 17) hC hR (hF _ (dc_some h)) (show decode method_4_code 17 = .ok (.ireturn, 1) by decide +kernel)
    · have hz2 : zb = false := by cases zb with | true => exact absurd rfl hz | false => rfl
      subst hz2
      refine hl_catch1 (pc := 4) (S := S) (F := [lw_o G w v]) (As := [.int p1]) (rest := [.int 0, va_rf (some w)]) (b := b) (C := "java/lang/IllegalStateException") (x := zx) (u := zs) hC hT (by decide) (by decide) w_1148 cw_SignalEngineLaw_15 hM ⟨Nat.le_of_ble_eq_true rfl, Nat.le_of_ble_eq_true rfl⟩ hv rfl (Nat.le_of_ble_eq_true rfl) (show decode method_4_code 4 = .ok (.invokevirtual 15, 3) by decide +kernel) ?_
      refine hg_astoren (pc := 12) (j := 3) (i := 3) (r := some zx) (lv' := [(3, va_rf (some zx)), (0, va_rf (some b)), (1, .int p1), (2, va_rf (some w))]) hC rfl (Nat.le_of_ble_eq_true rfl) rfl (show decode method_4_code 12 = .ok (.astore_n 3, 1) by decide +kernel) ?_
      refine hg_iconst (pc := 13) (v := 1) hC (show decode method_4_code 13 = .ok (.iconst 1, 1) by decide +kernel) (by decide +kernel) ?_
      exact hg_iret (pc := 14) hC hR (hF _ (dc_some h)) (show decode method_4_code 14 = .ok (.ireturn, 1) by decide +kernel)
noncomputable def hl_go (G : hg_E) (S : hg_S) (b : Nat) (p1 : Int32) (v : Int64) : Option (hg_S × Int64 × Int32) :=
  (hg_chk S (some b) 0).bind fun b1 => (hm_SE_go G S b1 p1).bind (Sum.elim (fun q => some (q, v, (0 : Int32))) (fun z => if z.2.2 = true then some (z.1, v, (2 : Int32)) else some (z.1, v, (1 : Int32))))
set_option maxHeartbeats 4000000 in
set_option maxRecDepth 100000 in
/-- the law's go -/
theorem hl_go_ok (l : Launch) (hlt : l.stackTraces = false) (D : va_G) (G : hg_E) (S : hg_S) (b w : Nat) (p1 : Int32) (v : Int64) (q : hg_S × Int64 × Int32) (hq : hl_go G S b p1 v = some q) : hl_CH l ⟨"SignalEngineLaw", "go", "(LSignalEngine;I)I"⟩ method_5_code 3 (some (.int)) [(0, 5, 8, 13), (0, 5, 11, 19)] 7 121 D G [.ref b, .int p1] (S.1 ++ [lw_o G w v], S.2) (some (.int q.2.2)) (q.1.1 ++ [lw_o G w q.2.1], q.1.2) := by
  refine hg_start (cv := fun q => (.inl (some (.int q.2.2), (q.1.1 ++ [lw_o G w q.2.1], q.1.2)) : hg_O)) hq ?_
  intro F hF h
  refine hl_enterH (lv := [(0, va_rf (some b)), (1, .int p1)]) (by decide +kernel) (by simp [lg_sl, hg_cti, hg_ctr]) (by simp [lv_args, va_rf_some, hg_cti, hg_ctr]) ?_
  intro X hC hT hN hR
  have h : dc_wp (hl_go G S b p1 v) F := h
  delta hl_go at h
  show hg_G X l (hg_rm 7 121 (S.1 ++ [lw_o G w v], S.2)) D 3 (S.1 ++ [lw_o G w v], S.2) 0 [(0, va_rf (some b)), (1, .int p1)] []
  obtain ⟨b1, hb1, h⟩ := dc_bind h
  obtain ⟨hb2, hv⟩ := hg_chk_of (C := R_SE) rfl hb1
  have hbo : b = b1 := Option.some.inj hb2
  subst hbo
  obtain ⟨q2, hq2, h⟩ := dc_bind h
  have hM := hm_SE_go_ok l hlt D G S b p1 q2 hq2
  refine hg_aloadn (pc := 0) (j := 0) (i := 0) (r := (some b)) hC 0 rfl rfl (show decode method_5_code 0 = .ok (.aload_n 0, 1) by decide +kernel) ?_
  refine hg_iloadn (pc := 1) (j := 1) (i := 1) hC 1 rfl rfl (show decode method_5_code 1 = .ok (.iload_n 1, 1) by decide +kernel) ?_
  rcases q2 with u | ⟨zs, zx, zb⟩
  · refine hl_cV (pc := 2) (S := S) (F := [lw_o G w v]) (As := [.int p1]) (rest := []) (v := none) (u := u) (b := b) hC cw_SignalEngineLaw_21 hM ⟨Nat.le_of_ble_eq_true rfl, Nat.le_of_ble_eq_true rfl⟩ hv rfl (Nat.le_of_ble_eq_true rfl) (show decode method_5_code 2 = .ok (.invokevirtual 21, 3) by decide +kernel) ?_
    show hg_G X l (hg_rm 7 121 (S.1 ++ [lw_o G w v], S.2)) D 3 (u.1 ++ [lw_o G w v], u.2) 5 [(0, va_rf (some b)), (1, .int p1)] []
    refine hg_goto (pc := 5) (tgt := 14) hC (show decode method_5_code 5 = .ok (.goto 9, 3) by decide +kernel) (by decide +kernel) ?_
    refine hg_iconst (pc := 14) (v := 0) hC (show decode method_5_code 14 = .ok (.iconst 0, 1) by decide +kernel) (by decide +kernel) ?_
    exact hg_iret (pc := 15) hC hR (hF _ (dc_some h)) (show decode method_5_code 15 = .ok (.ireturn, 1) by decide +kernel)
  · rcases dc_ite h with ⟨hz, h⟩ | ⟨hz, h⟩
    · have hz2 : zb = true := hz
      subst hz2
      refine hl_catch2 (pc := 2) (S := S) (F := [lw_o G w v]) (As := [.int p1]) (rest := []) (b := b) (x := zx) (u := zs) hC hN hT (by decide) (by decide) (by decide) (by decide) w_1148 w_1178 cw_SignalEngineLaw_21 hM ⟨Nat.le_of_ble_eq_true rfl, Nat.le_of_ble_eq_true rfl⟩ hv rfl (Nat.le_of_ble_eq_true rfl) (show decode method_5_code 2 = .ok (.invokevirtual 21, 3) by decide +kernel) ?_
      refine hg_astoren (pc := 11) (j := 2) (i := 2) (r := some zx) (lv' := [(2, va_rf (some zx)), (0, va_rf (some b)), (1, .int p1)]) hC rfl (Nat.le_of_ble_eq_true rfl) rfl (show decode method_5_code 11 = .ok (.astore_n 2, 1) by decide +kernel) ?_
      refine hg_iconst (pc := 12) (v := 2) hC (show decode method_5_code 12 = .ok (.iconst 2, 1) by decide +kernel) (by decide +kernel) ?_
      exact hg_iret (pc := 13) hC hR (hF _ (dc_some h)) (show decode method_5_code 13 = .ok (.ireturn, 1) by decide +kernel)
    · have hz2 : zb = false := by cases zb with | true => exact absurd rfl hz | false => rfl
      subst hz2
      refine hl_catch1 (pc := 2) (S := S) (F := [lw_o G w v]) (As := [.int p1]) (rest := []) (b := b) (C := "java/lang/IllegalStateException") (x := zx) (u := zs) hC hT (by decide) (by decide) w_1148 cw_SignalEngineLaw_21 hM ⟨Nat.le_of_ble_eq_true rfl, Nat.le_of_ble_eq_true rfl⟩ hv rfl (Nat.le_of_ble_eq_true rfl) (show decode method_5_code 2 = .ok (.invokevirtual 21, 3) by decide +kernel) ?_
      refine hg_astoren (pc := 8) (j := 2) (i := 2) (r := some zx) (lv' := [(2, va_rf (some zx)), (0, va_rf (some b)), (1, .int p1)]) hC rfl (Nat.le_of_ble_eq_true rfl) rfl (show decode method_5_code 8 = .ok (.astore_n 2, 1) by decide +kernel) ?_
      refine hg_iconst (pc := 9) (v := 1) hC (show decode method_5_code 9 = .ok (.iconst 1, 1) by decide +kernel) (by decide +kernel) ?_
      exact hg_iret (pc := 10) hC hR (hF _ (dc_some h)) (show decode method_5_code 10 = .ok (.ireturn, 1) by decide +kernel)
noncomputable def hl_explore (G : hg_E) (S : hg_S) (b : Nat) (v : Int64) : Option (hg_S × Int64 × Int32) :=
  (hg_chk S (some b) 0).bind fun b1 => (hm_SE_explore G S b1).bind (Sum.elim (fun q => some (q.1, Int32.toInt64 q.2, (0 : Int32))) (fun z => if z.2.2 = true then none else some (z.1, v, (1 : Int32))))
set_option maxHeartbeats 4000000 in
set_option maxRecDepth 100000 in
/-- the law's explore -/
theorem hl_explore_ok (l : Launch) (hlt : l.stackTraces = false) (D : va_G) (G : hg_E) (S : hg_S) (b w : Nat) (v : Int64) (q : hg_S × Int64 × Int32) (hq : hl_explore G S b v = some q) : hl_CH l ⟨"SignalEngineLaw", "explore", "(LSignalEngine;[J)I"⟩ method_6_code 3 (some (.int)) [(0, 8, 11, 13)] 9 208 D G [.ref b, .ref w] (S.1 ++ [lw_o G w v], S.2) (some (.int q.2.2)) (q.1.1 ++ [lw_o G w q.2.1], q.1.2) := by
  refine hg_start (cv := fun q => (.inl (some (.int q.2.2), (q.1.1 ++ [lw_o G w q.2.1], q.1.2)) : hg_O)) hq ?_
  intro F hF h
  refine hl_enterH (lv := [(0, va_rf (some b)), (1, va_rf (some w))]) (by decide +kernel) (by simp [lg_sl, hg_cti, hg_ctr]) (by simp [lv_args, va_rf_some, hg_cti, hg_ctr]) ?_
  intro X hC hT hN hR
  have h : dc_wp (hl_explore G S b v) F := h
  delta hl_explore at h
  show hg_G X l (hg_rm 9 208 (S.1 ++ [lw_o G w v], S.2)) D 3 (S.1 ++ [lw_o G w v], S.2) 0 [(0, va_rf (some b)), (1, va_rf (some w))] []
  obtain ⟨b1, hb1, h⟩ := dc_bind h
  obtain ⟨hb2, hv⟩ := hg_chk_of (C := R_SE) rfl hb1
  have hbo : b = b1 := Option.some.inj hb2
  subst hbo
  obtain ⟨q2, hq2, h⟩ := dc_bind h
  have hM := hm_SE_explore_ok l hlt D G S b q2 hq2
  refine hg_aloadn (pc := 0) (j := 1) (i := 1) (r := (some w)) hC 1 rfl rfl (show decode method_6_code 0 = .ok (.aload_n 1, 1) by decide +kernel) ?_
  refine hg_iconst (pc := 1) (v := 0) hC (show decode method_6_code 1 = .ok (.iconst 0, 1) by decide +kernel) (by decide +kernel) ?_
  refine hg_aloadn (pc := 2) (j := 0) (i := 0) (r := (some b)) hC 0 rfl rfl (show decode method_6_code 2 = .ok (.aload_n 0, 1) by decide +kernel) ?_
  rcases q2 with u | ⟨zs, zx, zb⟩
  · refine hl_cV (pc := 3) (S := S) (F := [lw_o G w v]) (As := []) (rest := [.int 0, va_rf (some w)]) (v := some (.int u.2)) (u := u.1) (b := b) hC cw_SignalEngineLaw_25 hM ⟨Nat.le_of_ble_eq_true rfl, Nat.le_of_ble_eq_true rfl⟩ hv rfl (Nat.le_of_ble_eq_true rfl) (show decode method_6_code 3 = .ok (.invokevirtual 25, 3) by decide +kernel) ?_
    show hg_G X l (hg_rm 9 208 (S.1 ++ [lw_o G w v], S.2)) D 3 (u.1.1 ++ [lw_o G w v], u.1.2) 6 [(0, va_rf (some b)), (1, va_rf (some w))] [.int u.2, .int 0, va_rf (some w)]
    refine hg_i2l (pc := 6) hC (show decode method_6_code 6 = .ok (.i2l, 1) by decide +kernel) ?_
    refine lw_last (pc := 7) (w := w) (v := v) (ws := u.1.1) (F := []) (S2 := u.1.2) hC (show decode method_6_code 7 = .ok (.lastore, 1) by decide +kernel) ?_
    refine hg_goto (pc := 8) (tgt := 14) hC (show decode method_6_code 8 = .ok (.goto 6, 3) by decide +kernel) (by decide +kernel) ?_
    refine hg_iconst (pc := 14) (v := 0) hC (show decode method_6_code 14 = .ok (.iconst 0, 1) by decide +kernel) (by decide +kernel) ?_
    exact hg_iret (pc := 15) hC hR (hF _ (dc_some h)) (show decode method_6_code 15 = .ok (.ireturn, 1) by decide +kernel)
  · rcases dc_ite h with ⟨hz, h⟩ | ⟨hz, h⟩
    · exact (dc_not h).elim
    · have hz2 : zb = false := by cases zb with | true => exact absurd rfl hz | false => rfl
      subst hz2
      refine hl_catch1 (pc := 3) (S := S) (F := [lw_o G w v]) (As := []) (rest := [.int 0, va_rf (some w)]) (b := b) (C := "java/lang/IllegalStateException") (x := zx) (u := zs) hC hT (by decide) (by decide) w_1148 cw_SignalEngineLaw_25 hM ⟨Nat.le_of_ble_eq_true rfl, Nat.le_of_ble_eq_true rfl⟩ hv rfl (Nat.le_of_ble_eq_true rfl) (show decode method_6_code 3 = .ok (.invokevirtual 25, 3) by decide +kernel) ?_
      refine hg_astoren (pc := 11) (j := 2) (i := 2) (r := some zx) (lv' := [(2, va_rf (some zx)), (0, va_rf (some b)), (1, va_rf (some w))]) hC rfl (Nat.le_of_ble_eq_true rfl) rfl (show decode method_6_code 11 = .ok (.astore_n 2, 1) by decide +kernel) ?_
      refine hg_iconst (pc := 12) (v := 1) hC (show decode method_6_code 12 = .ok (.iconst 1, 1) by decide +kernel) (by decide +kernel) ?_
      exact hg_iret (pc := 13) hC hR (hF _ (dc_some h)) (show decode method_6_code 13 = .ok (.ireturn, 1) by decide +kernel)
noncomputable def hl_next (G : hg_E) (S : hg_S) (b : Nat) (p1 : Int32) (p2 : Int32) (v : Int64) : Option (hg_S × Int64 × Int32) :=
  (hg_chk S (some b) 0).bind fun b1 => (hm_SE_next G S b1 p1 p2).bind (Sum.elim (fun q => some (q.1, Int32.toInt64 q.2, (0 : Int32))) (fun z => if z.2.2 = true then none else some (z.1, v, (1 : Int32))))
set_option maxHeartbeats 4000000 in
set_option maxRecDepth 100000 in
/-- the law's next -/
theorem hl_next_ok (l : Launch) (hlt : l.stackTraces = false) (D : va_G) (G : hg_E) (S : hg_S) (b w : Nat) (p1 : Int32) (p2 : Int32) (v : Int64) (q : hg_S × Int64 × Int32) (hq : hl_next G S b p1 p2 v = some q) : hl_CH l ⟨"SignalEngineLaw", "next", "(LSignalEngine;II[J)I"⟩ method_7_code 5 (some (.int)) [(0, 10, 13, 13)] 7 122 D G [.ref b, .int p1, .int p2, .ref w] (S.1 ++ [lw_o G w v], S.2) (some (.int q.2.2)) (q.1.1 ++ [lw_o G w q.2.1], q.1.2) := by
  refine hg_start (cv := fun q => (.inl (some (.int q.2.2), (q.1.1 ++ [lw_o G w q.2.1], q.1.2)) : hg_O)) hq ?_
  intro F hF h
  refine hl_enterH (lv := [(0, va_rf (some b)), (1, .int p1), (2, .int p2), (3, va_rf (some w))]) (by decide +kernel) (by simp [lg_sl, hg_cti, hg_ctr]) (by simp [lv_args, va_rf_some, hg_cti, hg_ctr]) ?_
  intro X hC hT hN hR
  have h : dc_wp (hl_next G S b p1 p2 v) F := h
  delta hl_next at h
  show hg_G X l (hg_rm 7 122 (S.1 ++ [lw_o G w v], S.2)) D 5 (S.1 ++ [lw_o G w v], S.2) 0 [(0, va_rf (some b)), (1, .int p1), (2, .int p2), (3, va_rf (some w))] []
  obtain ⟨b1, hb1, h⟩ := dc_bind h
  obtain ⟨hb2, hv⟩ := hg_chk_of (C := R_SE) rfl hb1
  have hbo : b = b1 := Option.some.inj hb2
  subst hbo
  obtain ⟨q2, hq2, h⟩ := dc_bind h
  have hM := hm_SE_next_ok l hlt D G S b p1 p2 q2 hq2
  refine hg_aloadn (pc := 0) (j := 3) (i := 3) (r := (some w)) hC 3 rfl rfl (show decode method_7_code 0 = .ok (.aload_n 3, 1) by decide +kernel) ?_
  refine hg_iconst (pc := 1) (v := 0) hC (show decode method_7_code 1 = .ok (.iconst 0, 1) by decide +kernel) (by decide +kernel) ?_
  refine hg_aloadn (pc := 2) (j := 0) (i := 0) (r := (some b)) hC 0 rfl rfl (show decode method_7_code 2 = .ok (.aload_n 0, 1) by decide +kernel) ?_
  refine hg_iloadn (pc := 3) (j := 1) (i := 1) hC 1 rfl rfl (show decode method_7_code 3 = .ok (.iload_n 1, 1) by decide +kernel) ?_
  refine hg_iloadn (pc := 4) (j := 2) (i := 2) hC 2 rfl rfl (show decode method_7_code 4 = .ok (.iload_n 2, 1) by decide +kernel) ?_
  rcases q2 with u | ⟨zs, zx, zb⟩
  · refine hl_cV (pc := 5) (S := S) (F := [lw_o G w v]) (As := [.int p1, .int p2]) (rest := [.int 0, va_rf (some w)]) (v := some (.int u.2)) (u := u.1) (b := b) hC cw_SignalEngineLaw_28 hM ⟨Nat.le_of_ble_eq_true rfl, Nat.le_of_ble_eq_true rfl⟩ hv rfl (Nat.le_of_ble_eq_true rfl) (show decode method_7_code 5 = .ok (.invokevirtual 28, 3) by decide +kernel) ?_
    show hg_G X l (hg_rm 7 122 (S.1 ++ [lw_o G w v], S.2)) D 5 (u.1.1 ++ [lw_o G w v], u.1.2) 8 [(0, va_rf (some b)), (1, .int p1), (2, .int p2), (3, va_rf (some w))] [.int u.2, .int 0, va_rf (some w)]
    refine hg_i2l (pc := 8) hC (show decode method_7_code 8 = .ok (.i2l, 1) by decide +kernel) ?_
    refine lw_last (pc := 9) (w := w) (v := v) (ws := u.1.1) (F := []) (S2 := u.1.2) hC (show decode method_7_code 9 = .ok (.lastore, 1) by decide +kernel) ?_
    refine hg_goto (pc := 10) (tgt := 17) hC (show decode method_7_code 10 = .ok (.goto 7, 3) by decide +kernel) (by decide +kernel) ?_
    refine hg_iconst (pc := 17) (v := 0) hC (show decode method_7_code 17 = .ok (.iconst 0, 1) by decide +kernel) (by decide +kernel) ?_
    exact hg_iret (pc := 18) hC hR (hF _ (dc_some h)) (show decode method_7_code 18 = .ok (.ireturn, 1) by decide +kernel)
  · rcases dc_ite h with ⟨hz, h⟩ | ⟨hz, h⟩
    · exact (dc_not h).elim
    · have hz2 : zb = false := by cases zb with | true => exact absurd rfl hz | false => rfl
      subst hz2
      refine hl_catch1 (pc := 5) (S := S) (F := [lw_o G w v]) (As := [.int p1, .int p2]) (rest := [.int 0, va_rf (some w)]) (b := b) (C := "java/lang/IllegalStateException") (x := zx) (u := zs) hC hT (by decide) (by decide) w_1148 cw_SignalEngineLaw_28 hM ⟨Nat.le_of_ble_eq_true rfl, Nat.le_of_ble_eq_true rfl⟩ hv rfl (Nat.le_of_ble_eq_true rfl) (show decode method_7_code 5 = .ok (.invokevirtual 28, 3) by decide +kernel) ?_
      refine hg_astore (pc := 13) (i := 4) (r := some zx) (lv' := [(4, va_rf (some zx)), (0, va_rf (some b)), (1, .int p1), (2, .int p2), (3, va_rf (some w))]) hC (Nat.le_of_ble_eq_true rfl) rfl (show decode method_7_code 13 = .ok (.astore 4, 2) by decide +kernel) ?_
      refine hg_iconst (pc := 15) (v := 1) hC (show decode method_7_code 15 = .ok (.iconst 1, 1) by decide +kernel) (by decide +kernel) ?_
      exact hg_iret (pc := 16) hC hR (hF _ (dc_some h)) (show decode method_7_code 16 = .ok (.ireturn, 1) by decide +kernel)
noncomputable def hl_shows (G : hg_E) (S : hg_S) (b : Nat) (p1 : Int32) (p2 : Int32) (v : Int64) : Option (hg_S × Int64 × Int32) :=
  (hg_chk S (some b) 0).bind fun b1 => (hm_SE_shows G S b1 p1 p2).bind (Sum.elim (fun q => some (q.1, Int32.toInt64 q.2, (0 : Int32))) (fun z => if z.2.2 = true then none else some (z.1, v, (1 : Int32))))
set_option maxHeartbeats 4000000 in
set_option maxRecDepth 100000 in
/-- the law's shows -/
theorem hl_shows_ok (l : Launch) (hlt : l.stackTraces = false) (D : va_G) (G : hg_E) (S : hg_S) (b w : Nat) (p1 : Int32) (p2 : Int32) (v : Int64) (q : hg_S × Int64 × Int32) (hq : hl_shows G S b p1 p2 v = some q) : hl_CH l ⟨"SignalEngineLaw", "shows", "(LSignalEngine;II[J)I"⟩ method_8_code 5 (some (.int)) [(0, 10, 13, 13)] 7 122 D G [.ref b, .int p1, .int p2, .ref w] (S.1 ++ [lw_o G w v], S.2) (some (.int q.2.2)) (q.1.1 ++ [lw_o G w q.2.1], q.1.2) := by
  refine hg_start (cv := fun q => (.inl (some (.int q.2.2), (q.1.1 ++ [lw_o G w q.2.1], q.1.2)) : hg_O)) hq ?_
  intro F hF h
  refine hl_enterH (lv := [(0, va_rf (some b)), (1, .int p1), (2, .int p2), (3, va_rf (some w))]) (by decide +kernel) (by simp [lg_sl, hg_cti, hg_ctr]) (by simp [lv_args, va_rf_some, hg_cti, hg_ctr]) ?_
  intro X hC hT hN hR
  have h : dc_wp (hl_shows G S b p1 p2 v) F := h
  delta hl_shows at h
  show hg_G X l (hg_rm 7 122 (S.1 ++ [lw_o G w v], S.2)) D 5 (S.1 ++ [lw_o G w v], S.2) 0 [(0, va_rf (some b)), (1, .int p1), (2, .int p2), (3, va_rf (some w))] []
  obtain ⟨b1, hb1, h⟩ := dc_bind h
  obtain ⟨hb2, hv⟩ := hg_chk_of (C := R_SE) rfl hb1
  have hbo : b = b1 := Option.some.inj hb2
  subst hbo
  obtain ⟨q2, hq2, h⟩ := dc_bind h
  have hM := hm_SE_shows_ok l hlt D G S b p1 p2 q2 hq2
  refine hg_aloadn (pc := 0) (j := 3) (i := 3) (r := (some w)) hC 3 rfl rfl (show decode method_8_code 0 = .ok (.aload_n 3, 1) by decide +kernel) ?_
  refine hg_iconst (pc := 1) (v := 0) hC (show decode method_8_code 1 = .ok (.iconst 0, 1) by decide +kernel) (by decide +kernel) ?_
  refine hg_aloadn (pc := 2) (j := 0) (i := 0) (r := (some b)) hC 0 rfl rfl (show decode method_8_code 2 = .ok (.aload_n 0, 1) by decide +kernel) ?_
  refine hg_iloadn (pc := 3) (j := 1) (i := 1) hC 1 rfl rfl (show decode method_8_code 3 = .ok (.iload_n 1, 1) by decide +kernel) ?_
  refine hg_iloadn (pc := 4) (j := 2) (i := 2) hC 2 rfl rfl (show decode method_8_code 4 = .ok (.iload_n 2, 1) by decide +kernel) ?_
  rcases q2 with u | ⟨zs, zx, zb⟩
  · refine hl_cV (pc := 5) (S := S) (F := [lw_o G w v]) (As := [.int p1, .int p2]) (rest := [.int 0, va_rf (some w)]) (v := some (.int u.2)) (u := u.1) (b := b) hC cw_SignalEngineLaw_32 hM ⟨Nat.le_of_ble_eq_true rfl, Nat.le_of_ble_eq_true rfl⟩ hv rfl (Nat.le_of_ble_eq_true rfl) (show decode method_8_code 5 = .ok (.invokevirtual 32, 3) by decide +kernel) ?_
    show hg_G X l (hg_rm 7 122 (S.1 ++ [lw_o G w v], S.2)) D 5 (u.1.1 ++ [lw_o G w v], u.1.2) 8 [(0, va_rf (some b)), (1, .int p1), (2, .int p2), (3, va_rf (some w))] [.int u.2, .int 0, va_rf (some w)]
    refine hg_i2l (pc := 8) hC (show decode method_8_code 8 = .ok (.i2l, 1) by decide +kernel) ?_
    refine lw_last (pc := 9) (w := w) (v := v) (ws := u.1.1) (F := []) (S2 := u.1.2) hC (show decode method_8_code 9 = .ok (.lastore, 1) by decide +kernel) ?_
    refine hg_goto (pc := 10) (tgt := 17) hC (show decode method_8_code 10 = .ok (.goto 7, 3) by decide +kernel) (by decide +kernel) ?_
    refine hg_iconst (pc := 17) (v := 0) hC (show decode method_8_code 17 = .ok (.iconst 0, 1) by decide +kernel) (by decide +kernel) ?_
    exact hg_iret (pc := 18) hC hR (hF _ (dc_some h)) (show decode method_8_code 18 = .ok (.ireturn, 1) by decide +kernel)
  · rcases dc_ite h with ⟨hz, h⟩ | ⟨hz, h⟩
    · exact (dc_not h).elim
    · have hz2 : zb = false := by cases zb with | true => exact absurd rfl hz | false => rfl
      subst hz2
      refine hl_catch1 (pc := 5) (S := S) (F := [lw_o G w v]) (As := [.int p1, .int p2]) (rest := [.int 0, va_rf (some w)]) (b := b) (C := "java/lang/IllegalStateException") (x := zx) (u := zs) hC hT (by decide) (by decide) w_1148 cw_SignalEngineLaw_32 hM ⟨Nat.le_of_ble_eq_true rfl, Nat.le_of_ble_eq_true rfl⟩ hv rfl (Nat.le_of_ble_eq_true rfl) (show decode method_8_code 5 = .ok (.invokevirtual 32, 3) by decide +kernel) ?_
      refine hg_astore (pc := 13) (i := 4) (r := some zx) (lv' := [(4, va_rf (some zx)), (0, va_rf (some b)), (1, .int p1), (2, .int p2), (3, va_rf (some w))]) hC (Nat.le_of_ble_eq_true rfl) rfl (show decode method_8_code 13 = .ok (.astore 4, 2) by decide +kernel) ?_
      refine hg_iconst (pc := 15) (v := 1) hC (show decode method_8_code 15 = .ok (.iconst 1, 1) by decide +kernel) (by decide +kernel) ?_
      exact hg_iret (pc := 16) hC hR (hF _ (dc_some h)) (show decode method_8_code 16 = .ok (.ireturn, 1) by decide +kernel)
noncomputable def hl_classes (G : hg_E) (S : hg_S) (b : Nat) (v : Int64) : Option (hg_S × Int64 × Int32) :=
  (hg_chk S (some b) 0).bind fun b1 => (hm_SE_classes G S b1).bind (Sum.elim (fun q => some (q.1, Int32.toInt64 q.2, (0 : Int32))) (fun z => if z.2.2 = true then none else some (z.1, v, (1 : Int32))))
set_option maxHeartbeats 4000000 in
set_option maxRecDepth 100000 in
/-- the law's classes -/
theorem hl_classes_ok (l : Launch) (hlt : l.stackTraces = false) (D : va_G) (G : hg_E) (S : hg_S) (b w : Nat) (v : Int64) (q : hg_S × Int64 × Int32) (hq : hl_classes G S b v = some q) : hl_CH l ⟨"SignalEngineLaw", "classes", "(LSignalEngine;[J)I"⟩ method_9_code 3 (some (.int)) [(0, 8, 11, 13)] 7 120 D G [.ref b, .ref w] (S.1 ++ [lw_o G w v], S.2) (some (.int q.2.2)) (q.1.1 ++ [lw_o G w q.2.1], q.1.2) := by
  refine hg_start (cv := fun q => (.inl (some (.int q.2.2), (q.1.1 ++ [lw_o G w q.2.1], q.1.2)) : hg_O)) hq ?_
  intro F hF h
  refine hl_enterH (lv := [(0, va_rf (some b)), (1, va_rf (some w))]) (by decide +kernel) (by simp [lg_sl, hg_cti, hg_ctr]) (by simp [lv_args, va_rf_some, hg_cti, hg_ctr]) ?_
  intro X hC hT hN hR
  have h : dc_wp (hl_classes G S b v) F := h
  delta hl_classes at h
  show hg_G X l (hg_rm 7 120 (S.1 ++ [lw_o G w v], S.2)) D 3 (S.1 ++ [lw_o G w v], S.2) 0 [(0, va_rf (some b)), (1, va_rf (some w))] []
  obtain ⟨b1, hb1, h⟩ := dc_bind h
  obtain ⟨hb2, hv⟩ := hg_chk_of (C := R_SE) rfl hb1
  have hbo : b = b1 := Option.some.inj hb2
  subst hbo
  obtain ⟨q2, hq2, h⟩ := dc_bind h
  have hM := hm_SE_classes_ok l hlt D G S b q2 hq2
  refine hg_aloadn (pc := 0) (j := 1) (i := 1) (r := (some w)) hC 1 rfl rfl (show decode method_9_code 0 = .ok (.aload_n 1, 1) by decide +kernel) ?_
  refine hg_iconst (pc := 1) (v := 0) hC (show decode method_9_code 1 = .ok (.iconst 0, 1) by decide +kernel) (by decide +kernel) ?_
  refine hg_aloadn (pc := 2) (j := 0) (i := 0) (r := (some b)) hC 0 rfl rfl (show decode method_9_code 2 = .ok (.aload_n 0, 1) by decide +kernel) ?_
  rcases q2 with u | ⟨zs, zx, zb⟩
  · refine hl_cV (pc := 3) (S := S) (F := [lw_o G w v]) (As := []) (rest := [.int 0, va_rf (some w)]) (v := some (.int u.2)) (u := u.1) (b := b) hC cw_SignalEngineLaw_35 hM ⟨Nat.le_of_ble_eq_true rfl, Nat.le_of_ble_eq_true rfl⟩ hv rfl (Nat.le_of_ble_eq_true rfl) (show decode method_9_code 3 = .ok (.invokevirtual 35, 3) by decide +kernel) ?_
    show hg_G X l (hg_rm 7 120 (S.1 ++ [lw_o G w v], S.2)) D 3 (u.1.1 ++ [lw_o G w v], u.1.2) 6 [(0, va_rf (some b)), (1, va_rf (some w))] [.int u.2, .int 0, va_rf (some w)]
    refine hg_i2l (pc := 6) hC (show decode method_9_code 6 = .ok (.i2l, 1) by decide +kernel) ?_
    refine lw_last (pc := 7) (w := w) (v := v) (ws := u.1.1) (F := []) (S2 := u.1.2) hC (show decode method_9_code 7 = .ok (.lastore, 1) by decide +kernel) ?_
    refine hg_goto (pc := 8) (tgt := 14) hC (show decode method_9_code 8 = .ok (.goto 6, 3) by decide +kernel) (by decide +kernel) ?_
    refine hg_iconst (pc := 14) (v := 0) hC (show decode method_9_code 14 = .ok (.iconst 0, 1) by decide +kernel) (by decide +kernel) ?_
    exact hg_iret (pc := 15) hC hR (hF _ (dc_some h)) (show decode method_9_code 15 = .ok (.ireturn, 1) by decide +kernel)
  · rcases dc_ite h with ⟨hz, h⟩ | ⟨hz, h⟩
    · exact (dc_not h).elim
    · have hz2 : zb = false := by cases zb with | true => exact absurd rfl hz | false => rfl
      subst hz2
      refine hl_catch1 (pc := 3) (S := S) (F := [lw_o G w v]) (As := []) (rest := [.int 0, va_rf (some w)]) (b := b) (C := "java/lang/IllegalStateException") (x := zx) (u := zs) hC hT (by decide) (by decide) w_1148 cw_SignalEngineLaw_35 hM ⟨Nat.le_of_ble_eq_true rfl, Nat.le_of_ble_eq_true rfl⟩ hv rfl (Nat.le_of_ble_eq_true rfl) (show decode method_9_code 3 = .ok (.invokevirtual 35, 3) by decide +kernel) ?_
      refine hg_astoren (pc := 11) (j := 2) (i := 2) (r := some zx) (lv' := [(2, va_rf (some zx)), (0, va_rf (some b)), (1, va_rf (some w))]) hC rfl (Nat.le_of_ble_eq_true rfl) rfl (show decode method_9_code 11 = .ok (.astore_n 2, 1) by decide +kernel) ?_
      refine hg_iconst (pc := 12) (v := 1) hC (show decode method_9_code 12 = .ok (.iconst 1, 1) by decide +kernel) (by decide +kernel) ?_
      exact hg_iret (pc := 13) hC hR (hF _ (dc_some h)) (show decode method_9_code 13 = .ok (.ireturn, 1) by decide +kernel)
noncomputable def hl_lay (G : hg_E) (S : hg_S) (b : Nat) (v : Int64) : Option (hg_S × Int64 × Int32) :=
  (hg_chk S (some b) 0).bind fun b1 => (hm_SE_lay G S b1).bind (Sum.elim (fun q => some (q.1, Int32.toInt64 q.2, (0 : Int32))) (fun z => if z.2.2 = true then none else some (z.1, v, (1 : Int32))))
set_option maxHeartbeats 4000000 in
set_option maxRecDepth 100000 in
/-- the law's lay -/
theorem hl_lay_ok (l : Launch) (hlt : l.stackTraces = false) (D : va_G) (G : hg_E) (S : hg_S) (b w : Nat) (v : Int64) (q : hg_S × Int64 × Int32) (hq : hl_lay G S b v = some q) : hl_CH l ⟨"SignalEngineLaw", "lay", "(LSignalEngine;[J)I"⟩ method_10_code 3 (some (.int)) [(0, 8, 11, 13)] 8 187 D G [.ref b, .ref w] (S.1 ++ [lw_o G w v], S.2) (some (.int q.2.2)) (q.1.1 ++ [lw_o G w q.2.1], q.1.2) := by
  refine hg_start (cv := fun q => (.inl (some (.int q.2.2), (q.1.1 ++ [lw_o G w q.2.1], q.1.2)) : hg_O)) hq ?_
  intro F hF h
  refine hl_enterH (lv := [(0, va_rf (some b)), (1, va_rf (some w))]) (by decide +kernel) (by simp [lg_sl, hg_cti, hg_ctr]) (by simp [lv_args, va_rf_some, hg_cti, hg_ctr]) ?_
  intro X hC hT hN hR
  have h : dc_wp (hl_lay G S b v) F := h
  delta hl_lay at h
  show hg_G X l (hg_rm 8 187 (S.1 ++ [lw_o G w v], S.2)) D 3 (S.1 ++ [lw_o G w v], S.2) 0 [(0, va_rf (some b)), (1, va_rf (some w))] []
  obtain ⟨b1, hb1, h⟩ := dc_bind h
  obtain ⟨hb2, hv⟩ := hg_chk_of (C := R_SE) rfl hb1
  have hbo : b = b1 := Option.some.inj hb2
  subst hbo
  obtain ⟨q2, hq2, h⟩ := dc_bind h
  have hM := hm_SE_lay_ok l hlt D G S b q2 hq2
  refine hg_aloadn (pc := 0) (j := 1) (i := 1) (r := (some w)) hC 1 rfl rfl (show decode method_10_code 0 = .ok (.aload_n 1, 1) by decide +kernel) ?_
  refine hg_iconst (pc := 1) (v := 0) hC (show decode method_10_code 1 = .ok (.iconst 0, 1) by decide +kernel) (by decide +kernel) ?_
  refine hg_aloadn (pc := 2) (j := 0) (i := 0) (r := (some b)) hC 0 rfl rfl (show decode method_10_code 2 = .ok (.aload_n 0, 1) by decide +kernel) ?_
  rcases q2 with u | ⟨zs, zx, zb⟩
  · refine hl_cV (pc := 3) (S := S) (F := [lw_o G w v]) (As := []) (rest := [.int 0, va_rf (some w)]) (v := some (.int u.2)) (u := u.1) (b := b) hC cw_SignalEngineLaw_38 hM ⟨Nat.le_of_ble_eq_true rfl, Nat.le_of_ble_eq_true rfl⟩ hv rfl (Nat.le_of_ble_eq_true rfl) (show decode method_10_code 3 = .ok (.invokevirtual 38, 3) by decide +kernel) ?_
    show hg_G X l (hg_rm 8 187 (S.1 ++ [lw_o G w v], S.2)) D 3 (u.1.1 ++ [lw_o G w v], u.1.2) 6 [(0, va_rf (some b)), (1, va_rf (some w))] [.int u.2, .int 0, va_rf (some w)]
    refine hg_i2l (pc := 6) hC (show decode method_10_code 6 = .ok (.i2l, 1) by decide +kernel) ?_
    refine lw_last (pc := 7) (w := w) (v := v) (ws := u.1.1) (F := []) (S2 := u.1.2) hC (show decode method_10_code 7 = .ok (.lastore, 1) by decide +kernel) ?_
    refine hg_goto (pc := 8) (tgt := 14) hC (show decode method_10_code 8 = .ok (.goto 6, 3) by decide +kernel) (by decide +kernel) ?_
    refine hg_iconst (pc := 14) (v := 0) hC (show decode method_10_code 14 = .ok (.iconst 0, 1) by decide +kernel) (by decide +kernel) ?_
    exact hg_iret (pc := 15) hC hR (hF _ (dc_some h)) (show decode method_10_code 15 = .ok (.ireturn, 1) by decide +kernel)
  · rcases dc_ite h with ⟨hz, h⟩ | ⟨hz, h⟩
    · exact (dc_not h).elim
    · have hz2 : zb = false := by cases zb with | true => exact absurd rfl hz | false => rfl
      subst hz2
      refine hl_catch1 (pc := 3) (S := S) (F := [lw_o G w v]) (As := []) (rest := [.int 0, va_rf (some w)]) (b := b) (C := "java/lang/IllegalStateException") (x := zx) (u := zs) hC hT (by decide) (by decide) w_1148 cw_SignalEngineLaw_38 hM ⟨Nat.le_of_ble_eq_true rfl, Nat.le_of_ble_eq_true rfl⟩ hv rfl (Nat.le_of_ble_eq_true rfl) (show decode method_10_code 3 = .ok (.invokevirtual 38, 3) by decide +kernel) ?_
      refine hg_astoren (pc := 11) (j := 2) (i := 2) (r := some zx) (lv' := [(2, va_rf (some zx)), (0, va_rf (some b)), (1, va_rf (some w))]) hC rfl (Nat.le_of_ble_eq_true rfl) rfl (show decode method_10_code 11 = .ok (.astore_n 2, 1) by decide +kernel) ?_
      refine hg_iconst (pc := 12) (v := 1) hC (show decode method_10_code 12 = .ok (.iconst 1, 1) by decide +kernel) (by decide +kernel) ?_
      exact hg_iret (pc := 13) hC hR (hF _ (dc_some h)) (show decode method_10_code 13 = .ok (.ireturn, 1) by decide +kernel)
noncomputable def hl_pass (G : hg_E) (S : hg_S) (b : Nat) (p1 : Int32) (v : Int64) : Option (hg_S × Int64 × Int32) :=
  (hg_chk S (some b) 0).bind fun b1 => (hm_SE_pass G S b1 p1).bind (Sum.elim (fun q => some (q.1, q.2, (0 : Int32))) (fun z => if z.2.2 = true then some (z.1, v, (2 : Int32)) else some (z.1, v, (1 : Int32))))
set_option maxHeartbeats 4000000 in
set_option maxRecDepth 100000 in
/-- the law's pass -/
theorem hl_pass_ok (l : Launch) (hlt : l.stackTraces = false) (D : va_G) (G : hg_E) (S : hg_S) (b w : Nat) (p1 : Int32) (v : Int64) (q : hg_S × Int64 × Int32) (hq : hl_pass G S b p1 v = some q) : hl_CH l ⟨"SignalEngineLaw", "pass", "(LSignalEngine;I[J)I"⟩ method_11_code 4 (some (.int)) [(0, 8, 11, 13), (0, 8, 14, 19)] 7 121 D G [.ref b, .int p1, .ref w] (S.1 ++ [lw_o G w v], S.2) (some (.int q.2.2)) (q.1.1 ++ [lw_o G w q.2.1], q.1.2) := by
  refine hg_start (cv := fun q => (.inl (some (.int q.2.2), (q.1.1 ++ [lw_o G w q.2.1], q.1.2)) : hg_O)) hq ?_
  intro F hF h
  refine hl_enterH (lv := [(0, va_rf (some b)), (1, .int p1), (2, va_rf (some w))]) (by decide +kernel) (by simp [lg_sl, hg_cti, hg_ctr]) (by simp [lv_args, va_rf_some, hg_cti, hg_ctr]) ?_
  intro X hC hT hN hR
  have h : dc_wp (hl_pass G S b p1 v) F := h
  delta hl_pass at h
  show hg_G X l (hg_rm 7 121 (S.1 ++ [lw_o G w v], S.2)) D 4 (S.1 ++ [lw_o G w v], S.2) 0 [(0, va_rf (some b)), (1, .int p1), (2, va_rf (some w))] []
  obtain ⟨b1, hb1, h⟩ := dc_bind h
  obtain ⟨hb2, hv⟩ := hg_chk_of (C := R_SE) rfl hb1
  have hbo : b = b1 := Option.some.inj hb2
  subst hbo
  obtain ⟨q2, hq2, h⟩ := dc_bind h
  have hM := hm_SE_pass_ok l hlt D G S b p1 q2 hq2
  refine hg_aloadn (pc := 0) (j := 2) (i := 2) (r := (some w)) hC 2 rfl rfl (show decode method_11_code 0 = .ok (.aload_n 2, 1) by decide +kernel) ?_
  refine hg_iconst (pc := 1) (v := 0) hC (show decode method_11_code 1 = .ok (.iconst 0, 1) by decide +kernel) (by decide +kernel) ?_
  refine hg_aloadn (pc := 2) (j := 0) (i := 0) (r := (some b)) hC 0 rfl rfl (show decode method_11_code 2 = .ok (.aload_n 0, 1) by decide +kernel) ?_
  refine hg_iloadn (pc := 3) (j := 1) (i := 1) hC 1 rfl rfl (show decode method_11_code 3 = .ok (.iload_n 1, 1) by decide +kernel) ?_
  rcases q2 with u | ⟨zs, zx, zb⟩
  · refine hl_cV (pc := 4) (S := S) (F := [lw_o G w v]) (As := [.int p1]) (rest := [.int 0, va_rf (some w)]) (v := some (.long u.2)) (u := u.1) (b := b) hC cw_SignalEngineLaw_41 hM ⟨Nat.le_of_ble_eq_true rfl, Nat.le_of_ble_eq_true rfl⟩ hv rfl (Nat.le_of_ble_eq_true rfl) (show decode method_11_code 4 = .ok (.invokevirtual 41, 3) by decide +kernel) ?_
    show hg_G X l (hg_rm 7 121 (S.1 ++ [lw_o G w v], S.2)) D 4 (u.1.1 ++ [lw_o G w v], u.1.2) 7 [(0, va_rf (some b)), (1, .int p1), (2, va_rf (some w))] [.long u.2, .int 0, va_rf (some w)]
    refine lw_last (pc := 7) (w := w) (v := v) (ws := u.1.1) (F := []) (S2 := u.1.2) hC (show decode method_11_code 7 = .ok (.lastore, 1) by decide +kernel) ?_
    refine hg_goto (pc := 8) (tgt := 17) hC (show decode method_11_code 8 = .ok (.goto 9, 3) by decide +kernel) (by decide +kernel) ?_
    refine hg_iconst (pc := 17) (v := 0) hC (show decode method_11_code 17 = .ok (.iconst 0, 1) by decide +kernel) (by decide +kernel) ?_
    exact hg_iret (pc := 18) hC hR (hF _ (dc_some h)) (show decode method_11_code 18 = .ok (.ireturn, 1) by decide +kernel)
  · rcases dc_ite h with ⟨hz, h⟩ | ⟨hz, h⟩
    · have hz2 : zb = true := hz
      subst hz2
      refine hl_catch2 (pc := 4) (S := S) (F := [lw_o G w v]) (As := [.int p1]) (rest := [.int 0, va_rf (some w)]) (b := b) (x := zx) (u := zs) hC hN hT (by decide) (by decide) (by decide) (by decide) w_1148 w_1178 cw_SignalEngineLaw_41 hM ⟨Nat.le_of_ble_eq_true rfl, Nat.le_of_ble_eq_true rfl⟩ hv rfl (Nat.le_of_ble_eq_true rfl) (show decode method_11_code 4 = .ok (.invokevirtual 41, 3) by decide +kernel) ?_
      refine hg_astoren (pc := 14) (j := 3) (i := 3) (r := some zx) (lv' := [(3, va_rf (some zx)), (0, va_rf (some b)), (1, .int p1), (2, va_rf (some w))]) hC rfl (Nat.le_of_ble_eq_true rfl) rfl (show decode method_11_code 14 = .ok (.astore_n 3, 1) by decide +kernel) ?_
      refine hg_iconst (pc := 15) (v := 2) hC (show decode method_11_code 15 = .ok (.iconst 2, 1) by decide +kernel) (by decide +kernel) ?_
      exact hg_iret (pc := 16) hC hR (hF _ (dc_some h)) (show decode method_11_code 16 = .ok (.ireturn, 1) by decide +kernel)
    · have hz2 : zb = false := by cases zb with | true => exact absurd rfl hz | false => rfl
      subst hz2
      refine hl_catch1 (pc := 4) (S := S) (F := [lw_o G w v]) (As := [.int p1]) (rest := [.int 0, va_rf (some w)]) (b := b) (C := "java/lang/IllegalStateException") (x := zx) (u := zs) hC hT (by decide) (by decide) w_1148 cw_SignalEngineLaw_41 hM ⟨Nat.le_of_ble_eq_true rfl, Nat.le_of_ble_eq_true rfl⟩ hv rfl (Nat.le_of_ble_eq_true rfl) (show decode method_11_code 4 = .ok (.invokevirtual 41, 3) by decide +kernel) ?_
      refine hg_astoren (pc := 11) (j := 3) (i := 3) (r := some zx) (lv' := [(3, va_rf (some zx)), (0, va_rf (some b)), (1, .int p1), (2, va_rf (some w))]) hC rfl (Nat.le_of_ble_eq_true rfl) rfl (show decode method_11_code 11 = .ok (.astore_n 3, 1) by decide +kernel) ?_
      refine hg_iconst (pc := 12) (v := 1) hC (show decode method_11_code 12 = .ok (.iconst 1, 1) by decide +kernel) (by decide +kernel) ?_
      exact hg_iret (pc := 13) hC hR (hF _ (dc_some h)) (show decode method_11_code 13 = .ok (.ireturn, 1) by decide +kernel)
