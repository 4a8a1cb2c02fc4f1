noncomputable def hm_JA_copyOf (G : hg_E) (S : hg_S) (p0 : Option Nat) (p1 : Int32) : Option (hg_S × (Option Nat)) :=
  (hg_ln S p0 (G.1 0)).bind fun e1 => if p1 = e1 then (none) else ((hg_newa G S 0 p1).bind fun S2 => dc_let ((some S.2.1) : Option Nat) fun v3 => (hg_ln S2 p0 (G.1 0)).bind fun e4 => (hg_cpy G S2 0 .int p0 0 v3 0 (hg_min e4 p1)).bind fun S5 => some (S5, v3))
set_option maxHeartbeats 4000000 in
set_option maxRecDepth 100000 in
/-- java/util/Arrays.copyOf([II)[I -/
theorem hm_JA_copyOf_ok (l : Launch) (D : va_G) (G : hg_E) (Z : hg_S) (p0 : Option Nat) (p1 : Int32) (q : hg_S × (Option Nat)) (hq : hm_JA_copyOf G Z p0 p1 = some q) : hg_C l ⟨"java/util/Arrays", "copyOf", "([II)[I"⟩ prog_34_method_123_code 3 (some (.array .int)) 1 21 D G [va_rf p0, .int p1] Z (.inl (some (va_rf q.2), q.1) : hg_O) := by
  refine hg_start (cv := fun q => (.inl (some (va_rf q.2), q.1) : hg_O)) hq ?_
  intro F hF h
  refine hg_enter (lv := [(0, va_rf p0), (1, .int p1)]) (by decide +kernel) (by simp [lg_sl, va_rf_cat, hg_cti, hg_ctr]) (by simp [lv_args, va_rf_cat, va_rf_some, hg_cti, hg_ctr]) ?_
  intro X hC hR
  show hg_G X l (hg_rm 1 21 Z) D 3 Z 0 [(0, va_rf p0), (1, .int p1)] []
  have h : dc_wp (hm_JA_copyOf G Z p0 p1) F := h
  delta hm_JA_copyOf at h
  refine hg_iloadn (pc := 0) (j := 1) (i := 1) hC 1 rfl rfl (show decode prog_34_method_123_code 0 = .ok (.iload_n 1, 1) by decide +kernel) ?_
  refine hg_aloadn (pc := 1) (j := 0) (i := 0) (r := p0) hC 0 rfl rfl (show decode prog_34_method_123_code 1 = .ok (.aload_n 0, 1) by decide +kernel) ?_
  refine hg_rlen (pc := 2) (r := p0) (t := 0) hC rfl (show decode prog_34_method_123_code 2 = .ok (.arraylength, 1) by decide +kernel) h ?_
  intro e1 h
  refine hg_icmp_ne (pc := 3) (tgt := 14) hC (show decode prog_34_method_123_code 3 = .ok (.if_icmp .ne 11, 3) by decide +kernel) (by decide +kernel) h ?_ ?_
  · intro h
    refine hg_aloadn (pc := 6) (j := 0) (i := 0) (r := p0) hC 0 rfl rfl (show decode prog_34_method_123_code 6 = .ok (.aload_n 0, 1) by decide +kernel) ?_
    exact (dc_not h).elim
  · intro h
    refine hg_iloadn (pc := 14) (j := 1) (i := 1) hC 1 rfl rfl (show decode prog_34_method_123_code 14 = .ok (.iload_n 1, 1) by decide +kernel) ?_
    refine hg_rnewa (pc := 15) (t := 0) (atype := .int) hC rfl rfl (fun _ h9 => h9) rfl (by decide) w_197 (show decode prog_34_method_123_code 15 = .ok (.newarray .int, 2) by decide +kernel) h ?_
    intro S2 h
    refine hg_letR h ?_
    intro v3 h
    refine hg_astoren (pc := 17) (j := 2) (i := 2) (r := v3) (lv' := [(2, va_rf v3), (0, va_rf p0), (1, .int p1)]) hC rfl (Nat.le_of_ble_eq_true rfl) rfl (show decode prog_34_method_123_code 17 = .ok (.astore_n 2, 1) by decide +kernel) ?_
    refine hg_aloadn (pc := 18) (j := 0) (i := 0) (r := p0) hC 1 rfl rfl (show decode prog_34_method_123_code 18 = .ok (.aload_n 0, 1) by decide +kernel) ?_
    refine hg_iconst (pc := 19) (v := 0) hC (show decode prog_34_method_123_code 19 = .ok (.iconst 0, 1) by decide +kernel) (by decide +kernel) ?_
    refine hg_aloadn (pc := 20) (j := 2) (i := 2) (r := v3) hC 0 rfl rfl (show decode prog_34_method_123_code 20 = .ok (.aload_n 2, 1) by decide +kernel) ?_
    refine hg_iconst (pc := 21) (v := 0) hC (show decode prog_34_method_123_code 21 = .ok (.iconst 0, 1) by decide +kernel) (by decide +kernel) ?_
    refine hg_aloadn (pc := 22) (j := 0) (i := 0) (r := p0) hC 1 rfl rfl (show decode prog_34_method_123_code 22 = .ok (.aload_n 0, 1) by decide +kernel) ?_
    refine hg_rlen (pc := 23) (r := p0) (t := 0) hC rfl (show decode prog_34_method_123_code 23 = .ok (.arraylength, 1) by decide +kernel) h ?_
    intro e4 h
    refine hg_iloadn (pc := 24) (j := 1) (i := 1) hC 2 rfl rfl (show decode prog_34_method_123_code 24 = .ok (.iload_n 1, 1) by decide +kernel) ?_
    refine hg_mmin (pc := 25) hC w_101 w_102 w_4 w_103 (Nat.le_of_ble_eq_true rfl) (by simp only [List.map, va_rf_cat]; exact Nat.le_of_ble_eq_true rfl) (show decode prog_34_method_123_code 25 = .ok (.invokestatic 304, 3) by decide +kernel) ?_
    refine hg_rcpy (pc := 28) (t := 0) (r0 := p0) (r1 := v3) hC rfl rfl w_104 w_106 w_105 w_5 (Nat.le_of_ble_eq_true rfl) (Nat.le_of_ble_eq_true rfl) (show decode prog_34_method_123_code 28 = .ok (.invokestatic 150, 3) by decide +kernel) h ?_
    intro S5 h
    refine hg_aloadn (pc := 31) (j := 2) (i := 2) (r := v3) hC 0 rfl rfl (show decode prog_34_method_123_code 31 = .ok (.aload_n 2, 1) by decide +kernel) ?_
    exact hg_aret (pc := 32) (r := v3) hC hR (by first | exact Or.inl ⟨_, rfl⟩ | exact Or.inr ⟨_, rfl⟩) (hF _ (dc_some h)) (show decode prog_34_method_123_code 32 = .ok (.areturn, 1) by decide +kernel)
noncomputable def hm_JA_fill_L20 (G : hg_E) (S : hg_S) : Option (hg_S) :=
  some S
noncomputable def hm_JA_fill_b5 (G : hg_E) (S : hg_S) (x0 : Option Nat) (x1 : Int32) (x2 : Int32) (x3 : Int32) : Option ((hg_S × Int32) ⊕ ((hg_S))) :=
  if x2 < x3 then ((hg_st S x0 (G.1 0) x2 x1).bind fun S1 => some (.inl (S1, (x2 + 1)))) else (some (.inr S))
noncomputable def hm_JA_fill_s5 (G : hg_E) (x0 : Option Nat) (x1 : Int32) (x3 : Int32) (q : hg_S × Int32) : Option ((hg_S × Int32) ⊕ ((hg_S))) :=
  hm_JA_fill_b5 G q.1 x0 x1 q.2 x3
noncomputable def hm_JA_fill_L5 (G : hg_E) (S : hg_S) (x0 : Option Nat) (x1 : Int32) (x2 : Int32) (x3 : Int32) : Option (hg_S) :=
  (dc_it (hm_JA_fill_s5 G x0 x1 x3) (S, x2)).bind (fun (z : hg_S) => hm_JA_fill_L20 G z)
noncomputable def hm_JA_fill (G : hg_E) (S : hg_S) (p0 : Option Nat) (p1 : Int32) : Option (hg_S) :=
  (hg_ln S p0 (G.1 0)).bind fun e2 => hm_JA_fill_L5 G S p0 p1 0 e2
set_option maxHeartbeats 4000000 in
set_option maxRecDepth 100000 in
/-- java/util/Arrays.fill([II)V -/
theorem hm_JA_fill_ok (l : Launch) (D : va_G) (G : hg_E) (Z : hg_S) (p0 : Option Nat) (p1 : Int32) (q : hg_S) (hq : hm_JA_fill G Z p0 p1 = some q) : hg_C l ⟨"java/util/Arrays", "fill", "([II)V"⟩ prog_34_method_103_code 4 none 0 0 D G [va_rf p0, .int p1] Z (.inl (none, q) : hg_O) := by
  refine hg_start (cv := fun q => (.inl (none, q) : hg_O)) hq ?_
  intro F hF h
  refine hg_enter (lv := [(0, va_rf p0), (1, .int p1)]) (by decide +kernel) (by simp [lg_sl, va_rf_cat, hg_cti, hg_ctr]) (by simp [lv_args, va_rf_cat, va_rf_some, hg_cti, hg_ctr]) ?_
  intro X hC hR
  have lab_20 : ∀ (S : hg_S), dc_wp (hm_JA_fill_L20 G S) F → hg_G X l (hg_rm 0 0 Z) D 4 S 20 [] [] := by
    intro S  h
    delta hm_JA_fill_L20 at h
    exact hg_vret (pc := 20) hC hR (hF _ (dc_some h)) (show decode prog_34_method_103_code 20 = .ok (.return_, 1) by decide +kernel)
  have loop_5 : ∀ (x0 : Option Nat) (x1 : Int32) (x3 : Int32) (q : hg_S × Int32), dc_wp (dc_it (hm_JA_fill_s5 G x0 x1 x3) q) (fun z => dc_wp ((fun (z : hg_S) => hm_JA_fill_L20 G z) z) F) → hg_G X l (hg_rm 0 0 Z) D 4 q.1 5 [(0, va_rf x0), (1, .int x1), (2, .int q.2), (3, .int x3)] [] := by
    intro x0 x1 x3
    refine dc_loopF ?_
    intro F_5 hl_5 hr_5
    rintro ⟨S, x2⟩ h
    have h : dc_wp (hm_JA_fill_b5 G S x0 x1 x2 x3) F_5 := h
    delta hm_JA_fill_b5 at h
    refine hg_iloadn (pc := 5) (j := 2) (i := 2) hC 2 rfl rfl (show decode prog_34_method_103_code 5 = .ok (.iload_n 2, 1) by decide +kernel) ?_
    refine hg_iloadn (pc := 6) (j := 3) (i := 3) hC 3 rfl rfl (show decode prog_34_method_103_code 6 = .ok (.iload_n 3, 1) by decide +kernel) ?_
    refine hg_icmp_ge (pc := 7) (tgt := 20) hC (show decode prog_34_method_103_code 7 = .ok (.if_icmp .ge 13, 3) by decide +kernel) (by decide +kernel) h ?_ ?_
    · intro h
      refine hg_aloadn (pc := 10) (j := 0) (i := 0) (r := x0) hC 0 rfl rfl (show decode prog_34_method_103_code 10 = .ok (.aload_n 0, 1) by decide +kernel) ?_
      refine hg_iloadn (pc := 11) (j := 2) (i := 2) hC 2 rfl rfl (show decode prog_34_method_103_code 11 = .ok (.iload_n 2, 1) by decide +kernel) ?_
      refine hg_iloadn (pc := 12) (j := 1) (i := 1) hC 1 rfl rfl (show decode prog_34_method_103_code 12 = .ok (.iload_n 1, 1) by decide +kernel) ?_
      refine hg_riast (pc := 13) (r := x0) hC (show decode prog_34_method_103_code 13 = .ok (.iastore, 1) by decide +kernel) h ?_
      intro S1 h
      refine hg_iinc (pc := 14) (i := 2) (v := (x2 + 1)) (lv' := [(2, .int (x2 + 1)), (0, va_rf x0), (1, .int x1), (3, .int x3)]) hC 2 rfl rfl (Nat.le_of_ble_eq_true rfl) rfl (show decode prog_34_method_103_code 14 = .ok (.iinc 2 1, 3) by decide +kernel) ?_
      refine hg_goto (pc := 17) (tgt := 5) hC (show decode prog_34_method_103_code 17 = .ok (.goto (-12), 3) by decide +kernel) (by decide +kernel) ?_
      exact hg_sub [1, 2, 0, 3] rfl (hl_5 (S1, (x2 + 1)) (dc_some h))
    · intro h
      have h : dc_wp (hm_JA_fill_L20 G S) F := hr_5 S (dc_some h)
      exact hg_sub [] rfl (lab_20 S h)
  have lab_5 : ∀ (S : hg_S) (x0 : Option Nat) (x1 : Int32) (x2 : Int32) (x3 : Int32), dc_wp (hm_JA_fill_L5 G S x0 x1 x2 x3) F → hg_G X l (hg_rm 0 0 Z) D 4 S 5 [(0, va_rf x0), (1, .int x1), (2, .int x2), (3, .int x3)] [] := fun S x0 x1 x2 x3 h => loop_5 x0 x1 x3 (S, x2) (dc_bind h)
  show hg_G X l (hg_rm 0 0 Z) D 4 Z 0 [(0, va_rf p0), (1, .int p1)] []
  have h : dc_wp (hm_JA_fill G Z p0 p1) F := h
  delta hm_JA_fill at h
  refine hg_iconst (pc := 0) (v := 0) hC (show decode prog_34_method_103_code 0 = .ok (.iconst 0, 1) by decide +kernel) (by decide +kernel) ?_
  refine hg_istoren (pc := 1) (j := 2) (i := 2) (lv' := [(2, .int 0), (0, va_rf p0), (1, .int p1)]) hC rfl (Nat.le_of_ble_eq_true rfl) rfl (show decode prog_34_method_103_code 1 = .ok (.istore_n 2, 1) by decide +kernel) ?_
  refine hg_aloadn (pc := 2) (j := 0) (i := 0) (r := p0) hC 1 rfl rfl (show decode prog_34_method_103_code 2 = .ok (.aload_n 0, 1) by decide +kernel) ?_
  refine hg_rlen (pc := 3) (r := p0) (t := 0) hC rfl (show decode prog_34_method_103_code 3 = .ok (.arraylength, 1) by decide +kernel) h ?_
  intro e2 h
  refine hg_istoren (pc := 4) (j := 3) (i := 3) (lv' := [(3, .int e2), (2, .int 0), (0, va_rf p0), (1, .int p1)]) hC rfl (Nat.le_of_ble_eq_true rfl) rfl (show decode prog_34_method_103_code 4 = .ok (.istore_n 3, 1) by decide +kernel) ?_
  exact hg_sub [2, 3, 1, 0] rfl (lab_5 Z p0 p1 0 e2 h)
noncomputable def hm_JI_lowestOneBit (G : hg_E) (S : hg_S) (p0 : Int32) : Option (Int32) :=
  some (p0 &&& (-p0))
set_option maxHeartbeats 4000000 in
set_option maxRecDepth 100000 in
/-- java/lang/Integer.lowestOneBit(I)I -/
theorem hm_JI_lowestOneBit_ok (l : Launch) (D : va_G) (G : hg_E) (Z : hg_S) (p0 : Int32) (q : Int32) (hq : hm_JI_lowestOneBit G Z p0 = some q) : hg_C l ⟨"java/lang/Integer", "lowestOneBit", "(I)I"⟩ prog_22_method_46_code 1 (some (.int)) 0 0 D G [.int p0] Z (.inl (some (.int q), Z) : hg_O) := by
  refine hg_start (cv := fun q => (.inl (some (.int q), Z) : hg_O)) hq ?_
  intro F hF h
  refine hg_enter (lv := [(0, .int p0)]) (by decide +kernel) (by simp [lg_sl, va_rf_cat, hg_cti, hg_ctr]) (by simp [lv_args, va_rf_cat, va_rf_some, hg_cti, hg_ctr]) ?_
  intro X hC hR
  show hg_G X l (hg_rm 0 0 Z) D 1 Z 0 [(0, .int p0)] []
  have h : dc_wp (hm_JI_lowestOneBit G Z p0) F := h
  delta hm_JI_lowestOneBit at h
  refine hg_iloadn (pc := 0) (j := 0) (i := 0) hC 0 rfl rfl (show decode prog_22_method_46_code 0 = .ok (.iload_n 0, 1) by decide +kernel) ?_
  refine hg_iloadn (pc := 1) (j := 0) (i := 0) hC 0 rfl rfl (show decode prog_22_method_46_code 1 = .ok (.iload_n 0, 1) by decide +kernel) ?_
  refine hg_ineg (pc := 2) hC (show decode prog_22_method_46_code 2 = .ok (.ineg, 1) by decide +kernel) ?_
  refine hg_iand (pc := 3) hC (show decode prog_22_method_46_code 3 = .ok (.iand, 1) by decide +kernel) ?_
  exact hg_iret (pc := 4) hC hR (hF _ (dc_some h)) (show decode prog_22_method_46_code 4 = .ok (.ireturn, 1) by decide +kernel)
noncomputable def hm_SE_init (G : hg_E) (S : hg_S) (o : Nat) : Option (hg_S) :=
  (hg_newa G S 1 80).bind fun S1 => (hg_pf S1 (some o) 0 0 (va_rf (some S.2.1))).bind fun S2 => some S2
set_option maxHeartbeats 4000000 in
set_option maxRecDepth 100000 in
/-- SignalEngine.<init>()V -/
theorem hm_SE_init_ok (l : Launch) (D : va_G) (G : hg_E) (Z : hg_S) (o : Nat) (q : hg_S) (hq : hm_SE_init G Z o = some q) : hg_C l ⟨"SignalEngine", "<init>", "()V"⟩ prog_1_method_1_code 1 none 1 20 D G [.ref o] Z (.inl (none, q) : hg_O) := by
  refine hg_start (cv := fun q => (.inl (none, q) : hg_O)) hq ?_
  intro F hF h
  refine hg_enter (lv := [(0, va_rf (some o))]) (by decide +kernel) (by simp [lg_sl, va_rf_cat, hg_cti, hg_ctr]) (by simp [lv_args, va_rf_cat, va_rf_some, hg_cti, hg_ctr]) ?_
  intro X hC hR
  show hg_G X l (hg_rm 1 20 Z) D 1 Z 0 [(0, va_rf (some o))] []
  have h : dc_wp (hm_SE_init G Z o) F := h
  delta hm_SE_init at h
  refine hg_aloadn (pc := 0) (j := 0) (i := 0) (r := (some o)) hC 0 rfl rfl (show decode prog_1_method_1_code 0 = .ok (.aload_n 0, 1) by decide +kernel) ?_
  refine hg_oi (pc := 1) (a := o) hC w_39 w_40 w_41 (show decode prog_1_method_1_code 1 = .ok (.invokespecial 1, 3) by decide +kernel) (Nat.le_of_ble_eq_true rfl) (Nat.le_of_ble_eq_true rfl) ?_
  refine hg_aloadn (pc := 4) (j := 0) (i := 0) (r := (some o)) hC 0 rfl rfl (show decode prog_1_method_1_code 4 = .ok (.aload_n 0, 1) by decide +kernel) ?_
  refine hg_bipush (pc := 5) (v := 80) hC (show decode prog_1_method_1_code 5 = .ok (.bipush 80, 2) by decide +kernel) (by decide +kernel) ?_
  refine hg_rnewa (pc := 7) (t := 1) (atype := .byte) hC rfl rfl (fun _ h9 => h9) rfl (by decide) w_85 (show decode prog_1_method_1_code 7 = .ok (.newarray .byte, 2) by decide +kernel) h ?_
  intro S1 h
  refine hg_rput (pc := 9) (r := (some o)) (v := va_rf (some Z.2.1)) hC fp_SignalEngine_9 (hg_na _).1 (hg_na _).2 (show decode prog_1_method_1_code 9 = .ok (.putfield 9, 3) by decide +kernel) h ?_
  intro S2 h
  exact hg_vret (pc := 12) hC hR (hF _ (dc_some h)) (show decode prog_1_method_1_code 12 = .ok (.return_, 1) by decide +kernel)
noncomputable def hm_SE_append_L36 (G : hg_E) (S : hg_S) (o : Nat) : Option (hg_S) :=
  some S
noncomputable def hm_SE_append_b3 (G : hg_E) (S : hg_S) (o : Nat) (x1 : Int32) (x2 : Int32) : Option ((hg_S × Int32) ⊕ ((hg_S))) :=
  if x2 < 0 then (some (.inr S)) else ((hg_gr S (some o) 0 0).bind fun e1 => (hg_gi S (some o) 0 1).bind fun e2 => (hg_st S e1 (G.1 1) e2 (vp_nar .byte ((Int8.toInt32 (Int32.toInt8 (((Int32.toUInt32 x1 >>> (Int32.toUInt32 x2 &&& Int32.toUInt32 31)).toInt32))))))).bind fun S3 => (hg_gi S3 (some o) 0 1).bind fun e4 => (hg_pf S3 (some o) 0 1 (.int (e4 + 1))).bind fun S5 => some (.inl (S5, (x2 + (-8)))))
noncomputable def hm_SE_append_s3 (G : hg_E) (o : Nat) (x1 : Int32) (q : hg_S × Int32) : Option ((hg_S × Int32) ⊕ ((hg_S))) :=
  hm_SE_append_b3 G q.1 o x1 q.2
noncomputable def hm_SE_append_L3 (G : hg_E) (S : hg_S) (o : Nat) (x1 : Int32) (x2 : Int32) : Option (hg_S) :=
  (dc_it (hm_SE_append_s3 G o x1) (S, x2)).bind (fun (z : hg_S) => hm_SE_append_L36 G z o)
noncomputable def hm_SE_append (G : hg_E) (S : hg_S) (o : Nat) (p1 : Int32) : Option (hg_S) :=
  hm_SE_append_L3 G S o p1 24
set_option maxHeartbeats 4000000 in
set_option maxRecDepth 100000 in
/-- SignalEngine.append(I)V -/
theorem hm_SE_append_ok (l : Launch) (D : va_G) (G : hg_E) (Z : hg_S) (o : Nat) (p1 : Int32) (q : hg_S) (hq : hm_SE_append G Z o p1 = some q) : hg_C l ⟨"SignalEngine", "append", "(I)V"⟩ prog_1_method_3_code 3 none 0 0 D G [.ref o, .int p1] Z (.inl (none, q) : hg_O) := by
  refine hg_start (cv := fun q => (.inl (none, q) : hg_O)) hq ?_
  intro F hF h
  refine hg_enter (lv := [(0, va_rf (some o)), (1, .int p1)]) (by decide +kernel) (by simp [lg_sl, va_rf_cat, hg_cti, hg_ctr]) (by simp [lv_args, va_rf_cat, va_rf_some, hg_cti, hg_ctr]) ?_
  intro X hC hR
  have lab_36 : ∀ (S : hg_S), dc_wp (hm_SE_append_L36 G S o) F → hg_G X l (hg_rm 0 0 Z) D 3 S 36 [(0, va_rf (some o))] [] := by
    intro S  h
    delta hm_SE_append_L36 at h
    exact hg_vret (pc := 36) hC hR (hF _ (dc_some h)) (show decode prog_1_method_3_code 36 = .ok (.return_, 1) by decide +kernel)
  have loop_3 : ∀ (x1 : Int32) (q : hg_S × Int32), dc_wp (dc_it (hm_SE_append_s3 G o x1) q) (fun z => dc_wp ((fun (z : hg_S) => hm_SE_append_L36 G z o) z) F) → hg_G X l (hg_rm 0 0 Z) D 3 q.1 3 [(0, va_rf (some o)), (1, .int x1), (2, .int q.2)] [] := by
    intro x1
    refine dc_loopF ?_
    intro F_3 hl_3 hr_3
    rintro ⟨S, x2⟩ h
    have h : dc_wp (hm_SE_append_b3 G S o x1 x2) F_3 := h
    delta hm_SE_append_b3 at h
    refine hg_iloadn (pc := 3) (j := 2) (i := 2) hC 2 rfl rfl (show decode prog_1_method_3_code 3 = .ok (.iload_n 2, 1) by decide +kernel) ?_
    refine hg_if_lt (pc := 4) (tgt := 36) hC (show decode prog_1_method_3_code 4 = .ok (.ifCond .lt 32, 3) by decide +kernel) (by decide +kernel) h ?_ ?_
    · intro h
      have h : dc_wp (hm_SE_append_L36 G S o) F := hr_3 S (dc_some h)
      exact hg_sub [0] rfl (lab_36 S h)
    · intro h
      refine hg_aloadn (pc := 7) (j := 0) (i := 0) (r := (some o)) hC 0 rfl rfl (show decode prog_1_method_3_code 7 = .ok (.aload_n 0, 1) by decide +kernel) ?_
      refine hg_rgr (pc := 8) (r := (some o)) hC fl_SignalEngine_9 (show decode prog_1_method_3_code 8 = .ok (.getfield 9, 3) by decide +kernel) h ?_
      intro e1 h
      refine hg_aloadn (pc := 11) (j := 0) (i := 0) (r := (some o)) hC 0 rfl rfl (show decode prog_1_method_3_code 11 = .ok (.aload_n 0, 1) by decide +kernel) ?_
      refine hg_rgi (pc := 12) (r := (some o)) hC fl_SignalEngine_13 (show decode prog_1_method_3_code 12 = .ok (.getfield 13, 3) by decide +kernel) h ?_
      intro e2 h
      refine hg_iloadn (pc := 15) (j := 1) (i := 1) hC 1 rfl rfl (show decode prog_1_method_3_code 15 = .ok (.iload_n 1, 1) by decide +kernel) ?_
      refine hg_iloadn (pc := 16) (j := 2) (i := 2) hC 2 rfl rfl (show decode prog_1_method_3_code 16 = .ok (.iload_n 2, 1) by decide +kernel) ?_
      refine hg_iushr (pc := 17) hC (show decode prog_1_method_3_code 17 = .ok (.iushr, 1) by decide +kernel) ?_
      refine hg_i2b (pc := 18) hC (show decode prog_1_method_3_code 18 = .ok (.i2b, 1) by decide +kernel) ?_
      refine hg_rbast (pc := 19) (r := e1) hC (show decode prog_1_method_3_code 19 = .ok (.bastore, 1) by decide +kernel) h ?_
      intro S3 h
      refine hg_aloadn (pc := 20) (j := 0) (i := 0) (r := (some o)) hC 0 rfl rfl (show decode prog_1_method_3_code 20 = .ok (.aload_n 0, 1) by decide +kernel) ?_
      refine hg_dup (pc := 21) hC (show decode prog_1_method_3_code 21 = .ok (.dup, 1) by decide +kernel) rfl ?_
      refine hg_rgi (pc := 22) (r := (some o)) hC fl_SignalEngine_13 (show decode prog_1_method_3_code 22 = .ok (.getfield 13, 3) by decide +kernel) h ?_
      intro e4 h
      refine hg_iconst (pc := 25) (v := 1) hC (show decode prog_1_method_3_code 25 = .ok (.iconst 1, 1) by decide +kernel) (by decide +kernel) ?_
      refine hg_iadd (pc := 26) hC (show decode prog_1_method_3_code 26 = .ok (.iadd, 1) by decide +kernel) ?_
      refine hg_rput (pc := 27) (r := (some o)) (v := .int (e4 + 1)) hC fp_SignalEngine_13 rfl rfl (show decode prog_1_method_3_code 27 = .ok (.putfield 13, 3) by decide +kernel) h ?_
      intro S5 h
      refine hg_iinc (pc := 30) (i := 2) (v := (x2 + (-8))) (lv' := [(2, .int (x2 + (-8))), (0, va_rf (some o)), (1, .int x1)]) hC 2 rfl (congrArg (fun z => x2 + z) (show Int32.ofInt (-8) = (-8 : Int32) by decide +kernel)) (Nat.le_of_ble_eq_true rfl) rfl (show decode prog_1_method_3_code 30 = .ok (.iinc 2 (-8), 3) by decide +kernel) ?_
      refine hg_goto (pc := 33) (tgt := 3) hC (show decode prog_1_method_3_code 33 = .ok (.goto (-30), 3) by decide +kernel) (by decide +kernel) ?_
      exact hg_sub [1, 2, 0] rfl (hl_3 ((S5, (x2 + (-8)))) (dc_some h))
  have lab_3 : ∀ (S : hg_S) (x1 : Int32) (x2 : Int32), dc_wp (hm_SE_append_L3 G S o x1 x2) F → hg_G X l (hg_rm 0 0 Z) D 3 S 3 [(0, va_rf (some o)), (1, .int x1), (2, .int x2)] [] := fun S x1 x2 h => loop_3 x1 (S, x2) (dc_bind h)
  show hg_G X l (hg_rm 0 0 Z) D 3 Z 0 [(0, va_rf (some o)), (1, .int p1)] []
  have h : dc_wp (hm_SE_append G Z o p1) F := h
  delta hm_SE_append at h
  refine hg_bipush (pc := 0) (v := 24) hC (show decode prog_1_method_3_code 0 = .ok (.bipush 24, 2) by decide +kernel) (by decide +kernel) ?_
  refine hg_istoren (pc := 2) (j := 2) (i := 2) (lv' := [(2, .int 24), (0, va_rf (some o)), (1, .int p1)]) hC rfl (Nat.le_of_ble_eq_true rfl) rfl (show decode prog_1_method_3_code 2 = .ok (.istore_n 2, 1) by decide +kernel) ?_
  exact hg_sub [1, 2, 0] rfl (lab_3 Z p1 24 h)
noncomputable def hm_SE_end_L17 (G : hg_E) (S : hg_S) (o : Nat) : Option (hg_S × Int32) :=
  some (S, (-1))
noncomputable def hm_SE_end (G : hg_E) (S : hg_S) (o : Nat) (p1 : Int32) : Option (hg_S × Int32) :=
  (hg_gi S (some o) 0 2).bind fun e1 => if e1 = 0 then (hm_SE_end_L17 G S o) else (if p1 < 0 then (hm_SE_end_L17 G S o) else (if (20 : Int32) < p1 then (hm_SE_end_L17 G S o) else ((hg_pf S (some o) 0 2 (.int 0)).bind fun S2 => (hg_gi S2 (some o) 0 1).bind fun e3 => (hg_pf S2 (some o) 0 1 (.int (e3 - (20 - p1)))).bind fun S4 => (hg_gi S4 (some o) 0 1).bind fun e5 => some (S4, e5))))
set_option maxHeartbeats 4000000 in
set_option maxRecDepth 100000 in
/-- SignalEngine.end(I)I -/
theorem hm_SE_end_ok (l : Launch) (D : va_G) (G : hg_E) (Z : hg_S) (o : Nat) (p1 : Int32) (q : hg_S × Int32) (hq : hm_SE_end G Z o p1 = some q) : hg_C l ⟨"SignalEngine", "end", "(I)I"⟩ prog_1_method_4_code 2 (some (.int)) 0 0 D G [.ref o, .int p1] Z (.inl (some (.int q.2), q.1) : hg_O) := by
  refine hg_start (cv := fun q => (.inl (some (.int q.2), q.1) : hg_O)) hq ?_
  intro F hF h
  refine hg_enter (lv := [(0, va_rf (some o)), (1, .int p1)]) (by decide +kernel) (by simp [lg_sl, va_rf_cat, hg_cti, hg_ctr]) (by simp [lv_args, va_rf_cat, va_rf_some, hg_cti, hg_ctr]) ?_
  intro X hC hR
  have lab_17 : ∀ (S : hg_S), dc_wp (hm_SE_end_L17 G S o) F → hg_G X l (hg_rm 0 0 Z) D 2 S 17 [(0, va_rf (some o))] [] := by
    intro S  h
    delta hm_SE_end_L17 at h
    refine hg_iconst (pc := 17) (v := (-1)) hC (show decode prog_1_method_4_code 17 = .ok (.iconst (-1), 1) by decide +kernel) (by decide +kernel) ?_
    exact hg_iret (pc := 18) hC hR (hF _ (dc_some h)) (show decode prog_1_method_4_code 18 = .ok (.ireturn, 1) by decide +kernel)
  show hg_G X l (hg_rm 0 0 Z) D 2 Z 0 [(0, va_rf (some o)), (1, .int p1)] []
  have h : dc_wp (hm_SE_end G Z o p1) F := h
  delta hm_SE_end at h
  refine hg_aloadn (pc := 0) (j := 0) (i := 0) (r := (some o)) hC 0 rfl rfl (show decode prog_1_method_4_code 0 = .ok (.aload_n 0, 1) by decide +kernel) ?_
  refine hg_rgi (pc := 1) (r := (some o)) hC fl_SignalEngine_28 (show decode prog_1_method_4_code 1 = .ok (.getfield 28, 3) by decide +kernel) h ?_
  intro e1 h
  refine hg_if_eq (pc := 4) (tgt := 17) hC (show decode prog_1_method_4_code 4 = .ok (.ifCond .eq 13, 3) by decide +kernel) (by decide +kernel) h ?_ ?_
  · intro h
    exact hg_sub [0] rfl (lab_17 Z h)
  · intro h
    refine hg_iloadn (pc := 7) (j := 1) (i := 1) hC 1 rfl rfl (show decode prog_1_method_4_code 7 = .ok (.iload_n 1, 1) by decide +kernel) ?_
    refine hg_if_lt (pc := 8) (tgt := 17) hC (show decode prog_1_method_4_code 8 = .ok (.ifCond .lt 9, 3) by decide +kernel) (by decide +kernel) h ?_ ?_
    · intro h
      exact hg_sub [0] rfl (lab_17 Z h)
    · intro h
      refine hg_iloadn (pc := 11) (j := 1) (i := 1) hC 1 rfl rfl (show decode prog_1_method_4_code 11 = .ok (.iload_n 1, 1) by decide +kernel) ?_
      refine hg_bipush (pc := 12) (v := 20) hC (show decode prog_1_method_4_code 12 = .ok (.bipush 20, 2) by decide +kernel) (by decide +kernel) ?_
      refine hg_icmp_le (pc := 14) (tgt := 19) hC (show decode prog_1_method_4_code 14 = .ok (.if_icmp .le 5, 3) by decide +kernel) (by decide +kernel) h ?_ ?_
      · intro h
        exact hg_sub [0] rfl (lab_17 Z h)
      · intro h
        refine hg_aloadn (pc := 19) (j := 0) (i := 0) (r := (some o)) hC 0 rfl rfl (show decode prog_1_method_4_code 19 = .ok (.aload_n 0, 1) by decide +kernel) ?_
        refine hg_iconst (pc := 20) (v := 0) hC (show decode prog_1_method_4_code 20 = .ok (.iconst 0, 1) by decide +kernel) (by decide +kernel) ?_
        refine hg_rput (pc := 21) (r := (some o)) (v := .int 0) hC fp_SignalEngine_28 (dc_nar (Or.inl rfl)).2.1 (dc_nar (Or.inl rfl)).2.2 (show decode prog_1_method_4_code 21 = .ok (.putfield 28, 3) by decide +kernel) h ?_
        intro S2 h
        refine hg_aloadn (pc := 24) (j := 0) (i := 0) (r := (some o)) hC 0 rfl rfl (show decode prog_1_method_4_code 24 = .ok (.aload_n 0, 1) by decide +kernel) ?_
        refine hg_dup (pc := 25) hC (show decode prog_1_method_4_code 25 = .ok (.dup, 1) by decide +kernel) rfl ?_
        refine hg_rgi (pc := 26) (r := (some o)) hC fl_SignalEngine_13 (show decode prog_1_method_4_code 26 = .ok (.getfield 13, 3) by decide +kernel) h ?_
        intro e3 h
        refine hg_bipush (pc := 29) (v := 20) hC (show decode prog_1_method_4_code 29 = .ok (.bipush 20, 2) by decide +kernel) (by decide +kernel) ?_
        refine hg_iloadn (pc := 31) (j := 1) (i := 1) hC 1 rfl rfl (show decode prog_1_method_4_code 31 = .ok (.iload_n 1, 1) by decide +kernel) ?_
        refine hg_isub (pc := 32) hC (show decode prog_1_method_4_code 32 = .ok (.isub, 1) by decide +kernel) ?_
        refine hg_isub (pc := 33) hC (show decode prog_1_method_4_code 33 = .ok (.isub, 1) by decide +kernel) ?_
        refine hg_rput (pc := 34) (r := (some o)) (v := .int (e3 - (20 - p1))) hC fp_SignalEngine_13 rfl rfl (show decode prog_1_method_4_code 34 = .ok (.putfield 13, 3) by decide +kernel) h ?_
        intro S4 h
        refine hg_aloadn (pc := 37) (j := 0) (i := 0) (r := (some o)) hC 0 rfl rfl (show decode prog_1_method_4_code 37 = .ok (.aload_n 0, 1) by decide +kernel) ?_
        refine hg_rgi (pc := 38) (r := (some o)) hC fl_SignalEngine_13 (show decode prog_1_method_4_code 38 = .ok (.getfield 13, 3) by decide +kernel) h ?_
        intro e5 h
        exact hg_iret (pc := 41) hC hR (hF _ (dc_some h)) (show decode prog_1_method_4_code 41 = .ok (.ireturn, 1) by decide +kernel)
noncomputable def hm_SE_forget (G : hg_E) (S : hg_S) (o : Nat) : Option (hg_S) :=
  (hg_pf S (some o) 0 3 (va_rf none)).bind fun S1 => (hg_pf S1 (some o) 0 4 (va_rf none)).bind fun S2 => (hg_pf S2 (some o) 0 7 (va_rf none)).bind fun S3 => (hg_pf S3 (some o) 0 8 (va_rf none)).bind fun S4 => (hg_pf S4 (some o) 0 5 (.int 0)).bind fun S5 => (hg_pf S5 (some o) 0 6 (.int 0)).bind fun S6 => (hg_pf S6 (some o) 0 9 (.int 0)).bind fun S7 => (hg_pf S7 (some o) 0 12 (.int 0)).bind fun S8 => (hg_pf S8 (some o) 0 13 (.int 0)).bind fun S9 => some S9
set_option maxHeartbeats 4000000 in
set_option maxRecDepth 100000 in
/-- SignalEngine.forget()V -/
theorem hm_SE_forget_ok (l : Launch) (D : va_G) (G : hg_E) (Z : hg_S) (o : Nat) (q : hg_S) (hq : hm_SE_forget G Z o = some q) : hg_C l ⟨"SignalEngine", "forget", "()V"⟩ prog_1_method_6_code 1 none 0 0 D G [.ref o] Z (.inl (none, q) : hg_O) := by
  refine hg_start (cv := fun q => (.inl (none, q) : hg_O)) hq ?_
  intro F hF h
  refine hg_enter (lv := [(0, va_rf (some o))]) (by decide +kernel) (by simp [lg_sl, va_rf_cat, hg_cti, hg_ctr]) (by simp [lv_args, va_rf_cat, va_rf_some, hg_cti, hg_ctr]) ?_
  intro X hC hR
  show hg_G X l (hg_rm 0 0 Z) D 1 Z 0 [(0, va_rf (some o))] []
  have h : dc_wp (hm_SE_forget G Z o) F := h
  delta hm_SE_forget at h
  refine hg_aloadn (pc := 0) (j := 0) (i := 0) (r := (some o)) hC 0 rfl rfl (show decode prog_1_method_6_code 0 = .ok (.aload_n 0, 1) by decide +kernel) ?_
  refine hg_null (pc := 1) hC (show decode prog_1_method_6_code 1 = .ok (.aconst_null, 1) by decide +kernel) ?_
  refine hg_rput (pc := 2) (r := (some o)) (v := va_rf none) hC fp_SignalEngine_52 (hg_nr _).1 (hg_nr _).2 (show decode prog_1_method_6_code 2 = .ok (.putfield 52, 3) by decide +kernel) h ?_
  intro S1 h
  refine hg_aloadn (pc := 5) (j := 0) (i := 0) (r := (some o)) hC 0 rfl rfl (show decode prog_1_method_6_code 5 = .ok (.aload_n 0, 1) by decide +kernel) ?_
  refine hg_null (pc := 6) hC (show decode prog_1_method_6_code 6 = .ok (.aconst_null, 1) by decide +kernel) ?_
  refine hg_rput (pc := 7) (r := (some o)) (v := va_rf none) hC fp_SignalEngine_61 (hg_nr _).1 (hg_nr _).2 (show decode prog_1_method_6_code 7 = .ok (.putfield 61, 3) by decide +kernel) h ?_
  intro S2 h
  refine hg_aloadn (pc := 10) (j := 0) (i := 0) (r := (some o)) hC 0 rfl rfl (show decode prog_1_method_6_code 10 = .ok (.aload_n 0, 1) by decide +kernel) ?_
  refine hg_null (pc := 11) hC (show decode prog_1_method_6_code 11 = .ok (.aconst_null, 1) by decide +kernel) ?_
  refine hg_rput (pc := 12) (r := (some o)) (v := va_rf none) hC fp_SignalEngine_68 (hg_na _).1 (hg_na _).2 (show decode prog_1_method_6_code 12 = .ok (.putfield 68, 3) by decide +kernel) h ?_
  intro S3 h
  refine hg_aloadn (pc := 15) (j := 0) (i := 0) (r := (some o)) hC 0 rfl rfl (show decode prog_1_method_6_code 15 = .ok (.aload_n 0, 1) by decide +kernel) ?_
  refine hg_null (pc := 16) hC (show decode prog_1_method_6_code 16 = .ok (.aconst_null, 1) by decide +kernel) ?_
  refine hg_rput (pc := 17) (r := (some o)) (v := va_rf none) hC fp_SignalEngine_78 (hg_na _).1 (hg_na _).2 (show decode prog_1_method_6_code 17 = .ok (.putfield 78, 3) by decide +kernel) h ?_
  intro S4 h
  refine hg_aloadn (pc := 20) (j := 0) (i := 0) (r := (some o)) hC 0 rfl rfl (show decode prog_1_method_6_code 20 = .ok (.aload_n 0, 1) by decide +kernel) ?_
  refine hg_iconst (pc := 21) (v := 0) hC (show decode prog_1_method_6_code 21 = .ok (.iconst 0, 1) by decide +kernel) (by decide +kernel) ?_
  refine hg_rput (pc := 22) (r := (some o)) (v := .int 0) hC fp_SignalEngine_82 (dc_nar (Or.inl rfl)).2.1 (dc_nar (Or.inl rfl)).2.2 (show decode prog_1_method_6_code 22 = .ok (.putfield 82, 3) by decide +kernel) h ?_
  intro S5 h
  refine hg_aloadn (pc := 25) (j := 0) (i := 0) (r := (some o)) hC 0 rfl rfl (show decode prog_1_method_6_code 25 = .ok (.aload_n 0, 1) by decide +kernel) ?_
  refine hg_iconst (pc := 26) (v := 0) hC (show decode prog_1_method_6_code 26 = .ok (.iconst 0, 1) by decide +kernel) (by decide +kernel) ?_
  refine hg_rput (pc := 27) (r := (some o)) (v := .int 0) hC fp_SignalEngine_85 (dc_nar (Or.inl rfl)).2.1 (dc_nar (Or.inl rfl)).2.2 (show decode prog_1_method_6_code 27 = .ok (.putfield 85, 3) by decide +kernel) h ?_
  intro S6 h
  refine hg_aloadn (pc := 30) (j := 0) (i := 0) (r := (some o)) hC 0 rfl rfl (show decode prog_1_method_6_code 30 = .ok (.aload_n 0, 1) by decide +kernel) ?_
  refine hg_iconst (pc := 31) (v := 0) hC (show decode prog_1_method_6_code 31 = .ok (.iconst 0, 1) by decide +kernel) (by decide +kernel) ?_
  refine hg_rput (pc := 32) (r := (some o)) (v := .int 0) hC fp_SignalEngine_88 rfl rfl (show decode prog_1_method_6_code 32 = .ok (.putfield 88, 3) by decide +kernel) h ?_
  intro S7 h
  refine hg_aloadn (pc := 35) (j := 0) (i := 0) (r := (some o)) hC 0 rfl rfl (show decode prog_1_method_6_code 35 = .ok (.aload_n 0, 1) by decide +kernel) ?_
  refine hg_iconst (pc := 36) (v := 0) hC (show decode prog_1_method_6_code 36 = .ok (.iconst 0, 1) by decide +kernel) (by decide +kernel) ?_
  refine hg_rput (pc := 37) (r := (some o)) (v := .int 0) hC fp_SignalEngine_91 (dc_nar (Or.inl rfl)).2.1 (dc_nar (Or.inl rfl)).2.2 (show decode prog_1_method_6_code 37 = .ok (.putfield 91, 3) by decide +kernel) h ?_
  intro S8 h
  refine hg_aloadn (pc := 40) (j := 0) (i := 0) (r := (some o)) hC 0 rfl rfl (show decode prog_1_method_6_code 40 = .ok (.aload_n 0, 1) by decide +kernel) ?_
  refine hg_iconst (pc := 41) (v := 0) hC (show decode prog_1_method_6_code 41 = .ok (.iconst 0, 1) by decide +kernel) (by decide +kernel) ?_
  refine hg_rput (pc := 42) (r := (some o)) (v := .int 0) hC fp_SignalEngine_94 (dc_nar (Or.inl rfl)).2.1 (dc_nar (Or.inl rfl)).2.2 (show decode prog_1_method_6_code 42 = .ok (.putfield 94, 3) by decide +kernel) h ?_
  intro S9 h
  exact hg_vret (pc := 45) hC hR (hF _ (dc_some h)) (show decode prog_1_method_6_code 45 = .ok (.return_, 1) by decide +kernel)
noncomputable def hm_PI_init (G : hg_E) (S : hg_S) (o : Nat) (p1 : Int32) : Option (hg_S) :=
  (hg_newa G S 0 p1).bind fun S1 => (hg_pf S1 (some o) 5 0 (va_rf (some S.2.1))).bind fun S2 => (hg_newa G S2 0 p1).bind fun S3 => (hg_pf S3 (some o) 5 1 (va_rf (some S2.2.1))).bind fun S4 => (hg_newa G S4 0 p1).bind fun S5 => (hg_pf S5 (some o) 5 2 (va_rf (some S4.2.1))).bind fun S6 => (hg_newa G S6 0 p1).bind fun S7 => (hg_pf S7 (some o) 5 3 (va_rf (some S6.2.1))).bind fun S8 => (hg_newa G S8 0 p1).bind fun S9 => (hg_pf S9 (some o) 5 4 (va_rf (some S8.2.1))).bind fun S10 => some S10
set_option maxHeartbeats 4000000 in
set_option maxRecDepth 100000 in
/-- SignalEngine$Pieces.<init>(I)V -/
theorem hm_PI_init_ok (l : Launch) (D : va_G) (G : hg_E) (Z : hg_S) (o : Nat) (p1 : Int32) (q : hg_S) (hq : hm_PI_init G Z o p1 = some q) : hg_C l ⟨"SignalEngine$Pieces", "<init>", "(I)V"⟩ prog_10_method_1_code 2 none 1 20 D G [.ref o, .int p1] Z (.inl (none, q) : hg_O) := by
  refine hg_start (cv := fun q => (.inl (none, q) : hg_O)) hq ?_
  intro F hF h
  refine hg_enter (lv := [(0, va_rf (some o)), (1, .int p1)]) (by decide +kernel) (by simp [lg_sl, va_rf_cat, hg_cti, hg_ctr]) (by simp [lv_args, va_rf_cat, va_rf_some, hg_cti, hg_ctr]) ?_
  intro X hC hR
  show hg_G X l (hg_rm 1 20 Z) D 2 Z 0 [(0, va_rf (some o)), (1, .int p1)] []
  have h : dc_wp (hm_PI_init G Z o p1) F := h
  delta hm_PI_init at h
  refine hg_aloadn (pc := 0) (j := 0) (i := 0) (r := (some o)) hC 0 rfl rfl (show decode prog_10_method_1_code 0 = .ok (.aload_n 0, 1) by decide +kernel) ?_
  refine hg_oi (pc := 1) (a := o) hC w_166 w_40 w_41 (show decode prog_10_method_1_code 1 = .ok (.invokespecial 3, 3) by decide +kernel) (Nat.le_of_ble_eq_true rfl) (Nat.le_of_ble_eq_true rfl) ?_
  refine hg_aloadn (pc := 4) (j := 0) (i := 0) (r := (some o)) hC 0 rfl rfl (show decode prog_10_method_1_code 4 = .ok (.aload_n 0, 1) by decide +kernel) ?_
  refine hg_iloadn (pc := 5) (j := 1) (i := 1) hC 1 rfl rfl (show decode prog_10_method_1_code 5 = .ok (.iload_n 1, 1) by decide +kernel) ?_
  refine hg_rnewa (pc := 6) (t := 0) (atype := .int) hC rfl rfl (fun _ h9 => h9) rfl (by decide) w_197 (show decode prog_10_method_1_code 6 = .ok (.newarray .int, 2) by decide +kernel) h ?_
  intro S1 h
  refine hg_rput (pc := 8) (r := (some o)) (v := va_rf (some Z.2.1)) hC fp_SignalEngine_Pieces_9 (hg_na _).1 (hg_na _).2 (show decode prog_10_method_1_code 8 = .ok (.putfield 9, 3) by decide +kernel) h ?_
  intro S2 h
  refine hg_aloadn (pc := 11) (j := 0) (i := 0) (r := (some o)) hC 0 rfl rfl (show decode prog_10_method_1_code 11 = .ok (.aload_n 0, 1) by decide +kernel) ?_
  refine hg_iloadn (pc := 12) (j := 1) (i := 1) hC 1 rfl rfl (show decode prog_10_method_1_code 12 = .ok (.iload_n 1, 1) by decide +kernel) ?_
  refine hg_rnewa (pc := 13) (t := 0) (atype := .int) hC rfl rfl (fun _ h9 => h9) rfl (by decide) w_197 (show decode prog_10_method_1_code 13 = .ok (.newarray .int, 2) by decide +kernel) h ?_
  intro S3 h
  refine hg_rput (pc := 15) (r := (some o)) (v := va_rf (some S2.2.1)) hC fp_SignalEngine_Pieces_15 (hg_na _).1 (hg_na _).2 (show decode prog_10_method_1_code 15 = .ok (.putfield 15, 3) by decide +kernel) h ?_
  intro S4 h
  refine hg_aloadn (pc := 18) (j := 0) (i := 0) (r := (some o)) hC 0 rfl rfl (show decode prog_10_method_1_code 18 = .ok (.aload_n 0, 1) by decide +kernel) ?_
  refine hg_iloadn (pc := 19) (j := 1) (i := 1) hC 1 rfl rfl (show decode prog_10_method_1_code 19 = .ok (.iload_n 1, 1) by decide +kernel) ?_
  refine hg_rnewa (pc := 20) (t := 0) (atype := .int) hC rfl rfl (fun _ h9 => h9) rfl (by decide) w_197 (show decode prog_10_method_1_code 20 = .ok (.newarray .int, 2) by decide +kernel) h ?_
  intro S5 h
  refine hg_rput (pc := 22) (r := (some o)) (v := va_rf (some S4.2.1)) hC fp_SignalEngine_Pieces_18 (hg_na _).1 (hg_na _).2 (show decode prog_10_method_1_code 22 = .ok (.putfield 18, 3) by decide +kernel) h ?_
  intro S6 h
  refine hg_aloadn (pc := 25) (j := 0) (i := 0) (r := (some o)) hC 0 rfl rfl (show decode prog_10_method_1_code 25 = .ok (.aload_n 0, 1) by decide +kernel) ?_
  refine hg_iloadn (pc := 26) (j := 1) (i := 1) hC 1 rfl rfl (show decode prog_10_method_1_code 26 = .ok (.iload_n 1, 1) by decide +kernel) ?_
  refine hg_rnewa (pc := 27) (t := 0) (atype := .int) hC rfl rfl (fun _ h9 => h9) rfl (by decide) w_197 (show decode prog_10_method_1_code 27 = .ok (.newarray .int, 2) by decide +kernel) h ?_
  intro S7 h
  refine hg_rput (pc := 29) (r := (some o)) (v := va_rf (some S6.2.1)) hC fp_SignalEngine_Pieces_21 (hg_na _).1 (hg_na _).2 (show decode prog_10_method_1_code 29 = .ok (.putfield 21, 3) by decide +kernel) h ?_
  intro S8 h
  refine hg_aloadn (pc := 32) (j := 0) (i := 0) (r := (some o)) hC 0 rfl rfl (show decode prog_10_method_1_code 32 = .ok (.aload_n 0, 1) by decide +kernel) ?_
  refine hg_iloadn (pc := 33) (j := 1) (i := 1) hC 1 rfl rfl (show decode prog_10_method_1_code 33 = .ok (.iload_n 1, 1) by decide +kernel) ?_
  refine hg_rnewa (pc := 34) (t := 0) (atype := .int) hC rfl rfl (fun _ h9 => h9) rfl (by decide) w_197 (show decode prog_10_method_1_code 34 = .ok (.newarray .int, 2) by decide +kernel) h ?_
  intro S9 h
  refine hg_rput (pc := 36) (r := (some o)) (v := va_rf (some S8.2.1)) hC fp_SignalEngine_Pieces_24 (hg_na _).1 (hg_na _).2 (show decode prog_10_method_1_code 36 = .ok (.putfield 24, 3) by decide +kernel) h ?_
  intro S10 h
  exact hg_vret (pc := 39) hC hR (hF _ (dc_some h)) (show decode prog_10_method_1_code 39 = .ok (.return_, 1) by decide +kernel)
noncomputable def hm_NM_init (G : hg_E) (S : hg_S) (o : Nat) (p1 : Option Nat) : Option (hg_S) :=
  (hg_newa G S 0 4).bind fun S1 => (hg_pf S1 (some o) 3 1 (va_rf (some S.2.1))).bind fun S2 => (hg_newa G S2 0 4).bind fun S3 => (hg_pf S3 (some o) 3 2 (va_rf (some S2.2.1))).bind fun S4 => (hg_newa G S4 0 4).bind fun S5 => (hg_pf S5 (some o) 3 3 (va_rf (some S4.2.1))).bind fun S6 => (hg_pf S6 (some o) 3 0 (va_rf p1)).bind fun S7 => some S7
set_option maxHeartbeats 4000000 in
set_option maxRecDepth 100000 in
/-- SignalEngine$Names.<init>([B)V -/
theorem hm_NM_init_ok (l : Launch) (D : va_G) (G : hg_E) (Z : hg_S) (o : Nat) (p1 : Option Nat) (q : hg_S) (hq : hm_NM_init G Z o p1 = some q) : hg_C l ⟨"SignalEngine$Names", "<init>", "([B)V"⟩ prog_6_method_1_code 2 none 1 20 D G [.ref o, va_rf p1] Z (.inl (none, q) : hg_O) := by
  refine hg_start (cv := fun q => (.inl (none, q) : hg_O)) hq ?_
  intro F hF h
  refine hg_enter (lv := [(0, va_rf (some o)), (1, va_rf p1)]) (by decide +kernel) (by simp [lg_sl, va_rf_cat, hg_cti, hg_ctr]) (by simp [lv_args, va_rf_cat, va_rf_some, hg_cti, hg_ctr]) ?_
  intro X hC hR
  show hg_G X l (hg_rm 1 20 Z) D 2 Z 0 [(0, va_rf (some o)), (1, va_rf p1)] []
  have h : dc_wp (hm_NM_init G Z o p1) F := h
  delta hm_NM_init at h
  refine hg_aloadn (pc := 0) (j := 0) (i := 0) (r := (some o)) hC 0 rfl rfl (show decode prog_6_method_1_code 0 = .ok (.aload_n 0, 1) by decide +kernel) ?_
  refine hg_oi (pc := 1) (a := o) hC w_262 w_40 w_41 (show decode prog_6_method_1_code 1 = .ok (.invokespecial 3, 3) by decide +kernel) (Nat.le_of_ble_eq_true rfl) (Nat.le_of_ble_eq_true rfl) ?_
  refine hg_aloadn (pc := 4) (j := 0) (i := 0) (r := (some o)) hC 0 rfl rfl (show decode prog_6_method_1_code 4 = .ok (.aload_n 0, 1) by decide +kernel) ?_
  refine hg_iconst (pc := 5) (v := 4) hC (show decode prog_6_method_1_code 5 = .ok (.iconst 4, 1) by decide +kernel) (by decide +kernel) ?_
  refine hg_rnewa (pc := 6) (t := 0) (atype := .int) hC rfl rfl (fun _ h9 => h9) rfl (by decide) w_197 (show decode prog_6_method_1_code 6 = .ok (.newarray .int, 2) by decide +kernel) h ?_
  intro S1 h
  refine hg_rput (pc := 8) (r := (some o)) (v := va_rf (some Z.2.1)) hC fp_SignalEngine_Names_9 (hg_na _).1 (hg_na _).2 (show decode prog_6_method_1_code 8 = .ok (.putfield 9, 3) by decide +kernel) h ?_
  intro S2 h
  refine hg_aloadn (pc := 11) (j := 0) (i := 0) (r := (some o)) hC 0 rfl rfl (show decode prog_6_method_1_code 11 = .ok (.aload_n 0, 1) by decide +kernel) ?_
  refine hg_iconst (pc := 12) (v := 4) hC (show decode prog_6_method_1_code 12 = .ok (.iconst 4, 1) by decide +kernel) (by decide +kernel) ?_
  refine hg_rnewa (pc := 13) (t := 0) (atype := .int) hC rfl rfl (fun _ h9 => h9) rfl (by decide) w_197 (show decode prog_6_method_1_code 13 = .ok (.newarray .int, 2) by decide +kernel) h ?_
  intro S3 h
  refine hg_rput (pc := 15) (r := (some o)) (v := va_rf (some S2.2.1)) hC fp_SignalEngine_Names_15 (hg_na _).1 (hg_na _).2 (show decode prog_6_method_1_code 15 = .ok (.putfield 15, 3) by decide +kernel) h ?_
  intro S4 h
  refine hg_aloadn (pc := 18) (j := 0) (i := 0) (r := (some o)) hC 0 rfl rfl (show decode prog_6_method_1_code 18 = .ok (.aload_n 0, 1) by decide +kernel) ?_
  refine hg_iconst (pc := 19) (v := 4) hC (show decode prog_6_method_1_code 19 = .ok (.iconst 4, 1) by decide +kernel) (by decide +kernel) ?_
  refine hg_rnewa (pc := 20) (t := 0) (atype := .int) hC rfl rfl (fun _ h9 => h9) rfl (by decide) w_197 (show decode prog_6_method_1_code 20 = .ok (.newarray .int, 2) by decide +kernel) h ?_
  intro S5 h
  refine hg_rput (pc := 22) (r := (some o)) (v := va_rf (some S4.2.1)) hC fp_SignalEngine_Names_18 (hg_na _).1 (hg_na _).2 (show decode prog_6_method_1_code 22 = .ok (.putfield 18, 3) by decide +kernel) h ?_
  intro S6 h
  refine hg_aloadn (pc := 25) (j := 0) (i := 0) (r := (some o)) hC 0 rfl rfl (show decode prog_6_method_1_code 25 = .ok (.aload_n 0, 1) by decide +kernel) ?_
  refine hg_aloadn (pc := 26) (j := 1) (i := 1) (r := p1) hC 1 rfl rfl (show decode prog_6_method_1_code 26 = .ok (.aload_n 1, 1) by decide +kernel) ?_
  refine hg_rputF (pc := 27) (r := (some o)) (v := va_rf p1) hC hR fp_SignalEngine_Names_21 (hg_na _).1 (hg_na _).2 (show decode prog_6_method_1_code 27 = .ok (.putfield 21, 3) by decide +kernel) h ?_
  intro S7 h
  exact hg_vret (pc := 30) hC hR (hF _ (dc_some h)) (show decode prog_6_method_1_code 30 = .ok (.return_, 1) by decide +kernel)
noncomputable def hm_LX_refuse (G : hg_E) (S : hg_S) (o : Nat) (p1 : Int32) : Option ((hg_S) ⊕ hg_X) :=
  (hg_gi S (some o) 2 4).bind fun e1 => (hg_pf S (some o) 2 5 (.int (p1 + (8 * e1)))).bind fun S2 => if 1 ≤ S2.2.2.1 ∧ 6 ≤ S2.2.2.2 then some (.inr ((S2.1, S2.2.1 + 1, S2.2.2.1 - 1, S2.2.2.2 - 6), S2.2.1, true)) else none
set_option maxHeartbeats 4000000 in
set_option maxRecDepth 100000 in
/-- SignalEngine$Lexer.refuse(I)V -/
theorem hm_LX_refuse_ok (l : Launch) (hlt : l.stackTraces = false) (D : va_G) (G : hg_E) (Z : hg_S) (o : Nat) (p1 : Int32) (q : (hg_S) ⊕ hg_X) (hq : hm_LX_refuse G Z o p1 = some q) : hg_C l ⟨"SignalEngine$Lexer", "refuse", "(I)V"⟩ prog_5_method_2_code 2 none 6 100 D G [.ref o, .int p1] Z (Sum.elim (fun q => (.inl (none, q) : hg_O)) hg_ox q) := by
  refine hg_start (cv := fun q => (Sum.elim (fun q => (.inl (none, q) : hg_O)) hg_ox q)) hq ?_
  intro F hF h
  refine hg_enter (lv := [(0, va_rf (some o)), (1, .int p1)]) (by decide +kernel) (by simp [lg_sl, va_rf_cat, hg_cti, hg_ctr]) (by simp [lv_args, va_rf_cat, va_rf_some, hg_cti, hg_ctr]) ?_
  intro X hC hR
  show hg_G X l (hg_rm 6 100 Z) D 2 Z 0 [(0, va_rf (some o)), (1, .int p1)] []
  have h : dc_wp (hm_LX_refuse G Z o p1) F := h
  delta hm_LX_refuse at h
  refine hg_aloadn (pc := 0) (j := 0) (i := 0) (r := (some o)) hC 0 rfl rfl (show decode prog_5_method_2_code 0 = .ok (.aload_n 0, 1) by decide +kernel) ?_
  refine hg_iloadn (pc := 1) (j := 1) (i := 1) hC 1 rfl rfl (show decode prog_5_method_2_code 1 = .ok (.iload_n 1, 1) by decide +kernel) ?_
  refine hg_bipush (pc := 2) (v := 8) hC (show decode prog_5_method_2_code 2 = .ok (.bipush 8, 2) by decide +kernel) (by decide +kernel) ?_
  refine hg_aloadn (pc := 4) (j := 0) (i := 0) (r := (some o)) hC 0 rfl rfl (show decode prog_5_method_2_code 4 = .ok (.aload_n 0, 1) by decide +kernel) ?_
  refine hg_rgi (pc := 5) (r := (some o)) hC fl_SignalEngine_Lexer_18 (show decode prog_5_method_2_code 5 = .ok (.getfield 18, 3) by decide +kernel) h ?_
  intro e1 h
  refine hg_imul (pc := 8) hC (show decode prog_5_method_2_code 8 = .ok (.imul, 1) by decide +kernel) ?_
  refine hg_iadd (pc := 9) hC (show decode prog_5_method_2_code 9 = .ok (.iadd, 1) by decide +kernel) ?_
  refine hg_rput (pc := 10) (r := (some o)) (v := .int (p1 + (8 * e1))) hC fp_SignalEngine_Lexer_26 rfl rfl (show decode prog_5_method_2_code 10 = .ok (.putfield 26, 3) by decide +kernel) h ?_
  intro S2 h
  rcases dc_ite h with ⟨hr3, h⟩ | ⟨_, h⟩
  · exact hg_raise (pc := 13) (rest := []) hC hlt hR true exq_SignalEngine_Lexer_31 exq_SignalEngine_Lexer_31_two (show decode prog_5_method_2_code 13 = .ok (.new 29, 3) by decide +kernel) (show decode prog_5_method_2_code 16 = .ok (.dup, 1) by decide +kernel) (show decode prog_5_method_2_code 17 = .ok (.invokespecial 31, 3) by decide +kernel) (show decode prog_5_method_2_code 20 = .ok (.athrow, 1) by decide +kernel) hr3 (Nat.le_of_ble_eq_true rfl) (Nat.le_of_ble_eq_true rfl) ((fun (z : hg_X) (h : dc_wp (some (.inr z)) F) => hF (.inr z) (dc_some h)) ((S2.1, S2.2.1 + 1, S2.2.2.1 - 1, S2.2.2.2 - 6), S2.2.1, true) h)
  · exact (dc_not h).elim
noncomputable def hm_LX_require_L9 (G : hg_E) (S : hg_S) (o : Nat) : Option ((hg_S) ⊕ hg_X) :=
  some (.inl S)
noncomputable def hm_LX_require (G : hg_E) (S : hg_S) (o : Nat) (p1 : Int32) : Option ((hg_S) ⊕ hg_X) :=
  if p1 = 0 then ((hg_chk S (some o) 2).bind fun b1 => (hm_LX_refuse G S b1 (1 : Int32)).bind (Sum.elim (fun q4 => hm_LX_require_L9 G q4 o) (fun z => some (.inr z)))) else (hm_LX_require_L9 G S o)
set_option maxHeartbeats 4000000 in
set_option maxRecDepth 100000 in
/-- SignalEngine$Lexer.require(Z)V -/
theorem hm_LX_require_ok (l : Launch) (hlt : l.stackTraces = false) (D : va_G) (G : hg_E) (Z : hg_S) (o : Nat) (p1 : Int32) (q : (hg_S) ⊕ hg_X) (hq : hm_LX_require G Z o p1 = some q) : hg_C l ⟨"SignalEngine$Lexer", "require", "(Z)V"⟩ prog_5_method_3_code 2 none 7 121 D G [.ref o, .int p1] Z (Sum.elim (fun q => (.inl (none, q) : hg_O)) hg_ox q) := by
  refine hg_start (cv := fun q => (Sum.elim (fun q => (.inl (none, q) : hg_O)) hg_ox q)) hq ?_
  intro F hF h
  refine hg_enter (lv := [(0, va_rf (some o)), (1, .int p1)]) (by decide +kernel) (by simp [lg_sl, va_rf_cat, hg_cti, hg_ctr]) (by simp [lv_args, va_rf_cat, va_rf_some, hg_cti, hg_ctr]) ?_
  intro X hC hR
  have lab_9 : ∀ (S : hg_S), dc_wp (hm_LX_require_L9 G S o) F → hg_G X l (hg_rm 7 121 Z) D 2 S 9 [(0, va_rf (some o))] [] := by
    intro S  h
    delta hm_LX_require_L9 at h
    exact hg_vret (pc := 9) hC hR (hF _ (dc_some h)) (show decode prog_5_method_3_code 9 = .ok (.return_, 1) by decide +kernel)
  show hg_G X l (hg_rm 7 121 Z) D 2 Z 0 [(0, va_rf (some o)), (1, .int p1)] []
  have h : dc_wp (hm_LX_require G Z o p1) F := h
  delta hm_LX_require at h
  refine hg_iloadn (pc := 0) (j := 1) (i := 1) hC 1 rfl rfl (show decode prog_5_method_3_code 0 = .ok (.iload_n 1, 1) by decide +kernel) ?_
  refine hg_if_ne (pc := 1) (tgt := 9) hC (show decode prog_5_method_3_code 1 = .ok (.ifCond .ne 8, 3) by decide +kernel) (by decide +kernel) h ?_ ?_
  · intro h
    refine hg_aloadn (pc := 4) (j := 0) (i := 0) (r := (some o)) hC 0 rfl rfl (show decode prog_5_method_3_code 4 = .ok (.aload_n 0, 1) by decide +kernel) ?_
    refine hg_iconst (pc := 5) (v := 1) hC (show decode prog_5_method_3_code 5 = .ok (.iconst 1, 1) by decide +kernel) (by decide +kernel) ?_
    obtain ⟨b1, hb2, h⟩ := dc_bind h
    obtain ⟨hb2, hv3⟩ := hg_chk_of (C := R_LX) rfl hb2
    refine hg_kVTv (pc := 6) (b := b1) (r := (some o)) (As := [.int 1]) (rest := []) (so := fun q => q) hC hR cw_SignalEngine_Lexer_32 (fun q hq => hm_LX_refuse_ok l hlt D G Z b1 (1 : Int32) q hq) (Nat.le_of_ble_eq_true rfl) (Nat.le_of_ble_eq_true rfl) hb2 hv3 rfl (Nat.le_of_ble_eq_true rfl) (show decode prog_5_method_3_code 6 = .ok (.invokevirtual 32, 3) by decide +kernel) h (fun z h => hF (.inr z) (dc_some h)) ?_
    intro q4 h
    exact hg_sub [0] rfl (lab_9 q4 h)
  · intro h
    exact hg_sub [0] rfl (lab_9 Z h)
noncomputable def hm_LX_skipGaps_L86 (G : hg_E) (S : hg_S) (o : Nat) : Option (hg_S) :=
  some S
noncomputable def hm_LX_skipGaps_L72 (G : hg_E) (S : hg_S) (o : Nat) : Option (hg_S) :=
  some S
noncomputable def hm_LX_skipGaps_L73 (G : hg_E) (S : hg_S) (o : Nat) (x1 : Int32) : Option ((hg_S × Int32) ⊕ ((hg_S) ⊕ (hg_S))) :=
  (hg_gi S (some o) 2 3).bind fun e1 => (hg_pf S (some o) 2 3 (.int (e1 + 1))).bind fun S2 => some (.inl (S2, x1))
noncomputable def hm_LX_skipGaps_b2 (G : hg_E) (S : hg_S) (o : Nat) (x1 : Int32) : Option ((hg_S × Int32) ⊕ ((hg_S) ⊕ (hg_S))) :=
  (hg_gi S (some o) 2 3).bind fun e3 => (hg_gr S (some o) 2 0).bind fun e4 => (hg_ln S e4 (G.1 1)).bind fun e5 => if e3 < e5 then ((hg_gr S (some o) 2 0).bind fun e6 => (hg_gi S (some o) 2 3).bind fun e7 => (hg_ld S e6 (G.1 1) e7).bind fun e8 => if e8 = 10 then ((hg_gi S (some o) 2 4).bind fun e9 => (hg_pf S (some o) 2 4 (.int (e9 + 1))).bind fun S10 => hm_LX_skipGaps_L73 G S10 o 0) else (if e8 = 37 then (hm_LX_skipGaps_L73 G S o 1) else (if x1 = 0 then (if e8 = 9 then (hm_LX_skipGaps_L73 G S o x1) else (if e8 = 32 then (hm_LX_skipGaps_L73 G S o x1) else (some (.inr (.inl S))))) else (hm_LX_skipGaps_L73 G S o x1)))) else (some (.inr (.inr S)))
noncomputable def hm_LX_skipGaps_s2 (G : hg_E) (o : Nat) (q : hg_S × Int32) : Option ((hg_S × Int32) ⊕ ((hg_S) ⊕ (hg_S))) :=
  hm_LX_skipGaps_b2 G q.1 o q.2
noncomputable def hm_LX_skipGaps_L2 (G : hg_E) (S : hg_S) (o : Nat) (x1 : Int32) : Option (hg_S) :=
  (dc_it (hm_LX_skipGaps_s2 G o) (S, x1)).bind (Sum.elim (fun (z : hg_S) => hm_LX_skipGaps_L72 G z o) (fun (z : hg_S) => hm_LX_skipGaps_L86 G z o))
noncomputable def hm_LX_skipGaps (G : hg_E) (S : hg_S) (o : Nat) : Option (hg_S) :=
  hm_LX_skipGaps_L2 G S o 0
set_option maxHeartbeats 4000000 in
set_option maxRecDepth 100000 in
/-- SignalEngine$Lexer.skipGaps()V -/
theorem hm_LX_skipGaps_ok (l : Launch) (D : va_G) (G : hg_E) (Z : hg_S) (o : Nat) (q : hg_S) (hq : hm_LX_skipGaps G Z o = some q) : hg_C l ⟨"SignalEngine$Lexer", "skipGaps", "()V"⟩ prog_5_method_6_code 3 none 0 0 D G [.ref o] Z (.inl (none, q) : hg_O) := by
  refine hg_start (cv := fun q => (.inl (none, q) : hg_O)) hq ?_
  intro F hF h
  refine hg_enter (lv := [(0, va_rf (some o))]) (by decide +kernel) (by simp [lg_sl, va_rf_cat, hg_cti, hg_ctr]) (by simp [lv_args, va_rf_cat, va_rf_some, hg_cti, hg_ctr]) ?_
  intro X hC hR
  have lab_86 : ∀ (S : hg_S), dc_wp (hm_LX_skipGaps_L86 G S o) F → hg_G X l (hg_rm 0 0 Z) D 3 S 86 [(0, va_rf (some o))] [] := by
    intro S  h
    delta hm_LX_skipGaps_L86 at h
    exact hg_vret (pc := 86) hC hR (hF _ (dc_some h)) (show decode prog_5_method_6_code 86 = .ok (.return_, 1) by decide +kernel)
  have lab_72 : ∀ (S : hg_S), dc_wp (hm_LX_skipGaps_L72 G S o) F → hg_G X l (hg_rm 0 0 Z) D 3 S 72 [(0, va_rf (some o))] [] := by
    intro S  h
    delta hm_LX_skipGaps_L72 at h
    exact hg_vret (pc := 72) hC hR (hF _ (dc_some h)) (show decode prog_5_method_6_code 72 = .ok (.return_, 1) by decide +kernel)
  have loop_2 : ∀ (q : hg_S × Int32), dc_wp (dc_it (hm_LX_skipGaps_s2 G o) q) (fun z => dc_wp ((Sum.elim (fun (z : hg_S) => hm_LX_skipGaps_L72 G z o) (fun (z : hg_S) => hm_LX_skipGaps_L86 G z o)) z) F) → hg_G X l (hg_rm 0 0 Z) D 3 q.1 2 [(0, va_rf (some o)), (1, .int q.2)] [] := by
    refine dc_loopF ?_
    intro F_2 hl_2 hr_2
    have lab_73 : ∀ (S : hg_S) (x1 : Int32), dc_wp (hm_LX_skipGaps_L73 G S o x1) F_2 → hg_G X l (hg_rm 0 0 Z) D 3 S 73 [(0, va_rf (some o)), (1, .int x1)] [] := by
      intro S x1 h
      delta hm_LX_skipGaps_L73 at h
      refine hg_aloadn (pc := 73) (j := 0) (i := 0) (r := (some o)) hC 0 rfl rfl (show decode prog_5_method_6_code 73 = .ok (.aload_n 0, 1) by decide +kernel) ?_
      refine hg_dup (pc := 74) hC (show decode prog_5_method_6_code 74 = .ok (.dup, 1) by decide +kernel) rfl ?_
      refine hg_rgi (pc := 75) (r := (some o)) hC fl_SignalEngine_Lexer_46 (show decode prog_5_method_6_code 75 = .ok (.getfield 46, 3) by decide +kernel) h ?_
      intro e1 h
      refine hg_iconst (pc := 78) (v := 1) hC (show decode prog_5_method_6_code 78 = .ok (.iconst 1, 1) by decide +kernel) (by decide +kernel) ?_
      refine hg_iadd (pc := 79) hC (show decode prog_5_method_6_code 79 = .ok (.iadd, 1) by decide +kernel) ?_
      refine hg_rput (pc := 80) (r := (some o)) (v := .int (e1 + 1)) hC fp_SignalEngine_Lexer_46 rfl rfl (show decode prog_5_method_6_code 80 = .ok (.putfield 46, 3) by decide +kernel) h ?_
      intro S2 h
      refine hg_goto (pc := 83) (tgt := 2) hC (show decode prog_5_method_6_code 83 = .ok (.goto (-81), 3) by decide +kernel) (by decide +kernel) ?_
      exact hl_2 (S2, x1) (dc_some h)
    rintro ⟨S, x1⟩ h
    have h : dc_wp (hm_LX_skipGaps_b2 G S o x1) F_2 := h
    delta hm_LX_skipGaps_b2 at h
    refine hg_aloadn (pc := 2) (j := 0) (i := 0) (r := (some o)) hC 0 rfl rfl (show decode prog_5_method_6_code 2 = .ok (.aload_n 0, 1) by decide +kernel) ?_
    refine hg_rgi (pc := 3) (r := (some o)) hC fl_SignalEngine_Lexer_46 (show decode prog_5_method_6_code 3 = .ok (.getfield 46, 3) by decide +kernel) h ?_
    intro e3 h
    refine hg_aloadn (pc := 6) (j := 0) (i := 0) (r := (some o)) hC 0 rfl rfl (show decode prog_5_method_6_code 6 = .ok (.aload_n 0, 1) by decide +kernel) ?_
    refine hg_rgr (pc := 7) (r := (some o)) hC fl_SignalEngine_Lexer_22 (show decode prog_5_method_6_code 7 = .ok (.getfield 22, 3) by decide +kernel) h ?_
    intro e4 h
    refine hg_rlen (pc := 10) (r := e4) (t := 1) hC rfl (show decode prog_5_method_6_code 10 = .ok (.arraylength, 1) by decide +kernel) h ?_
    intro e5 h
    refine hg_icmp_ge (pc := 11) (tgt := 86) hC (show decode prog_5_method_6_code 11 = .ok (.if_icmp .ge 75, 3) by decide +kernel) (by decide +kernel) h ?_ ?_
    · intro h
      refine hg_aloadn (pc := 14) (j := 0) (i := 0) (r := (some o)) hC 0 rfl rfl (show decode prog_5_method_6_code 14 = .ok (.aload_n 0, 1) by decide +kernel) ?_
      refine hg_rgr (pc := 15) (r := (some o)) hC fl_SignalEngine_Lexer_22 (show decode prog_5_method_6_code 15 = .ok (.getfield 22, 3) by decide +kernel) h ?_
      intro e6 h
      refine hg_aloadn (pc := 18) (j := 0) (i := 0) (r := (some o)) hC 0 rfl rfl (show decode prog_5_method_6_code 18 = .ok (.aload_n 0, 1) by decide +kernel) ?_
      refine hg_rgi (pc := 19) (r := (some o)) hC fl_SignalEngine_Lexer_46 (show decode prog_5_method_6_code 19 = .ok (.getfield 46, 3) by decide +kernel) h ?_
      intro e7 h
      refine hg_rbald (pc := 22) (r := e6) hC (show decode prog_5_method_6_code 22 = .ok (.baload, 1) by decide +kernel) h ?_
      intro e8 h
      refine hg_istoren (pc := 23) (j := 2) (i := 2) (lv' := [(2, .int e8), (0, va_rf (some o)), (1, .int x1)]) hC rfl (Nat.le_of_ble_eq_true rfl) rfl (show decode prog_5_method_6_code 23 = .ok (.istore_n 2, 1) by decide +kernel) ?_
      refine hg_iloadn (pc := 24) (j := 2) (i := 2) hC 0 rfl rfl (show decode prog_5_method_6_code 24 = .ok (.iload_n 2, 1) by decide +kernel) ?_
      refine hg_bipush (pc := 25) (v := 10) hC (show decode prog_5_method_6_code 25 = .ok (.bipush 10, 2) by decide +kernel) (by decide +kernel) ?_
      refine hg_icmp_ne (pc := 27) (tgt := 45) hC (show decode prog_5_method_6_code 27 = .ok (.if_icmp .ne 18, 3) by decide +kernel) (by decide +kernel) h ?_ ?_
      · intro h
        refine hg_aloadn (pc := 30) (j := 0) (i := 0) (r := (some o)) hC 1 rfl rfl (show decode prog_5_method_6_code 30 = .ok (.aload_n 0, 1) by decide +kernel) ?_
        refine hg_dup (pc := 31) hC (show decode prog_5_method_6_code 31 = .ok (.dup, 1) by decide +kernel) rfl ?_
        refine hg_rgi (pc := 32) (r := (some o)) hC fl_SignalEngine_Lexer_18 (show decode prog_5_method_6_code 32 = .ok (.getfield 18, 3) by decide +kernel) h ?_
        intro e9 h
        refine hg_iconst (pc := 35) (v := 1) hC (show decode prog_5_method_6_code 35 = .ok (.iconst 1, 1) by decide +kernel) (by decide +kernel) ?_
        refine hg_iadd (pc := 36) hC (show decode prog_5_method_6_code 36 = .ok (.iadd, 1) by decide +kernel) ?_
        refine hg_rput (pc := 37) (r := (some o)) (v := .int (e9 + 1)) hC fp_SignalEngine_Lexer_18 rfl rfl (show decode prog_5_method_6_code 37 = .ok (.putfield 18, 3) by decide +kernel) h ?_
        intro S10 h
        refine hg_iconst (pc := 40) (v := 0) hC (show decode prog_5_method_6_code 40 = .ok (.iconst 0, 1) by decide +kernel) (by decide +kernel) ?_
        refine hg_istoren (pc := 41) (j := 1) (i := 1) (lv' := [(1, .int 0), (2, .int e8), (0, va_rf (some o))]) hC rfl (Nat.le_of_ble_eq_true rfl) rfl (show decode prog_5_method_6_code 41 = .ok (.istore_n 1, 1) by decide +kernel) ?_
        refine hg_goto (pc := 42) (tgt := 73) hC (show decode prog_5_method_6_code 42 = .ok (.goto 31, 3) by decide +kernel) (by decide +kernel) ?_
        exact hg_sub [2, 0] rfl (lab_73 S10 0 h)
      · intro h
        refine hg_iloadn (pc := 45) (j := 2) (i := 2) hC 0 rfl rfl (show decode prog_5_method_6_code 45 = .ok (.iload_n 2, 1) by decide +kernel) ?_
        refine hg_bipush (pc := 46) (v := 37) hC (show decode prog_5_method_6_code 46 = .ok (.bipush 37, 2) by decide +kernel) (by decide +kernel) ?_
        refine hg_icmp_ne (pc := 48) (tgt := 56) hC (show decode prog_5_method_6_code 48 = .ok (.if_icmp .ne 8, 3) by decide +kernel) (by decide +kernel) h ?_ ?_
        · intro h
          refine hg_iconst (pc := 51) (v := 1) hC (show decode prog_5_method_6_code 51 = .ok (.iconst 1, 1) by decide +kernel) (by decide +kernel) ?_
          refine hg_istoren (pc := 52) (j := 1) (i := 1) (lv' := [(1, .int 1), (2, .int e8), (0, va_rf (some o))]) hC rfl (Nat.le_of_ble_eq_true rfl) rfl (show decode prog_5_method_6_code 52 = .ok (.istore_n 1, 1) by decide +kernel) ?_
          refine hg_goto (pc := 53) (tgt := 73) hC (show decode prog_5_method_6_code 53 = .ok (.goto 20, 3) by decide +kernel) (by decide +kernel) ?_
          exact hg_sub [2, 0] rfl (lab_73 S 1 h)
        · intro h
          refine hg_iloadn (pc := 56) (j := 1) (i := 1) hC 2 rfl rfl (show decode prog_5_method_6_code 56 = .ok (.iload_n 1, 1) by decide +kernel) ?_
          refine hg_if_ne (pc := 57) (tgt := 73) hC (show decode prog_5_method_6_code 57 = .ok (.ifCond .ne 16, 3) by decide +kernel) (by decide +kernel) h ?_ ?_
          · intro h
            refine hg_iloadn (pc := 60) (j := 2) (i := 2) hC 0 rfl rfl (show decode prog_5_method_6_code 60 = .ok (.iload_n 2, 1) by decide +kernel) ?_
            refine hg_bipush (pc := 61) (v := 9) hC (show decode prog_5_method_6_code 61 = .ok (.bipush 9, 2) by decide +kernel) (by decide +kernel) ?_
            refine hg_icmp_eq (pc := 63) (tgt := 73) hC (show decode prog_5_method_6_code 63 = .ok (.if_icmp .eq 10, 3) by decide +kernel) (by decide +kernel) h ?_ ?_
            · intro h
              exact hg_sub [1, 2] rfl (lab_73 S x1 h)
            · intro h
              refine hg_iloadn (pc := 66) (j := 2) (i := 2) hC 0 rfl rfl (show decode prog_5_method_6_code 66 = .ok (.iload_n 2, 1) by decide +kernel) ?_
              refine hg_bipush (pc := 67) (v := 32) hC (show decode prog_5_method_6_code 67 = .ok (.bipush 32, 2) by decide +kernel) (by decide +kernel) ?_
              refine hg_icmp_eq (pc := 69) (tgt := 73) hC (show decode prog_5_method_6_code 69 = .ok (.if_icmp .eq 4, 3) by decide +kernel) (by decide +kernel) h ?_ ?_
              · intro h
                exact hg_sub [1, 2] rfl (lab_73 S x1 h)
              · intro h
                have h : dc_wp (hm_LX_skipGaps_L72 G S o) F := hr_2 (.inl S) (dc_some h)
                exact hg_sub [1] rfl (lab_72 S h)
          · intro h
            exact hg_sub [1, 2] rfl (lab_73 S x1 h)
    · intro h
      have h : dc_wp (hm_LX_skipGaps_L86 G S o) F := hr_2 (.inr S) (dc_some h)
      exact hg_sub [0] rfl (lab_86 S h)
  have lab_2 : ∀ (S : hg_S) (x1 : Int32), dc_wp (hm_LX_skipGaps_L2 G S o x1) F → hg_G X l (hg_rm 0 0 Z) D 3 S 2 [(0, va_rf (some o)), (1, .int x1)] [] := fun S x1 h => loop_2  (S, x1) (dc_bind h)
  show hg_G X l (hg_rm 0 0 Z) D 3 Z 0 [(0, va_rf (some o))] []
  have h : dc_wp (hm_LX_skipGaps G Z o) F := h
  delta hm_LX_skipGaps at h
  refine hg_iconst (pc := 0) (v := 0) hC (show decode prog_5_method_6_code 0 = .ok (.iconst 0, 1) by decide +kernel) (by decide +kernel) ?_
  refine hg_istoren (pc := 1) (j := 1) (i := 1) (lv' := [(1, .int 0), (0, va_rf (some o))]) hC rfl (Nat.le_of_ble_eq_true rfl) rfl (show decode prog_5_method_6_code 1 = .ok (.istore_n 1, 1) by decide +kernel) ?_
  exact hg_sub [1, 0] rfl (lab_2 Z 0 h)
noncomputable def hm_LX_isInWord_L47 (G : hg_E) (S : hg_S) (y0 : Int32) : Option (Int32) :=
  (dc_zb y0).bind fun _ => some y0
noncomputable def hm_LX_isInWord_L42 (G : hg_E) (S : hg_S) : Option (Int32) :=
  hm_LX_isInWord_L47 G S 1
noncomputable def hm_LX_isInWord_L36 (G : hg_E) (S : hg_S) (x0 : Int32) : Option (Int32) :=
  if x0 = 95 then (hm_LX_isInWord_L42 G S) else (hm_LX_isInWord_L47 G S 0)
noncomputable def hm_LX_isInWord_L24 (G : hg_E) (S : hg_S) (x0 : Int32) : Option (Int32) :=
  if x0 < 48 then (hm_LX_isInWord_L36 G S x0) else (if (57 : Int32) < x0 then (hm_LX_isInWord_L36 G S x0) else (hm_LX_isInWord_L42 G S))
noncomputable def hm_LX_isInWord_L12 (G : hg_E) (S : hg_S) (x0 : Int32) : Option (Int32) :=
  if x0 < 65 then (hm_LX_isInWord_L24 G S x0) else (if (90 : Int32) < x0 then (hm_LX_isInWord_L24 G S x0) else (hm_LX_isInWord_L42 G S))
noncomputable def hm_LX_isInWord (G : hg_E) (S : hg_S) (p0 : Int32) : Option (Int32) :=
  if p0 < 97 then (hm_LX_isInWord_L12 G S p0) else (if (122 : Int32) < p0 then (hm_LX_isInWord_L12 G S p0) else (hm_LX_isInWord_L42 G S))
set_option maxHeartbeats 4000000 in
set_option maxRecDepth 100000 in
/-- SignalEngine$Lexer.isInWord(I)Z -/
theorem hm_LX_isInWord_ok (l : Launch) (D : va_G) (G : hg_E) (Z : hg_S) (p0 : Int32) (q : Int32) (hq : hm_LX_isInWord G Z p0 = some q) : hg_C l ⟨"SignalEngine$Lexer", "isInWord", "(I)Z"⟩ prog_5_method_7_code 1 (some (.boolean)) 0 0 D G [.int p0] Z (.inl (some (.int q), Z) : hg_O) := by
  refine hg_start (cv := fun q => (.inl (some (.int q), Z) : hg_O)) hq ?_
  intro F hF h
  refine hg_enter (lv := [(0, .int p0)]) (by decide +kernel) (by simp [lg_sl, va_rf_cat, hg_cti, hg_ctr]) (by simp [lv_args, va_rf_cat, va_rf_some, hg_cti, hg_ctr]) ?_
  intro X hC hR
  have lab_47 : ∀ (y0 : Int32), dc_wp (hm_LX_isInWord_L47 G Z y0) F → hg_G X l (hg_rm 0 0 Z) D 1 Z 47 [] [.int y0] := by
    intro y0 h
    delta hm_LX_isInWord_L47 at h
    obtain ⟨hz1, h⟩ := dc_zb_wp (dc_bind h)
    exact hg_zret (pc := 47) hC hR hz1 (hF _ (dc_some h)) (show decode prog_5_method_7_code 47 = .ok (.ireturn, 1) by decide +kernel)
  have lab_42 : dc_wp (hm_LX_isInWord_L42 G Z) F → hg_G X l (hg_rm 0 0 Z) D 1 Z 42 [] [] := by
    intro  h
    delta hm_LX_isInWord_L42 at h
    refine hg_iconst (pc := 42) (v := 1) hC (show decode prog_5_method_7_code 42 = .ok (.iconst 1, 1) by decide +kernel) (by decide +kernel) ?_
    refine hg_goto (pc := 43) (tgt := 47) hC (show decode prog_5_method_7_code 43 = .ok (.goto 4, 3) by decide +kernel) (by decide +kernel) ?_
    exact lab_47 1 h
  have lab_36 : ∀ (x0 : Int32), dc_wp (hm_LX_isInWord_L36 G Z x0) F → hg_G X l (hg_rm 0 0 Z) D 1 Z 36 [(0, .int x0)] [] := by
    intro x0 h
    delta hm_LX_isInWord_L36 at h
    refine hg_iloadn (pc := 36) (j := 0) (i := 0) hC 0 rfl rfl (show decode prog_5_method_7_code 36 = .ok (.iload_n 0, 1) by decide +kernel) ?_
    refine hg_bipush (pc := 37) (v := 95) hC (show decode prog_5_method_7_code 37 = .ok (.bipush 95, 2) by decide +kernel) (by decide +kernel) ?_
    refine hg_icmp_ne (pc := 39) (tgt := 46) hC (show decode prog_5_method_7_code 39 = .ok (.if_icmp .ne 7, 3) by decide +kernel) (by decide +kernel) h ?_ ?_
    · intro h
      exact hg_sub [] rfl (lab_42 h)
    · intro h
      refine hg_iconst (pc := 46) (v := 0) hC (show decode prog_5_method_7_code 46 = .ok (.iconst 0, 1) by decide +kernel) (by decide +kernel) ?_
      exact hg_sub [] rfl (lab_47 0 h)
  have lab_24 : ∀ (x0 : Int32), dc_wp (hm_LX_isInWord_L24 G Z x0) F → hg_G X l (hg_rm 0 0 Z) D 1 Z 24 [(0, .int x0)] [] := by
    intro x0 h
    delta hm_LX_isInWord_L24 at h
    refine hg_iloadn (pc := 24) (j := 0) (i := 0) hC 0 rfl rfl (show decode prog_5_method_7_code 24 = .ok (.iload_n 0, 1) by decide +kernel) ?_
    refine hg_bipush (pc := 25) (v := 48) hC (show decode prog_5_method_7_code 25 = .ok (.bipush 48, 2) by decide +kernel) (by decide +kernel) ?_
    refine hg_icmp_lt (pc := 27) (tgt := 36) hC (show decode prog_5_method_7_code 27 = .ok (.if_icmp .lt 9, 3) by decide +kernel) (by decide +kernel) h ?_ ?_
    · intro h
      exact lab_36 x0 h
    · intro h
      refine hg_iloadn (pc := 30) (j := 0) (i := 0) hC 0 rfl rfl (show decode prog_5_method_7_code 30 = .ok (.iload_n 0, 1) by decide +kernel) ?_
      refine hg_bipush (pc := 31) (v := 57) hC (show decode prog_5_method_7_code 31 = .ok (.bipush 57, 2) by decide +kernel) (by decide +kernel) ?_
      refine hg_icmp_le (pc := 33) (tgt := 42) hC (show decode prog_5_method_7_code 33 = .ok (.if_icmp .le 9, 3) by decide +kernel) (by decide +kernel) h ?_ ?_
      · intro h
        exact lab_36 x0 h
      · intro h
        exact hg_sub [] rfl (lab_42 h)
  have lab_12 : ∀ (x0 : Int32), dc_wp (hm_LX_isInWord_L12 G Z x0) F → hg_G X l (hg_rm 0 0 Z) D 1 Z 12 [(0, .int x0)] [] := by
    intro x0 h
    delta hm_LX_isInWord_L12 at h
    refine hg_iloadn (pc := 12) (j := 0) (i := 0) hC 0 rfl rfl (show decode prog_5_method_7_code 12 = .ok (.iload_n 0, 1) by decide +kernel) ?_
    refine hg_bipush (pc := 13) (v := 65) hC (show decode prog_5_method_7_code 13 = .ok (.bipush 65, 2) by decide +kernel) (by decide +kernel) ?_
    refine hg_icmp_lt (pc := 15) (tgt := 24) hC (show decode prog_5_method_7_code 15 = .ok (.if_icmp .lt 9, 3) by decide +kernel) (by decide +kernel) h ?_ ?_
    · intro h
      exact lab_24 x0 h
    · intro h
      refine hg_iloadn (pc := 18) (j := 0) (i := 0) hC 0 rfl rfl (show decode prog_5_method_7_code 18 = .ok (.iload_n 0, 1) by decide +kernel) ?_
      refine hg_bipush (pc := 19) (v := 90) hC (show decode prog_5_method_7_code 19 = .ok (.bipush 90, 2) by decide +kernel) (by decide +kernel) ?_
      refine hg_icmp_le (pc := 21) (tgt := 42) hC (show decode prog_5_method_7_code 21 = .ok (.if_icmp .le 21, 3) by decide +kernel) (by decide +kernel) h ?_ ?_
      · intro h
        exact lab_24 x0 h
      · intro h
        exact hg_sub [] rfl (lab_42 h)
  show hg_G X l (hg_rm 0 0 Z) D 1 Z 0 [(0, .int p0)] []
  have h : dc_wp (hm_LX_isInWord G Z p0) F := h
  delta hm_LX_isInWord at h
  refine hg_iloadn (pc := 0) (j := 0) (i := 0) hC 0 rfl rfl (show decode prog_5_method_7_code 0 = .ok (.iload_n 0, 1) by decide +kernel) ?_
  refine hg_bipush (pc := 1) (v := 97) hC (show decode prog_5_method_7_code 1 = .ok (.bipush 97, 2) by decide +kernel) (by decide +kernel) ?_
  refine hg_icmp_lt (pc := 3) (tgt := 12) hC (show decode prog_5_method_7_code 3 = .ok (.if_icmp .lt 9, 3) by decide +kernel) (by decide +kernel) h ?_ ?_
  · intro h
    exact lab_12 p0 h
  · intro h
    refine hg_iloadn (pc := 6) (j := 0) (i := 0) hC 0 rfl rfl (show decode prog_5_method_7_code 6 = .ok (.iload_n 0, 1) by decide +kernel) ?_
    refine hg_bipush (pc := 7) (v := 122) hC (show decode prog_5_method_7_code 7 = .ok (.bipush 122, 2) by decide +kernel) (by decide +kernel) ?_
    refine hg_icmp_le (pc := 9) (tgt := 42) hC (show decode prog_5_method_7_code 9 = .ok (.if_icmp .le 33, 3) by decide +kernel) (by decide +kernel) h ?_ ?_
    · intro h
      exact lab_12 p0 h
    · intro h
      exact hg_sub [] rfl (lab_42 h)
noncomputable def hm_LX_startsBars_L49 (G : hg_E) (S : hg_S) (o : Nat) (y0 : Int32) : Option (Int32) :=
  (dc_zb y0).bind fun _ => some y0
noncomputable def hm_LX_startsBars_L48 (G : hg_E) (S : hg_S) (o : Nat) : Option (Int32) :=
  hm_LX_startsBars_L49 G S o 0
noncomputable def hm_LX_startsBars (G : hg_E) (S : hg_S) (o : Nat) : Option (Int32) :=
  (hg_gr S (some o) 2 0).bind fun e2 => (hg_gi S (some o) 2 2).bind fun e3 => (hg_ld S e2 (G.1 1) e3).bind fun e4 => if e4 = 124 then ((hg_gi S (some o) 2 2).bind fun e5 => (hg_gr S (some o) 2 0).bind fun e6 => (hg_ln S e6 (G.1 1)).bind fun e7 => if (e5 + 1) < e7 then ((hg_gr S (some o) 2 0).bind fun e8 => (hg_gi S (some o) 2 2).bind fun e9 => (hg_ld S e8 (G.1 1) (e9 + 1)).bind fun e10 => if e10 = 124 then (hm_LX_startsBars_L49 G S o 1) else (hm_LX_startsBars_L48 G S o)) else (hm_LX_startsBars_L48 G S o)) else (hm_LX_startsBars_L48 G S o)
set_option maxHeartbeats 4000000 in
set_option maxRecDepth 100000 in
/-- SignalEngine$Lexer.startsBars()Z -/
theorem hm_LX_startsBars_ok (l : Launch) (D : va_G) (G : hg_E) (Z : hg_S) (o : Nat) (q : Int32) (hq : hm_LX_startsBars G Z o = some q) : hg_C l ⟨"SignalEngine$Lexer", "startsBars", "()Z"⟩ prog_5_method_9_code 1 (some (.boolean)) 0 0 D G [.ref o] Z (.inl (some (.int q), Z) : hg_O) := by
  refine hg_start (cv := fun q => (.inl (some (.int q), Z) : hg_O)) hq ?_
  intro F hF h
  refine hg_enter (lv := [(0, va_rf (some o))]) (by decide +kernel) (by simp [lg_sl, va_rf_cat, hg_cti, hg_ctr]) (by simp [lv_args, va_rf_cat, va_rf_some, hg_cti, hg_ctr]) ?_
  intro X hC hR
  have lab_49 : ∀ (y0 : Int32), dc_wp (hm_LX_startsBars_L49 G Z o y0) F → hg_G X l (hg_rm 0 0 Z) D 1 Z 49 [(0, va_rf (some o))] [.int y0] := by
    intro y0 h
    delta hm_LX_startsBars_L49 at h
    obtain ⟨hz1, h⟩ := dc_zb_wp (dc_bind h)
    exact hg_zret (pc := 49) hC hR hz1 (hF _ (dc_some h)) (show decode prog_5_method_9_code 49 = .ok (.ireturn, 1) by decide +kernel)
  have lab_48 : dc_wp (hm_LX_startsBars_L48 G Z o) F → hg_G X l (hg_rm 0 0 Z) D 1 Z 48 [(0, va_rf (some o))] [] := by
    intro  h
    delta hm_LX_startsBars_L48 at h
    refine hg_iconst (pc := 48) (v := 0) hC (show decode prog_5_method_9_code 48 = .ok (.iconst 0, 1) by decide +kernel) (by decide +kernel) ?_
    exact lab_49 0 h
  show hg_G X l (hg_rm 0 0 Z) D 1 Z 0 [(0, va_rf (some o))] []
  have h : dc_wp (hm_LX_startsBars G Z o) F := h
  delta hm_LX_startsBars at h
  refine hg_aloadn (pc := 0) (j := 0) (i := 0) (r := (some o)) hC 0 rfl rfl (show decode prog_5_method_9_code 0 = .ok (.aload_n 0, 1) by decide +kernel) ?_
  refine hg_rgr (pc := 1) (r := (some o)) hC fl_SignalEngine_Lexer_22 (show decode prog_5_method_9_code 1 = .ok (.getfield 22, 3) by decide +kernel) h ?_
  intro e2 h
  refine hg_aloadn (pc := 4) (j := 0) (i := 0) (r := (some o)) hC 0 rfl rfl (show decode prog_5_method_9_code 4 = .ok (.aload_n 0, 1) by decide +kernel) ?_
  refine hg_rgi (pc := 5) (r := (some o)) hC fl_SignalEngine_Lexer_49 (show decode prog_5_method_9_code 5 = .ok (.getfield 49, 3) by decide +kernel) h ?_
  intro e3 h
  refine hg_rbald (pc := 8) (r := e2) hC (show decode prog_5_method_9_code 8 = .ok (.baload, 1) by decide +kernel) h ?_
  intro e4 h
  refine hg_bipush (pc := 9) (v := 124) hC (show decode prog_5_method_9_code 9 = .ok (.bipush 124, 2) by decide +kernel) (by decide +kernel) ?_
  refine hg_icmp_ne (pc := 11) (tgt := 48) hC (show decode prog_5_method_9_code 11 = .ok (.if_icmp .ne 37, 3) by decide +kernel) (by decide +kernel) h ?_ ?_
  · intro h
    refine hg_aloadn (pc := 14) (j := 0) (i := 0) (r := (some o)) hC 0 rfl rfl (show decode prog_5_method_9_code 14 = .ok (.aload_n 0, 1) by decide +kernel) ?_
    refine hg_rgi (pc := 15) (r := (some o)) hC fl_SignalEngine_Lexer_49 (show decode prog_5_method_9_code 15 = .ok (.getfield 49, 3) by decide +kernel) h ?_
    intro e5 h
    refine hg_iconst (pc := 18) (v := 1) hC (show decode prog_5_method_9_code 18 = .ok (.iconst 1, 1) by decide +kernel) (by decide +kernel) ?_
    refine hg_iadd (pc := 19) hC (show decode prog_5_method_9_code 19 = .ok (.iadd, 1) by decide +kernel) ?_
    refine hg_aloadn (pc := 20) (j := 0) (i := 0) (r := (some o)) hC 0 rfl rfl (show decode prog_5_method_9_code 20 = .ok (.aload_n 0, 1) by decide +kernel) ?_
    refine hg_rgr (pc := 21) (r := (some o)) hC fl_SignalEngine_Lexer_22 (show decode prog_5_method_9_code 21 = .ok (.getfield 22, 3) by decide +kernel) h ?_
    intro e6 h
    refine hg_rlen (pc := 24) (r := e6) (t := 1) hC rfl (show decode prog_5_method_9_code 24 = .ok (.arraylength, 1) by decide +kernel) h ?_
    intro e7 h
    refine hg_icmp_ge (pc := 25) (tgt := 48) hC (show decode prog_5_method_9_code 25 = .ok (.if_icmp .ge 23, 3) by decide +kernel) (by decide +kernel) h ?_ ?_
    · intro h
      refine hg_aloadn (pc := 28) (j := 0) (i := 0) (r := (some o)) hC 0 rfl rfl (show decode prog_5_method_9_code 28 = .ok (.aload_n 0, 1) by decide +kernel) ?_
      refine hg_rgr (pc := 29) (r := (some o)) hC fl_SignalEngine_Lexer_22 (show decode prog_5_method_9_code 29 = .ok (.getfield 22, 3) by decide +kernel) h ?_
      intro e8 h
      refine hg_aloadn (pc := 32) (j := 0) (i := 0) (r := (some o)) hC 0 rfl rfl (show decode prog_5_method_9_code 32 = .ok (.aload_n 0, 1) by decide +kernel) ?_
      refine hg_rgi (pc := 33) (r := (some o)) hC fl_SignalEngine_Lexer_49 (show decode prog_5_method_9_code 33 = .ok (.getfield 49, 3) by decide +kernel) h ?_
      intro e9 h
      refine hg_iconst (pc := 36) (v := 1) hC (show decode prog_5_method_9_code 36 = .ok (.iconst 1, 1) by decide +kernel) (by decide +kernel) ?_
      refine hg_iadd (pc := 37) hC (show decode prog_5_method_9_code 37 = .ok (.iadd, 1) by decide +kernel) ?_
      refine hg_rbald (pc := 38) (r := e8) hC (show decode prog_5_method_9_code 38 = .ok (.baload, 1) by decide +kernel) h ?_
      intro e10 h
      refine hg_bipush (pc := 39) (v := 124) hC (show decode prog_5_method_9_code 39 = .ok (.bipush 124, 2) by decide +kernel) (by decide +kernel) ?_
      refine hg_icmp_ne (pc := 41) (tgt := 48) hC (show decode prog_5_method_9_code 41 = .ok (.if_icmp .ne 7, 3) by decide +kernel) (by decide +kernel) h ?_ ?_
      · intro h
        refine hg_iconst (pc := 44) (v := 1) hC (show decode prog_5_method_9_code 44 = .ok (.iconst 1, 1) by decide +kernel) (by decide +kernel) ?_
        refine hg_goto (pc := 45) (tgt := 49) hC (show decode prog_5_method_9_code 45 = .ok (.goto 4, 3) by decide +kernel) (by decide +kernel) ?_
        exact lab_49 1 h
      · intro h
        exact lab_48 h
    · intro h
      exact lab_48 h
  · intro h
    exact lab_48 h
noncomputable def hm_LX_isName_L47 (G : hg_E) (S : hg_S) (o : Nat) (y0 : Int32) : Option (Int32) :=
  (dc_zb y0).bind fun _ => some y0
noncomputable def hm_LX_isName_L46 (G : hg_E) (S : hg_S) (o : Nat) : Option (Int32) :=
  hm_LX_isName_L47 G S o 0
noncomputable def hm_LX_isName (G : hg_E) (S : hg_S) (o : Nat) : Option (Int32) :=
  (hg_gr S (some o) 2 0).bind fun e2 => (hg_gi S (some o) 2 2).bind fun e3 => (hg_ld S e2 (G.1 1) e3).bind fun e4 => if (57 : Int32) < e4 then ((hg_gr S (some o) 2 0).bind fun e5 => (hg_gi S (some o) 2 2).bind fun e6 => (hg_ld S e5 (G.1 1) e6).bind fun e7 => if e7 = 95 then (hm_LX_isName_L46 G S o) else ((hg_gi S (some o) 2 3).bind fun e8 => (hg_gi S (some o) 2 2).bind fun e9 => if (31 : Int32) < (e8 - e9) then (hm_LX_isName_L46 G S o) else (hm_LX_isName_L47 G S o 1))) else (hm_LX_isName_L46 G S o)
set_option maxHeartbeats 4000000 in
set_option maxRecDepth 100000 in
/-- SignalEngine$Lexer.isName()Z -/
theorem hm_LX_isName_ok (l : Launch) (D : va_G) (G : hg_E) (Z : hg_S) (o : Nat) (q : Int32) (hq : hm_LX_isName G Z o = some q) : hg_C l ⟨"SignalEngine$Lexer", "isName", "()Z"⟩ prog_5_method_8_code 1 (some (.boolean)) 0 0 D G [.ref o] Z (.inl (some (.int q), Z) : hg_O) := by
  refine hg_start (cv := fun q => (.inl (some (.int q), Z) : hg_O)) hq ?_
  intro F hF h
  refine hg_enter (lv := [(0, va_rf (some o))]) (by decide +kernel) (by simp [lg_sl, va_rf_cat, hg_cti, hg_ctr]) (by simp [lv_args, va_rf_cat, va_rf_some, hg_cti, hg_ctr]) ?_
  intro X hC hR
  have lab_47 : ∀ (y0 : Int32), dc_wp (hm_LX_isName_L47 G Z o y0) F → hg_G X l (hg_rm 0 0 Z) D 1 Z 47 [(0, va_rf (some o))] [.int y0] := by
    intro y0 h
    delta hm_LX_isName_L47 at h
    obtain ⟨hz1, h⟩ := dc_zb_wp (dc_bind h)
    exact hg_zret (pc := 47) hC hR hz1 (hF _ (dc_some h)) (show decode prog_5_method_8_code 47 = .ok (.ireturn, 1) by decide +kernel)
  have lab_46 : dc_wp (hm_LX_isName_L46 G Z o) F → hg_G X l (hg_rm 0 0 Z) D 1 Z 46 [(0, va_rf (some o))] [] := by
    intro  h
    delta hm_LX_isName_L46 at h
    refine hg_iconst (pc := 46) (v := 0) hC (show decode prog_5_method_8_code 46 = .ok (.iconst 0, 1) by decide +kernel) (by decide +kernel) ?_
    exact lab_47 0 h
  show hg_G X l (hg_rm 0 0 Z) D 1 Z 0 [(0, va_rf (some o))] []
  have h : dc_wp (hm_LX_isName G Z o) F := h
  delta hm_LX_isName at h
  refine hg_aloadn (pc := 0) (j := 0) (i := 0) (r := (some o)) hC 0 rfl rfl (show decode prog_5_method_8_code 0 = .ok (.aload_n 0, 1) by decide +kernel) ?_
  refine hg_rgr (pc := 1) (r := (some o)) hC fl_SignalEngine_Lexer_22 (show decode prog_5_method_8_code 1 = .ok (.getfield 22, 3) by decide +kernel) h ?_
  intro e2 h
  refine hg_aloadn (pc := 4) (j := 0) (i := 0) (r := (some o)) hC 0 rfl rfl (show decode prog_5_method_8_code 4 = .ok (.aload_n 0, 1) by decide +kernel) ?_
  refine hg_rgi (pc := 5) (r := (some o)) hC fl_SignalEngine_Lexer_49 (show decode prog_5_method_8_code 5 = .ok (.getfield 49, 3) by decide +kernel) h ?_
  intro e3 h
  refine hg_rbald (pc := 8) (r := e2) hC (show decode prog_5_method_8_code 8 = .ok (.baload, 1) by decide +kernel) h ?_
  intro e4 h
  refine hg_bipush (pc := 9) (v := 57) hC (show decode prog_5_method_8_code 9 = .ok (.bipush 57, 2) by decide +kernel) (by decide +kernel) ?_
  refine hg_icmp_le (pc := 11) (tgt := 46) hC (show decode prog_5_method_8_code 11 = .ok (.if_icmp .le 35, 3) by decide +kernel) (by decide +kernel) h ?_ ?_
  · intro h
    refine hg_aloadn (pc := 14) (j := 0) (i := 0) (r := (some o)) hC 0 rfl rfl (show decode prog_5_method_8_code 14 = .ok (.aload_n 0, 1) by decide +kernel) ?_
    refine hg_rgr (pc := 15) (r := (some o)) hC fl_SignalEngine_Lexer_22 (show decode prog_5_method_8_code 15 = .ok (.getfield 22, 3) by decide +kernel) h ?_
    intro e5 h
    refine hg_aloadn (pc := 18) (j := 0) (i := 0) (r := (some o)) hC 0 rfl rfl (show decode prog_5_method_8_code 18 = .ok (.aload_n 0, 1) by decide +kernel) ?_
    refine hg_rgi (pc := 19) (r := (some o)) hC fl_SignalEngine_Lexer_49 (show decode prog_5_method_8_code 19 = .ok (.getfield 49, 3) by decide +kernel) h ?_
    intro e6 h
    refine hg_rbald (pc := 22) (r := e5) hC (show decode prog_5_method_8_code 22 = .ok (.baload, 1) by decide +kernel) h ?_
    intro e7 h
    refine hg_bipush (pc := 23) (v := 95) hC (show decode prog_5_method_8_code 23 = .ok (.bipush 95, 2) by decide +kernel) (by decide +kernel) ?_
    refine hg_icmp_eq (pc := 25) (tgt := 46) hC (show decode prog_5_method_8_code 25 = .ok (.if_icmp .eq 21, 3) by decide +kernel) (by decide +kernel) h ?_ ?_
    · intro h
      exact lab_46 h
    · intro h
      refine hg_aloadn (pc := 28) (j := 0) (i := 0) (r := (some o)) hC 0 rfl rfl (show decode prog_5_method_8_code 28 = .ok (.aload_n 0, 1) by decide +kernel) ?_
      refine hg_rgi (pc := 29) (r := (some o)) hC fl_SignalEngine_Lexer_46 (show decode prog_5_method_8_code 29 = .ok (.getfield 46, 3) by decide +kernel) h ?_
      intro e8 h
      refine hg_aloadn (pc := 32) (j := 0) (i := 0) (r := (some o)) hC 0 rfl rfl (show decode prog_5_method_8_code 32 = .ok (.aload_n 0, 1) by decide +kernel) ?_
      refine hg_rgi (pc := 33) (r := (some o)) hC fl_SignalEngine_Lexer_49 (show decode prog_5_method_8_code 33 = .ok (.getfield 49, 3) by decide +kernel) h ?_
      intro e9 h
      refine hg_isub (pc := 36) hC (show decode prog_5_method_8_code 36 = .ok (.isub, 1) by decide +kernel) ?_
      refine hg_bipush (pc := 37) (v := 31) hC (show decode prog_5_method_8_code 37 = .ok (.bipush 31, 2) by decide +kernel) (by decide +kernel) ?_
      refine hg_icmp_gt (pc := 39) (tgt := 46) hC (show decode prog_5_method_8_code 39 = .ok (.if_icmp .gt 7, 3) by decide +kernel) (by decide +kernel) h ?_ ?_
      · intro h
        exact lab_46 h
      · intro h
        refine hg_iconst (pc := 42) (v := 1) hC (show decode prog_5_method_8_code 42 = .ok (.iconst 1, 1) by decide +kernel) (by decide +kernel) ?_
        refine hg_goto (pc := 43) (tgt := 47) hC (show decode prog_5_method_8_code 43 = .ok (.goto 4, 3) by decide +kernel) (by decide +kernel) ?_
        exact lab_47 1 h
  · intro h
    exact lab_46 h
noncomputable def hm_NM_reads_L67 (G : hg_E) (S : hg_S) (o : Nat) : Option (Int32) :=
  some 1
noncomputable def hm_NM_reads_L59 (G : hg_E) (S : hg_S) (o : Nat) : Option (Int32) :=
  some 0
noncomputable def hm_NM_reads_b22 (G : hg_E) (S : hg_S) (o : Nat) (x1 : Int32) (x2 : Option Nat) (x3 : Int32) : Option ((Int32) ⊕ ((Unit) ⊕ (Unit))) :=
  (hg_gr S (some o) 3 2).bind fun e1 => (hg_ld S e1 (G.1 0) x1).bind fun e2 => if x3 < e2 then ((hg_gr S (some o) 3 0).bind fun e3 => (hg_gr S (some o) 3 1).bind fun e4 => (hg_ld S e4 (G.1 0) x1).bind fun e5 => (hg_ld S e3 (G.1 1) (e5 + x3)).bind fun e6 => (hg_gr S (some o) 3 0).bind fun e7 => (hg_gi S x2 2 2).bind fun e8 => (hg_ld S e7 (G.1 1) (e8 + x3)).bind fun e9 => if e6 = e9 then (some (.inl (x3 + 1))) else (some (.inr (.inl ())))) else (some (.inr (.inr ())))
noncomputable def hm_NM_reads_s22 (G : hg_E) (S : hg_S) (o : Nat) (x1 : Int32) (x2 : Option Nat) (q : Int32) : Option ((Int32) ⊕ ((Unit) ⊕ (Unit))) :=
  hm_NM_reads_b22 G S o x1 x2 q
noncomputable def hm_NM_reads_L22 (G : hg_E) (S : hg_S) (o : Nat) (x1 : Int32) (x2 : Option Nat) (x3 : Int32) : Option (Int32) :=
  (dc_it (hm_NM_reads_s22 G S o x1 x2) x3).bind (Sum.elim (fun (z : Unit) => hm_NM_reads_L59 G S o) (fun (z : Unit) => hm_NM_reads_L67 G S o))
noncomputable def hm_NM_reads (G : hg_E) (S : hg_S) (o : Nat) (p1 : Int32) (p2 : Option Nat) : Option (Int32) :=
  (hg_gr S (some o) 3 2).bind fun e10 => (hg_ld S e10 (G.1 0) p1).bind fun e11 => (hg_gi S p2 2 3).bind fun e12 => (hg_gi S p2 2 2).bind fun e13 => if e11 = (e12 - e13) then (hm_NM_reads_L22 G S o p1 p2 0) else (some 0)
set_option maxHeartbeats 4000000 in
set_option maxRecDepth 100000 in
/-- SignalEngine$Names.reads(ILSignalEngine$Lexer;)Z -/
theorem hm_NM_reads_ok (l : Launch) (D : va_G) (G : hg_E) (Z : hg_S) (o : Nat) (p1 : Int32) (p2 : Option Nat) (q : Int32) (hq : hm_NM_reads G Z o p1 p2 = some q) : hg_C l ⟨"SignalEngine$Names", "reads", "(ILSignalEngine$Lexer;)Z"⟩ prog_6_method_5_code 4 (some (.boolean)) 0 0 D G [.ref o, .int p1, va_rf p2] Z (.inl (some (.int q), Z) : hg_O) := by
  refine hg_start (cv := fun q => (.inl (some (.int q), Z) : hg_O)) hq ?_
  intro F hF h
  refine hg_enter (lv := [(0, va_rf (some o)), (1, .int p1), (2, va_rf p2)]) (by decide +kernel) (by simp [lg_sl, va_rf_cat, hg_cti, hg_ctr]) (by simp [lv_args, va_rf_cat, va_rf_some, hg_cti, hg_ctr]) ?_
  intro X hC hR
  have lab_67 : dc_wp (hm_NM_reads_L67 G Z o) F → hg_G X l (hg_rm 0 0 Z) D 4 Z 67 [(0, va_rf (some o))] [] := by
    intro  h
    delta hm_NM_reads_L67 at h
    refine hg_iconst (pc := 67) (v := 1) hC (show decode prog_6_method_5_code 67 = .ok (.iconst 1, 1) by decide +kernel) (by decide +kernel) ?_
    exact hg_zret (pc := 68) hC hR (Or.inr rfl) (hF _ (dc_some h)) (show decode prog_6_method_5_code 68 = .ok (.ireturn, 1) by decide +kernel)
  have lab_59 : dc_wp (hm_NM_reads_L59 G Z o) F → hg_G X l (hg_rm 0 0 Z) D 4 Z 59 [(0, va_rf (some o))] [] := by
    intro  h
    delta hm_NM_reads_L59 at h
    refine hg_iconst (pc := 59) (v := 0) hC (show decode prog_6_method_5_code 59 = .ok (.iconst 0, 1) by decide +kernel) (by decide +kernel) ?_
    exact hg_zret (pc := 60) hC hR (Or.inl rfl) (hF _ (dc_some h)) (show decode prog_6_method_5_code 60 = .ok (.ireturn, 1) by decide +kernel)
  have loop_22 : ∀ (x1 : Int32) (x2 : Option Nat) (q : Int32), dc_wp (dc_it (hm_NM_reads_s22 G Z o x1 x2) q) (fun z => dc_wp ((Sum.elim (fun (z : Unit) => hm_NM_reads_L59 G Z o) (fun (z : Unit) => hm_NM_reads_L67 G Z o)) z) F) → hg_G X l (hg_rm 0 0 Z) D 4 Z 22 [(0, va_rf (some o)), (1, .int x1), (2, va_rf x2), (3, .int q)] [] := by
    intro x1 x2
    refine dc_loopF ?_
    intro F_22 hl_22 hr_22
    rintro x3 h
    have h : dc_wp (hm_NM_reads_b22 G Z o x1 x2 x3) F_22 := h
    delta hm_NM_reads_b22 at h
    refine hg_iloadn (pc := 22) (j := 3) (i := 3) hC 3 rfl rfl (show decode prog_6_method_5_code 22 = .ok (.iload_n 3, 1) by decide +kernel) ?_
    refine hg_aloadn (pc := 23) (j := 0) (i := 0) (r := (some o)) hC 0 rfl rfl (show decode prog_6_method_5_code 23 = .ok (.aload_n 0, 1) by decide +kernel) ?_
    refine hg_rgr (pc := 24) (r := (some o)) hC fl_SignalEngine_Names_15 (show decode prog_6_method_5_code 24 = .ok (.getfield 15, 3) by decide +kernel) h ?_
    intro e1 h
    refine hg_iloadn (pc := 27) (j := 1) (i := 1) hC 1 rfl rfl (show decode prog_6_method_5_code 27 = .ok (.iload_n 1, 1) by decide +kernel) ?_
    refine hg_riald (pc := 28) (r := e1) hC (show decode prog_6_method_5_code 28 = .ok (.iaload, 1) by decide +kernel) h ?_
    intro e2 h
    refine hg_icmp_ge (pc := 29) (tgt := 67) hC (show decode prog_6_method_5_code 29 = .ok (.if_icmp .ge 38, 3) by decide +kernel) (by decide +kernel) h ?_ ?_
    · intro h
      refine hg_aloadn (pc := 32) (j := 0) (i := 0) (r := (some o)) hC 0 rfl rfl (show decode prog_6_method_5_code 32 = .ok (.aload_n 0, 1) by decide +kernel) ?_
      refine hg_rgr (pc := 33) (r := (some o)) hC fl_SignalEngine_Names_21 (show decode prog_6_method_5_code 33 = .ok (.getfield 21, 3) by decide +kernel) h ?_
      intro e3 h
      refine hg_aloadn (pc := 36) (j := 0) (i := 0) (r := (some o)) hC 0 rfl rfl (show decode prog_6_method_5_code 36 = .ok (.aload_n 0, 1) by decide +kernel) ?_
      refine hg_rgr (pc := 37) (r := (some o)) hC fl_SignalEngine_Names_9 (show decode prog_6_method_5_code 37 = .ok (.getfield 9, 3) by decide +kernel) h ?_
      intro e4 h
      refine hg_iloadn (pc := 40) (j := 1) (i := 1) hC 1 rfl rfl (show decode prog_6_method_5_code 40 = .ok (.iload_n 1, 1) by decide +kernel) ?_
      refine hg_riald (pc := 41) (r := e4) hC (show decode prog_6_method_5_code 41 = .ok (.iaload, 1) by decide +kernel) h ?_
      intro e5 h
      refine hg_iloadn (pc := 42) (j := 3) (i := 3) hC 3 rfl rfl (show decode prog_6_method_5_code 42 = .ok (.iload_n 3, 1) by decide +kernel) ?_
      refine hg_iadd (pc := 43) hC (show decode prog_6_method_5_code 43 = .ok (.iadd, 1) by decide +kernel) ?_
      refine hg_rbald (pc := 44) (r := e3) hC (show decode prog_6_method_5_code 44 = .ok (.baload, 1) by decide +kernel) h ?_
      intro e6 h
      refine hg_aloadn (pc := 45) (j := 0) (i := 0) (r := (some o)) hC 0 rfl rfl (show decode prog_6_method_5_code 45 = .ok (.aload_n 0, 1) by decide +kernel) ?_
      refine hg_rgr (pc := 46) (r := (some o)) hC fl_SignalEngine_Names_21 (show decode prog_6_method_5_code 46 = .ok (.getfield 21, 3) by decide +kernel) h ?_
      intro e7 h
      refine hg_aloadn (pc := 49) (j := 2) (i := 2) (r := x2) hC 2 rfl rfl (show decode prog_6_method_5_code 49 = .ok (.aload_n 2, 1) by decide +kernel) ?_
      refine hg_rgi (pc := 50) (r := x2) hC fl_SignalEngine_Names_35 (show decode prog_6_method_5_code 50 = .ok (.getfield 35, 3) by decide +kernel) h ?_
      intro e8 h
      refine hg_iloadn (pc := 53) (j := 3) (i := 3) hC 3 rfl rfl (show decode prog_6_method_5_code 53 = .ok (.iload_n 3, 1) by decide +kernel) ?_
      refine hg_iadd (pc := 54) hC (show decode prog_6_method_5_code 54 = .ok (.iadd, 1) by decide +kernel) ?_
      refine hg_rbald (pc := 55) (r := e7) hC (show decode prog_6_method_5_code 55 = .ok (.baload, 1) by decide +kernel) h ?_
      intro e9 h
      refine hg_icmp_eq (pc := 56) (tgt := 61) hC (show decode prog_6_method_5_code 56 = .ok (.if_icmp .eq 5, 3) by decide +kernel) (by decide +kernel) h ?_ ?_
      · intro h
        refine hg_iinc (pc := 61) (i := 3) (v := (x3 + 1)) (lv' := [(3, .int (x3 + 1)), (0, va_rf (some o)), (1, .int x1), (2, va_rf x2)]) hC 3 rfl rfl (Nat.le_of_ble_eq_true rfl) (by simp [va_rf_cat, hg_cti]) (show decode prog_6_method_5_code 61 = .ok (.iinc 3 1, 3) by decide +kernel) ?_
        refine hg_goto (pc := 64) (tgt := 22) hC (show decode prog_6_method_5_code 64 = .ok (.goto (-42), 3) by decide +kernel) (by decide +kernel) ?_
        exact hg_sub [1, 2, 3, 0] rfl (hl_22 (x3 + 1) (dc_some h))
      · intro h
        have h : dc_wp (hm_NM_reads_L59 G Z o) F := hr_22 (.inl ()) (dc_some h)
        exact hg_sub [0] rfl (lab_59 h)
    · intro h
      have h : dc_wp (hm_NM_reads_L67 G Z o) F := hr_22 (.inr ()) (dc_some h)
      exact hg_sub [0] rfl (lab_67 h)
  have lab_22 : ∀ (x1 : Int32) (x2 : Option Nat) (x3 : Int32), dc_wp (hm_NM_reads_L22 G Z o x1 x2 x3) F → hg_G X l (hg_rm 0 0 Z) D 4 Z 22 [(0, va_rf (some o)), (1, .int x1), (2, va_rf x2), (3, .int x3)] [] := fun x1 x2 x3 h => loop_22 x1 x2 x3 (dc_bind h)
  show hg_G X l (hg_rm 0 0 Z) D 4 Z 0 [(0, va_rf (some o)), (1, .int p1), (2, va_rf p2)] []
  have h : dc_wp (hm_NM_reads G Z o p1 p2) F := h
  delta hm_NM_reads at h
  refine hg_aloadn (pc := 0) (j := 0) (i := 0) (r := (some o)) hC 0 rfl rfl (show decode prog_6_method_5_code 0 = .ok (.aload_n 0, 1) by decide +kernel) ?_
  refine hg_rgr (pc := 1) (r := (some o)) hC fl_SignalEngine_Names_15 (show decode prog_6_method_5_code 1 = .ok (.getfield 15, 3) by decide +kernel) h ?_
  intro e10 h
  refine hg_iloadn (pc := 4) (j := 1) (i := 1) hC 1 rfl rfl (show decode prog_6_method_5_code 4 = .ok (.iload_n 1, 1) by decide +kernel) ?_
  refine hg_riald (pc := 5) (r := e10) hC (show decode prog_6_method_5_code 5 = .ok (.iaload, 1) by decide +kernel) h ?_
  intro e11 h
  refine hg_aloadn (pc := 6) (j := 2) (i := 2) (r := p2) hC 2 rfl rfl (show decode prog_6_method_5_code 6 = .ok (.aload_n 2, 1) by decide +kernel) ?_
  refine hg_rgi (pc := 7) (r := p2) hC fl_SignalEngine_Names_39 (show decode prog_6_method_5_code 7 = .ok (.getfield 39, 3) by decide +kernel) h ?_
  intro e12 h
  refine hg_aloadn (pc := 10) (j := 2) (i := 2) (r := p2) hC 2 rfl rfl (show decode prog_6_method_5_code 10 = .ok (.aload_n 2, 1) by decide +kernel) ?_
  refine hg_rgi (pc := 11) (r := p2) hC fl_SignalEngine_Names_35 (show decode prog_6_method_5_code 11 = .ok (.getfield 35, 3) by decide +kernel) h ?_
  intro e13 h
  refine hg_isub (pc := 14) hC (show decode prog_6_method_5_code 14 = .ok (.isub, 1) by decide +kernel) ?_
  refine hg_icmp_eq (pc := 15) (tgt := 20) hC (show decode prog_6_method_5_code 15 = .ok (.if_icmp .eq 5, 3) by decide +kernel) (by decide +kernel) h ?_ ?_
  · intro h
    refine hg_iconst (pc := 20) (v := 0) hC (show decode prog_6_method_5_code 20 = .ok (.iconst 0, 1) by decide +kernel) (by decide +kernel) ?_
    refine hg_istoren (pc := 21) (j := 3) (i := 3) (lv' := [(3, .int 0), (0, va_rf (some o)), (1, .int p1), (2, va_rf p2)]) hC rfl (Nat.le_of_ble_eq_true rfl) (by simp [va_rf_cat, hg_cti]) (show decode prog_6_method_5_code 21 = .ok (.istore_n 3, 1) by decide +kernel) ?_
    exact hg_sub [1, 2, 3, 0] rfl (lab_22 p1 p2 0 h)
  · intro h
    refine hg_iconst (pc := 18) (v := 0) hC (show decode prog_6_method_5_code 18 = .ok (.iconst 0, 1) by decide +kernel) (by decide +kernel) ?_
    exact hg_zret (pc := 19) hC hR (Or.inl rfl) (hF _ (dc_some h)) (show decode prog_6_method_5_code 19 = .ok (.ireturn, 1) by decide +kernel)
noncomputable def hm_NM_hasSince_L27 (G : hg_E) (S : hg_S) (o : Nat) : Option (Int32) :=
  some 0
noncomputable def hm_NM_hasSince_L19 (G : hg_E) (S : hg_S) (o : Nat) : Option (Int32) :=
  some 1
noncomputable def hm_NM_hasSince_b2 (G : hg_E) (S : hg_S) (o : Nat) (x2 : Option Nat) (x3 : Int32) : Option ((Int32) ⊕ ((Unit) ⊕ (Unit))) :=
  (hg_gi S (some o) 3 4).bind fun e1 => if x3 < e1 then ((hg_chk S (some o) 3).bind fun b2 => (hm_NM_reads G S b2 x3 x2).bind fun q5 => if q5 = 0 then (some (.inl (x3 + 1))) else (some (.inr (.inl ())))) else (some (.inr (.inr ())))
noncomputable def hm_NM_hasSince_s2 (G : hg_E) (S : hg_S) (o : Nat) (x2 : Option Nat) (q : Int32) : Option ((Int32) ⊕ ((Unit) ⊕ (Unit))) :=
  hm_NM_hasSince_b2 G S o x2 q
noncomputable def hm_NM_hasSince_L2 (G : hg_E) (S : hg_S) (o : Nat) (x2 : Option Nat) (x3 : Int32) : Option (Int32) :=
  (dc_it (hm_NM_hasSince_s2 G S o x2) x3).bind (Sum.elim (fun (z : Unit) => hm_NM_hasSince_L19 G S o) (fun (z : Unit) => hm_NM_hasSince_L27 G S o))
noncomputable def hm_NM_hasSince (G : hg_E) (S : hg_S) (o : Nat) (p1 : Int32) (p2 : Option Nat) : Option (Int32) :=
  hm_NM_hasSince_L2 G S o p2 p1
set_option maxHeartbeats 4000000 in
set_option maxRecDepth 100000 in
/-- SignalEngine$Names.hasSince(ILSignalEngine$Lexer;)Z -/
theorem hm_NM_hasSince_ok (l : Launch) (D : va_G) (G : hg_E) (Z : hg_S) (o : Nat) (p1 : Int32) (p2 : Option Nat) (q : Int32) (hq : hm_NM_hasSince G Z o p1 p2 = some q) : hg_C l ⟨"SignalEngine$Names", "hasSince", "(ILSignalEngine$Lexer;)Z"⟩ prog_6_method_4_code 4 (some (.boolean)) 1 23 D G [.ref o, .int p1, va_rf p2] Z (.inl (some (.int q), Z) : hg_O) := by
  refine hg_start (cv := fun q => (.inl (some (.int q), Z) : hg_O)) hq ?_
  intro F hF h
  refine hg_enter (lv := [(0, va_rf (some o)), (1, .int p1), (2, va_rf p2)]) (by decide +kernel) (by simp [lg_sl, va_rf_cat, hg_cti, hg_ctr]) (by simp [lv_args, va_rf_cat, va_rf_some, hg_cti, hg_ctr]) ?_
  intro X hC hR
  have lab_27 : dc_wp (hm_NM_hasSince_L27 G Z o) F → hg_G X l (hg_rm 1 23 Z) D 4 Z 27 [(0, va_rf (some o))] [] := by
    intro  h
    delta hm_NM_hasSince_L27 at h
    refine hg_iconst (pc := 27) (v := 0) hC (show decode prog_6_method_4_code 27 = .ok (.iconst 0, 1) by decide +kernel) (by decide +kernel) ?_
    exact hg_zret (pc := 28) hC hR (Or.inl rfl) (hF _ (dc_some h)) (show decode prog_6_method_4_code 28 = .ok (.ireturn, 1) by decide +kernel)
  have lab_19 : dc_wp (hm_NM_hasSince_L19 G Z o) F → hg_G X l (hg_rm 1 23 Z) D 4 Z 19 [(0, va_rf (some o))] [] := by
    intro  h
    delta hm_NM_hasSince_L19 at h
    refine hg_iconst (pc := 19) (v := 1) hC (show decode prog_6_method_4_code 19 = .ok (.iconst 1, 1) by decide +kernel) (by decide +kernel) ?_
    exact hg_zret (pc := 20) hC hR (Or.inr rfl) (hF _ (dc_some h)) (show decode prog_6_method_4_code 20 = .ok (.ireturn, 1) by decide +kernel)
  have loop_2 : ∀ (x2 : Option Nat) (q : Int32), dc_wp (dc_it (hm_NM_hasSince_s2 G Z o x2) q) (fun z => dc_wp ((Sum.elim (fun (z : Unit) => hm_NM_hasSince_L19 G Z o) (fun (z : Unit) => hm_NM_hasSince_L27 G Z o)) z) F) → hg_G X l (hg_rm 1 23 Z) D 4 Z 2 [(0, va_rf (some o)), (2, va_rf x2), (3, .int q)] [] := by
    intro x2
    refine dc_loopF ?_
    intro F_2 hl_2 hr_2
    rintro x3 h
    have h : dc_wp (hm_NM_hasSince_b2 G Z o x2 x3) F_2 := h
    delta hm_NM_hasSince_b2 at h
    refine hg_iloadn (pc := 2) (j := 3) (i := 3) hC 2 rfl rfl (show decode prog_6_method_4_code 2 = .ok (.iload_n 3, 1) by decide +kernel) ?_
    refine hg_aloadn (pc := 3) (j := 0) (i := 0) (r := (some o)) hC 0 rfl rfl (show decode prog_6_method_4_code 3 = .ok (.aload_n 0, 1) by decide +kernel) ?_
    refine hg_rgi (pc := 4) (r := (some o)) hC fl_SignalEngine_Names_25 (show decode prog_6_method_4_code 4 = .ok (.getfield 25, 3) by decide +kernel) h ?_
    intro e1 h
    refine hg_icmp_ge (pc := 7) (tgt := 27) hC (show decode prog_6_method_4_code 7 = .ok (.if_icmp .ge 20, 3) by decide +kernel) (by decide +kernel) h ?_ ?_
    · intro h
      refine hg_aloadn (pc := 10) (j := 0) (i := 0) (r := (some o)) hC 0 rfl rfl (show decode prog_6_method_4_code 10 = .ok (.aload_n 0, 1) by decide +kernel) ?_
      refine hg_iloadn (pc := 11) (j := 3) (i := 3) hC 2 rfl rfl (show decode prog_6_method_4_code 11 = .ok (.iload_n 3, 1) by decide +kernel) ?_
      refine hg_aloadn (pc := 12) (j := 2) (i := 2) (r := x2) hC 1 rfl rfl (show decode prog_6_method_4_code 12 = .ok (.aload_n 2, 1) by decide +kernel) ?_
      obtain ⟨b2, hb3, h⟩ := dc_bind h
      obtain ⟨hb3, hv4⟩ := hg_chk_of (C := R_NM) rfl hb3
      refine hg_kVi (pc := 13) (b := b2) (r := (some o)) (As := [.int x3, va_rf x2]) (rest := []) (vo := fun q => q) (so := fun q => Z) hC cw_SignalEngine_Names_45 (fun q hq => hm_NM_reads_ok l D G Z b2 x3 x2 q hq) (Nat.le_of_ble_eq_true rfl) (Nat.le_of_ble_eq_true rfl) hb3 hv4 rfl (Nat.le_of_ble_eq_true rfl) (show decode prog_6_method_4_code 13 = .ok (.invokevirtual 45, 3) by decide +kernel) h ?_
      intro q5 h
      refine hg_if_eq (pc := 16) (tgt := 21) hC (show decode prog_6_method_4_code 16 = .ok (.ifCond .eq 5, 3) by decide +kernel) (by decide +kernel) h ?_ ?_
      · intro h
        refine hg_iinc (pc := 21) (i := 3) (v := (x3 + 1)) (lv' := [(3, .int (x3 + 1)), (0, va_rf (some o)), (2, va_rf x2)]) hC 2 rfl rfl (Nat.le_of_ble_eq_true rfl) (by simp [va_rf_cat, hg_cti]) (show decode prog_6_method_4_code 21 = .ok (.iinc 3 1, 3) by decide +kernel) ?_
        refine hg_goto (pc := 24) (tgt := 2) hC (show decode prog_6_method_4_code 24 = .ok (.goto (-22), 3) by decide +kernel) (by decide +kernel) ?_
        exact hg_sub [1, 2, 0] rfl (hl_2 (x3 + 1) (dc_some h))
      · intro h
        have h : dc_wp (hm_NM_hasSince_L19 G Z o) F := hr_2 (.inl ()) (dc_some h)
        exact hg_sub [0] rfl (lab_19 h)
    · intro h
      have h : dc_wp (hm_NM_hasSince_L27 G Z o) F := hr_2 (.inr ()) (dc_some h)
      exact hg_sub [0] rfl (lab_27 h)
  have lab_2 : ∀ (x2 : Option Nat) (x3 : Int32), dc_wp (hm_NM_hasSince_L2 G Z o x2 x3) F → hg_G X l (hg_rm 1 23 Z) D 4 Z 2 [(0, va_rf (some o)), (2, va_rf x2), (3, .int x3)] [] := fun x2 x3 h => loop_2 x2 x3 (dc_bind h)
  show hg_G X l (hg_rm 1 23 Z) D 4 Z 0 [(0, va_rf (some o)), (1, .int p1), (2, va_rf p2)] []
  have h : dc_wp (hm_NM_hasSince G Z o p1 p2) F := h
  delta hm_NM_hasSince at h
  refine hg_iloadn (pc := 0) (j := 1) (i := 1) hC 1 rfl rfl (show decode prog_6_method_4_code 0 = .ok (.iload_n 1, 1) by decide +kernel) ?_
  refine hg_istoren (pc := 1) (j := 3) (i := 3) (lv' := [(3, .int p1), (0, va_rf (some o)), (1, .int p1), (2, va_rf p2)]) hC rfl (Nat.le_of_ble_eq_true rfl) (by simp [va_rf_cat, hg_cti]) (show decode prog_6_method_4_code 1 = .ok (.istore_n 3, 1) by decide +kernel) ?_
  exact hg_sub [1, 3, 0] rfl (lab_2 p2 p1 h)
noncomputable def hm_NM_bring_L63 (G : hg_E) (S : hg_S) (o : Nat) (x1 : Option Nat) : Option (hg_S × Int32) :=
  (hg_gr S (some o) 3 1).bind fun e1 => (hg_gi S (some o) 3 4).bind fun e2 => (hg_gi S x1 2 2).bind fun e3 => (hg_st S e1 (G.1 0) e2 e3).bind fun S4 => (hg_gr S4 (some o) 3 2).bind fun e5 => (hg_gi S4 (some o) 3 4).bind fun e6 => (hg_gi S4 x1 2 3).bind fun e7 => (hg_gi S4 x1 2 2).bind fun e8 => (hg_st S4 e5 (G.1 0) e6 (e7 - e8)).bind fun S9 => (hg_gr S9 (some o) 3 3).bind fun e10 => (hg_gi S9 (some o) 3 5).bind fun e11 => (hg_gi S9 (some o) 3 4).bind fun e12 => (hg_st S9 e10 (G.1 0) e11 e12).bind fun S13 => (hg_gi S13 (some o) 3 5).bind fun e14 => (hg_pf S13 (some o) 3 5 (.int (e14 + 1))).bind fun S15 => (hg_gi S15 (some o) 3 4).bind fun e16 => (hg_pf S15 (some o) 3 4 (.int (e16 + 1))).bind fun S17 => (hg_gi S17 (some o) 3 4).bind fun e18 => some (S17, (e18 - 1))
noncomputable def hm_NM_bring (G : hg_E) (S : hg_S) (o : Nat) (p1 : Option Nat) : Option (hg_S × Int32) :=
  (hg_gi S (some o) 3 4).bind fun e19 => (hg_gr S (some o) 3 1).bind fun e20 => (hg_ln S e20 (G.1 0)).bind fun e21 => if e19 = e21 then ((hg_gr S (some o) 3 1).bind fun e22 => (hg_gi S (some o) 3 4).bind fun e23 => (hm_JA_copyOf G S e22 (2 * e23)).bind fun q24 => (hg_pf q24.1 (some o) 3 1 (va_rf q24.2)).bind fun S25 => (hg_gr S25 (some o) 3 2).bind fun e26 => (hg_gi S25 (some o) 3 4).bind fun e27 => (hm_JA_copyOf G S25 e26 (2 * e27)).bind fun q28 => (hg_pf q28.1 (some o) 3 2 (va_rf q28.2)).bind fun S29 => (hg_gr S29 (some o) 3 3).bind fun e30 => (hg_gi S29 (some o) 3 4).bind fun e31 => (hm_JA_copyOf G S29 e30 (2 * e31)).bind fun q32 => (hg_pf q32.1 (some o) 3 3 (va_rf q32.2)).bind fun S33 => hm_NM_bring_L63 G S33 o p1) else (hm_NM_bring_L63 G S o p1)
set_option maxHeartbeats 4000000 in
set_option maxRecDepth 100000 in
/-- SignalEngine$Names.bring(LSignalEngine$Lexer;)I -/
theorem hm_NM_bring_ok (l : Launch) (D : va_G) (G : hg_E) (Z : hg_S) (o : Nat) (p1 : Option Nat) (q : hg_S × Int32) (hq : hm_NM_bring G Z o p1 = some q) : hg_C l ⟨"SignalEngine$Names", "bring", "(LSignalEngine$Lexer;)I"⟩ prog_6_method_2_code 2 (some (.int)) 2 43 D G [.ref o, va_rf p1] Z (.inl (some (.int q.2), q.1) : hg_O) := by
  refine hg_start (cv := fun q => (.inl (some (.int q.2), q.1) : hg_O)) hq ?_
  intro F hF h
  refine hg_enter (lv := [(0, va_rf (some o)), (1, va_rf p1)]) (by decide +kernel) (by simp [lg_sl, va_rf_cat, hg_cti, hg_ctr]) (by simp [lv_args, va_rf_cat, va_rf_some, hg_cti, hg_ctr]) ?_
  intro X hC hR
  have lab_63 : ∀ (S : hg_S) (x1 : Option Nat), dc_wp (hm_NM_bring_L63 G S o x1) F → hg_G X l (hg_rm 2 43 Z) D 2 S 63 [(0, va_rf (some o)), (1, va_rf x1)] [] := by
    intro S x1 h
    delta hm_NM_bring_L63 at h
    refine hg_aloadn (pc := 63) (j := 0) (i := 0) (r := (some o)) hC 0 rfl rfl (show decode prog_6_method_2_code 63 = .ok (.aload_n 0, 1) by decide +kernel) ?_
    refine hg_rgr (pc := 64) (r := (some o)) hC fl_SignalEngine_Names_9 (show decode prog_6_method_2_code 64 = .ok (.getfield 9, 3) by decide +kernel) h ?_
    intro e1 h
    refine hg_aloadn (pc := 67) (j := 0) (i := 0) (r := (some o)) hC 0 rfl rfl (show decode prog_6_method_2_code 67 = .ok (.aload_n 0, 1) by decide +kernel) ?_
    refine hg_rgi (pc := 68) (r := (some o)) hC fl_SignalEngine_Names_25 (show decode prog_6_method_2_code 68 = .ok (.getfield 25, 3) by decide +kernel) h ?_
    intro e2 h
    refine hg_aloadn (pc := 71) (j := 1) (i := 1) (r := x1) hC 1 rfl rfl (show decode prog_6_method_2_code 71 = .ok (.aload_n 1, 1) by decide +kernel) ?_
    refine hg_rgi (pc := 72) (r := x1) hC fl_SignalEngine_Names_35 (show decode prog_6_method_2_code 72 = .ok (.getfield 35, 3) by decide +kernel) h ?_
    intro e3 h
    refine hg_riast (pc := 75) (r := e1) hC (show decode prog_6_method_2_code 75 = .ok (.iastore, 1) by decide +kernel) h ?_
    intro S4 h
    refine hg_aloadn (pc := 76) (j := 0) (i := 0) (r := (some o)) hC 0 rfl rfl (show decode prog_6_method_2_code 76 = .ok (.aload_n 0, 1) by decide +kernel) ?_
    refine hg_rgr (pc := 77) (r := (some o)) hC fl_SignalEngine_Names_15 (show decode prog_6_method_2_code 77 = .ok (.getfield 15, 3) by decide +kernel) h ?_
    intro e5 h
    refine hg_aloadn (pc := 80) (j := 0) (i := 0) (r := (some o)) hC 0 rfl rfl (show decode prog_6_method_2_code 80 = .ok (.aload_n 0, 1) by decide +kernel) ?_
    refine hg_rgi (pc := 81) (r := (some o)) hC fl_SignalEngine_Names_25 (show decode prog_6_method_2_code 81 = .ok (.getfield 25, 3) by decide +kernel) h ?_
    intro e6 h
    refine hg_aloadn (pc := 84) (j := 1) (i := 1) (r := x1) hC 1 rfl rfl (show decode prog_6_method_2_code 84 = .ok (.aload_n 1, 1) by decide +kernel) ?_
    refine hg_rgi (pc := 85) (r := x1) hC fl_SignalEngine_Names_39 (show decode prog_6_method_2_code 85 = .ok (.getfield 39, 3) by decide +kernel) h ?_
    intro e7 h
    refine hg_aloadn (pc := 88) (j := 1) (i := 1) (r := x1) hC 1 rfl rfl (show decode prog_6_method_2_code 88 = .ok (.aload_n 1, 1) by decide +kernel) ?_
    refine hg_rgi (pc := 89) (r := x1) hC fl_SignalEngine_Names_35 (show decode prog_6_method_2_code 89 = .ok (.getfield 35, 3) by decide +kernel) h ?_
    intro e8 h
    refine hg_isub (pc := 92) hC (show decode prog_6_method_2_code 92 = .ok (.isub, 1) by decide +kernel) ?_
    refine hg_riast (pc := 93) (r := e5) hC (show decode prog_6_method_2_code 93 = .ok (.iastore, 1) by decide +kernel) h ?_
    intro S9 h
    refine hg_aloadn (pc := 94) (j := 0) (i := 0) (r := (some o)) hC 0 rfl rfl (show decode prog_6_method_2_code 94 = .ok (.aload_n 0, 1) by decide +kernel) ?_
    refine hg_rgr (pc := 95) (r := (some o)) hC fl_SignalEngine_Names_18 (show decode prog_6_method_2_code 95 = .ok (.getfield 18, 3) by decide +kernel) h ?_
    intro e10 h
    refine hg_aloadn (pc := 98) (j := 0) (i := 0) (r := (some o)) hC 0 rfl rfl (show decode prog_6_method_2_code 98 = .ok (.aload_n 0, 1) by decide +kernel) ?_
    refine hg_rgi (pc := 99) (r := (some o)) hC fl_SignalEngine_Names_42 (show decode prog_6_method_2_code 99 = .ok (.getfield 42, 3) by decide +kernel) h ?_
    intro e11 h
    refine hg_aloadn (pc := 102) (j := 0) (i := 0) (r := (some o)) hC 0 rfl rfl (show decode prog_6_method_2_code 102 = .ok (.aload_n 0, 1) by decide +kernel) ?_
    refine hg_rgi (pc := 103) (r := (some o)) hC fl_SignalEngine_Names_25 (show decode prog_6_method_2_code 103 = .ok (.getfield 25, 3) by decide +kernel) h ?_
    intro e12 h
    refine hg_riast (pc := 106) (r := e10) hC (show decode prog_6_method_2_code 106 = .ok (.iastore, 1) by decide +kernel) h ?_
    intro S13 h
    refine hg_aloadn (pc := 107) (j := 0) (i := 0) (r := (some o)) hC 0 rfl rfl (show decode prog_6_method_2_code 107 = .ok (.aload_n 0, 1) by decide +kernel) ?_
    refine hg_dup (pc := 108) hC (show decode prog_6_method_2_code 108 = .ok (.dup, 1) by decide +kernel) rfl ?_
    refine hg_rgi (pc := 109) (r := (some o)) hC fl_SignalEngine_Names_42 (show decode prog_6_method_2_code 109 = .ok (.getfield 42, 3) by decide +kernel) h ?_
    intro e14 h
    refine hg_iconst (pc := 112) (v := 1) hC (show decode prog_6_method_2_code 112 = .ok (.iconst 1, 1) by decide +kernel) (by decide +kernel) ?_
    refine hg_iadd (pc := 113) hC (show decode prog_6_method_2_code 113 = .ok (.iadd, 1) by decide +kernel) ?_
    refine hg_rput (pc := 114) (r := (some o)) (v := .int (e14 + 1)) hC fp_SignalEngine_Names_42 rfl rfl (show decode prog_6_method_2_code 114 = .ok (.putfield 42, 3) by decide +kernel) h ?_
    intro S15 h
    refine hg_aloadn (pc := 117) (j := 0) (i := 0) (r := (some o)) hC 0 rfl rfl (show decode prog_6_method_2_code 117 = .ok (.aload_n 0, 1) by decide +kernel) ?_
    refine hg_dup (pc := 118) hC (show decode prog_6_method_2_code 118 = .ok (.dup, 1) by decide +kernel) rfl ?_
    refine hg_rgi (pc := 119) (r := (some o)) hC fl_SignalEngine_Names_25 (show decode prog_6_method_2_code 119 = .ok (.getfield 25, 3) by decide +kernel) h ?_
    intro e16 h
    refine hg_iconst (pc := 122) (v := 1) hC (show decode prog_6_method_2_code 122 = .ok (.iconst 1, 1) by decide +kernel) (by decide +kernel) ?_
    refine hg_iadd (pc := 123) hC (show decode prog_6_method_2_code 123 = .ok (.iadd, 1) by decide +kernel) ?_
    refine hg_rput (pc := 124) (r := (some o)) (v := .int (e16 + 1)) hC fp_SignalEngine_Names_25 rfl rfl (show decode prog_6_method_2_code 124 = .ok (.putfield 25, 3) by decide +kernel) h ?_
    intro S17 h
    refine hg_aloadn (pc := 127) (j := 0) (i := 0) (r := (some o)) hC 0 rfl rfl (show decode prog_6_method_2_code 127 = .ok (.aload_n 0, 1) by decide +kernel) ?_
    refine hg_rgi (pc := 128) (r := (some o)) hC fl_SignalEngine_Names_25 (show decode prog_6_method_2_code 128 = .ok (.getfield 25, 3) by decide +kernel) h ?_
    intro e18 h
    refine hg_iconst (pc := 131) (v := 1) hC (show decode prog_6_method_2_code 131 = .ok (.iconst 1, 1) by decide +kernel) (by decide +kernel) ?_
    refine hg_isub (pc := 132) hC (show decode prog_6_method_2_code 132 = .ok (.isub, 1) by decide +kernel) ?_
    exact hg_iret (pc := 133) hC hR (hF _ (dc_some h)) (show decode prog_6_method_2_code 133 = .ok (.ireturn, 1) by decide +kernel)
  show hg_G X l (hg_rm 2 43 Z) D 2 Z 0 [(0, va_rf (some o)), (1, va_rf p1)] []
  have h : dc_wp (hm_NM_bring G Z o p1) F := h
  delta hm_NM_bring at h
  refine hg_aloadn (pc := 0) (j := 0) (i := 0) (r := (some o)) hC 0 rfl rfl (show decode prog_6_method_2_code 0 = .ok (.aload_n 0, 1) by decide +kernel) ?_
  refine hg_rgi (pc := 1) (r := (some o)) hC fl_SignalEngine_Names_25 (show decode prog_6_method_2_code 1 = .ok (.getfield 25, 3) by decide +kernel) h ?_
  intro e19 h
  refine hg_aloadn (pc := 4) (j := 0) (i := 0) (r := (some o)) hC 0 rfl rfl (show decode prog_6_method_2_code 4 = .ok (.aload_n 0, 1) by decide +kernel) ?_
  refine hg_rgr (pc := 5) (r := (some o)) hC fl_SignalEngine_Names_9 (show decode prog_6_method_2_code 5 = .ok (.getfield 9, 3) by decide +kernel) h ?_
  intro e20 h
  refine hg_rlen (pc := 8) (r := e20) (t := 0) hC rfl (show decode prog_6_method_2_code 8 = .ok (.arraylength, 1) by decide +kernel) h ?_
  intro e21 h
  refine hg_icmp_ne (pc := 9) (tgt := 63) hC (show decode prog_6_method_2_code 9 = .ok (.if_icmp .ne 54, 3) by decide +kernel) (by decide +kernel) h ?_ ?_
  · intro h
    refine hg_aloadn (pc := 12) (j := 0) (i := 0) (r := (some o)) hC 0 rfl rfl (show decode prog_6_method_2_code 12 = .ok (.aload_n 0, 1) by decide +kernel) ?_
    refine hg_aloadn (pc := 13) (j := 0) (i := 0) (r := (some o)) hC 0 rfl rfl (show decode prog_6_method_2_code 13 = .ok (.aload_n 0, 1) by decide +kernel) ?_
    refine hg_rgr (pc := 14) (r := (some o)) hC fl_SignalEngine_Names_9 (show decode prog_6_method_2_code 14 = .ok (.getfield 9, 3) by decide +kernel) h ?_
    intro e22 h
    refine hg_iconst (pc := 17) (v := 2) hC (show decode prog_6_method_2_code 17 = .ok (.iconst 2, 1) by decide +kernel) (by decide +kernel) ?_
    refine hg_aloadn (pc := 18) (j := 0) (i := 0) (r := (some o)) hC 0 rfl rfl (show decode prog_6_method_2_code 18 = .ok (.aload_n 0, 1) by decide +kernel) ?_
    refine hg_rgi (pc := 19) (r := (some o)) hC fl_SignalEngine_Names_25 (show decode prog_6_method_2_code 19 = .ok (.getfield 25, 3) by decide +kernel) h ?_
    intro e23 h
    refine hg_imul (pc := 22) hC (show decode prog_6_method_2_code 22 = .ok (.imul, 1) by decide +kernel) ?_
    refine hg_kSr (pc := 23) (As := [va_rf e22, .int (2 * e23)]) (rest := [va_rf (some o)]) (vo := fun q => q.2) (so := fun q => q.1) hC cw_SignalEngine_Names_29 (fun q hq => hm_JA_copyOf_ok l D G Z e22 (2 * e23) q hq) (Nat.le_of_ble_eq_true rfl) (Nat.le_of_ble_eq_true rfl) rfl (Nat.le_of_ble_eq_true rfl) (show decode prog_6_method_2_code 23 = .ok (.invokestatic 29, 3) by decide +kernel) h ?_
    intro q24 h
    refine hg_rput (pc := 26) (r := (some o)) (v := va_rf q24.2) hC fp_SignalEngine_Names_9 (hg_na _).1 (hg_na _).2 (show decode prog_6_method_2_code 26 = .ok (.putfield 9, 3) by decide +kernel) h ?_
    intro S25 h
    refine hg_aloadn (pc := 29) (j := 0) (i := 0) (r := (some o)) hC 0 rfl rfl (show decode prog_6_method_2_code 29 = .ok (.aload_n 0, 1) by decide +kernel) ?_
    refine hg_aloadn (pc := 30) (j := 0) (i := 0) (r := (some o)) hC 0 rfl rfl (show decode prog_6_method_2_code 30 = .ok (.aload_n 0, 1) by decide +kernel) ?_
    refine hg_rgr (pc := 31) (r := (some o)) hC fl_SignalEngine_Names_15 (show decode prog_6_method_2_code 31 = .ok (.getfield 15, 3) by decide +kernel) h ?_
    intro e26 h
    refine hg_iconst (pc := 34) (v := 2) hC (show decode prog_6_method_2_code 34 = .ok (.iconst 2, 1) by decide +kernel) (by decide +kernel) ?_
    refine hg_aloadn (pc := 35) (j := 0) (i := 0) (r := (some o)) hC 0 rfl rfl (show decode prog_6_method_2_code 35 = .ok (.aload_n 0, 1) by decide +kernel) ?_
    refine hg_rgi (pc := 36) (r := (some o)) hC fl_SignalEngine_Names_25 (show decode prog_6_method_2_code 36 = .ok (.getfield 25, 3) by decide +kernel) h ?_
    intro e27 h
    refine hg_imul (pc := 39) hC (show decode prog_6_method_2_code 39 = .ok (.imul, 1) by decide +kernel) ?_
    refine hg_kSr (pc := 40) (As := [va_rf e26, .int (2 * e27)]) (rest := [va_rf (some o)]) (vo := fun q => q.2) (so := fun q => q.1) hC cw_SignalEngine_Names_29 (fun q hq => hm_JA_copyOf_ok l D G S25 e26 (2 * e27) q hq) (Nat.le_of_ble_eq_true rfl) (Nat.le_of_ble_eq_true rfl) rfl (Nat.le_of_ble_eq_true rfl) (show decode prog_6_method_2_code 40 = .ok (.invokestatic 29, 3) by decide +kernel) h ?_
    intro q28 h
    refine hg_rput (pc := 43) (r := (some o)) (v := va_rf q28.2) hC fp_SignalEngine_Names_15 (hg_na _).1 (hg_na _).2 (show decode prog_6_method_2_code 43 = .ok (.putfield 15, 3) by decide +kernel) h ?_
    intro S29 h
    refine hg_aloadn (pc := 46) (j := 0) (i := 0) (r := (some o)) hC 0 rfl rfl (show decode prog_6_method_2_code 46 = .ok (.aload_n 0, 1) by decide +kernel) ?_
    refine hg_aloadn (pc := 47) (j := 0) (i := 0) (r := (some o)) hC 0 rfl rfl (show decode prog_6_method_2_code 47 = .ok (.aload_n 0, 1) by decide +kernel) ?_
    refine hg_rgr (pc := 48) (r := (some o)) hC fl_SignalEngine_Names_18 (show decode prog_6_method_2_code 48 = .ok (.getfield 18, 3) by decide +kernel) h ?_
    intro e30 h
    refine hg_iconst (pc := 51) (v := 2) hC (show decode prog_6_method_2_code 51 = .ok (.iconst 2, 1) by decide +kernel) (by decide +kernel) ?_
    refine hg_aloadn (pc := 52) (j := 0) (i := 0) (r := (some o)) hC 0 rfl rfl (show decode prog_6_method_2_code 52 = .ok (.aload_n 0, 1) by decide +kernel) ?_
    refine hg_rgi (pc := 53) (r := (some o)) hC fl_SignalEngine_Names_25 (show decode prog_6_method_2_code 53 = .ok (.getfield 25, 3) by decide +kernel) h ?_
    intro e31 h
    refine hg_imul (pc := 56) hC (show decode prog_6_method_2_code 56 = .ok (.imul, 1) by decide +kernel) ?_
    refine hg_kSr (pc := 57) (As := [va_rf e30, .int (2 * e31)]) (rest := [va_rf (some o)]) (vo := fun q => q.2) (so := fun q => q.1) hC cw_SignalEngine_Names_29 (fun q hq => hm_JA_copyOf_ok l D G S29 e30 (2 * e31) q hq) (Nat.le_of_ble_eq_true rfl) (Nat.le_of_ble_eq_true rfl) rfl (Nat.le_of_ble_eq_true rfl) (show decode prog_6_method_2_code 57 = .ok (.invokestatic 29, 3) by decide +kernel) h ?_
    intro q32 h
    refine hg_rput (pc := 60) (r := (some o)) (v := va_rf q32.2) hC fp_SignalEngine_Names_18 (hg_na _).1 (hg_na _).2 (show decode prog_6_method_2_code 60 = .ok (.putfield 18, 3) by decide +kernel) h ?_
    intro S33 h
    exact lab_63 S33 p1 h
  · intro h
    exact lab_63 Z p1 h
noncomputable def hm_PA_enter_L17 (G : hg_E) (S : hg_S) (o : Nat) : Option ((hg_S) ⊕ hg_X) :=
  (hg_gi S (some o) 4 6).bind fun e1 => (hg_pf S (some o) 4 6 (.int (e1 + 1))).bind fun S2 => some (.inl S2)
noncomputable def hm_PA_enter (G : hg_E) (S : hg_S) (o : Nat) : Option ((hg_S) ⊕ hg_X) :=
  (hg_gi S (some o) 4 6).bind fun e3 => if e3 < 24 then (hm_PA_enter_L17 G S o) else ((hg_gr S (some o) 4 0).bind fun e4 => (hg_chk S e4 2).bind fun b5 => (hm_LX_refuse G S b5 (5 : Int32)).bind (Sum.elim (fun q8 => hm_PA_enter_L17 G q8 o) (fun z => some (.inr z))))
set_option maxHeartbeats 4000000 in
set_option maxRecDepth 100000 in
/-- SignalEngine$Parser.enter()V -/
theorem hm_PA_enter_ok (l : Launch) (hlt : l.stackTraces = false) (D : va_G) (G : hg_E) (Z : hg_S) (o : Nat) (q : (hg_S) ⊕ hg_X) (hq : hm_PA_enter G Z o = some q) : hg_C l ⟨"SignalEngine$Parser", "enter", "()V"⟩ prog_9_method_9_code 1 none 7 121 D G [.ref o] Z (Sum.elim (fun q => (.inl (none, q) : hg_O)) hg_ox q) := by
  refine hg_start (cv := fun q => (Sum.elim (fun q => (.inl (none, q) : hg_O)) hg_ox q)) hq ?_
  intro F hF h
  refine hg_enter (lv := [(0, va_rf (some o))]) (by decide +kernel) (by simp [lg_sl, va_rf_cat, hg_cti, hg_ctr]) (by simp [lv_args, va_rf_cat, va_rf_some, hg_cti, hg_ctr]) ?_
  intro X hC hR
  have lab_17 : ∀ (S : hg_S), dc_wp (hm_PA_enter_L17 G S o) F → hg_G X l (hg_rm 7 121 Z) D 1 S 17 [(0, va_rf (some o))] [] := by
    intro S  h
    delta hm_PA_enter_L17 at h
    refine hg_aloadn (pc := 17) (j := 0) (i := 0) (r := (some o)) hC 0 rfl rfl (show decode prog_9_method_9_code 17 = .ok (.aload_n 0, 1) by decide +kernel) ?_
    refine hg_dup (pc := 18) hC (show decode prog_9_method_9_code 18 = .ok (.dup, 1) by decide +kernel) rfl ?_
    refine hg_rgi (pc := 19) (r := (some o)) hC fl_SignalEngine_Parser_134 (show decode prog_9_method_9_code 19 = .ok (.getfield 134, 3) by decide +kernel) h ?_
    intro e1 h
    refine hg_iconst (pc := 22) (v := 1) hC (show decode prog_9_method_9_code 22 = .ok (.iconst 1, 1) by decide +kernel) (by decide +kernel) ?_
    refine hg_iadd (pc := 23) hC (show decode prog_9_method_9_code 23 = .ok (.iadd, 1) by decide +kernel) ?_
    refine hg_rput (pc := 24) (r := (some o)) (v := .int (e1 + 1)) hC fp_SignalEngine_Parser_134 rfl rfl (show decode prog_9_method_9_code 24 = .ok (.putfield 134, 3) by decide +kernel) h ?_
    intro S2 h
    exact hg_vret (pc := 27) hC hR (hF _ (dc_some h)) (show decode prog_9_method_9_code 27 = .ok (.return_, 1) by decide +kernel)
  show hg_G X l (hg_rm 7 121 Z) D 1 Z 0 [(0, va_rf (some o))] []
  have h : dc_wp (hm_PA_enter G Z o) F := h
  delta hm_PA_enter at h
  refine hg_aloadn (pc := 0) (j := 0) (i := 0) (r := (some o)) hC 0 rfl rfl (show decode prog_9_method_9_code 0 = .ok (.aload_n 0, 1) by decide +kernel) ?_
  refine hg_rgi (pc := 1) (r := (some o)) hC fl_SignalEngine_Parser_134 (show decode prog_9_method_9_code 1 = .ok (.getfield 134, 3) by decide +kernel) h ?_
  intro e3 h
  refine hg_bipush (pc := 4) (v := 24) hC (show decode prog_9_method_9_code 4 = .ok (.bipush 24, 2) by decide +kernel) (by decide +kernel) ?_
  refine hg_icmp_lt (pc := 6) (tgt := 17) hC (show decode prog_9_method_9_code 6 = .ok (.if_icmp .lt 11, 3) by decide +kernel) (by decide +kernel) h ?_ ?_
  · intro h
    exact lab_17 Z h
  · intro h
    refine hg_aloadn (pc := 9) (j := 0) (i := 0) (r := (some o)) hC 0 rfl rfl (show decode prog_9_method_9_code 9 = .ok (.aload_n 0, 1) by decide +kernel) ?_
    refine hg_rgr (pc := 10) (r := (some o)) hC fl_SignalEngine_Parser_23 (show decode prog_9_method_9_code 10 = .ok (.getfield 23, 3) by decide +kernel) h ?_
    intro e4 h
    refine hg_iconst (pc := 13) (v := 5) hC (show decode prog_9_method_9_code 13 = .ok (.iconst 5, 1) by decide +kernel) (by decide +kernel) ?_
    obtain ⟨b5, hb6, h⟩ := dc_bind h
    obtain ⟨hb6, hv7⟩ := hg_chk_of (C := R_LX) rfl hb6
    refine hg_kVTv (pc := 14) (b := b5) (r := e4) (As := [.int 5]) (rest := []) (so := fun q => q) hC hR cw_SignalEngine_Parser_117 (fun q hq => hm_LX_refuse_ok l hlt D G Z b5 (5 : Int32) q hq) (Nat.le_of_ble_eq_true rfl) (Nat.le_of_ble_eq_true rfl) hb6 hv7 rfl (Nat.le_of_ble_eq_true rfl) (show decode prog_9_method_9_code 14 = .ok (.invokevirtual 117, 3) by decide +kernel) h (fun z h => hF (.inr z) (dc_some h)) ?_
    intro q8 h
    exact lab_17 q8 h
noncomputable def hm_ND_init (G : hg_E) (S : hg_S) (o : Nat) (p1 : Int32) (p2 : Int32) (p3 : Option Nat) (p4 : Option Nat) : Option (hg_S) :=
  (hg_pf S (some o) 8 4 (.int (-1))).bind fun S1 => (hg_pf S1 (some o) 8 5 (.int (-1))).bind fun S2 => (hg_pf S2 (some o) 8 6 (.int (-1))).bind fun S3 => (hg_pf S3 (some o) 8 9 (.int (-1))).bind fun S4 => (hg_pf S4 (some o) 8 11 (.int 1)).bind fun S5 => (hg_pf S5 (some o) 8 0 (.int p1)).bind fun S6 => (hg_pf S6 (some o) 8 1 (.int p2)).bind fun S7 => (hg_pf S7 (some o) 8 2 (va_rf p3)).bind fun S8 => (hg_pf S8 (some o) 8 3 (va_rf p4)).bind fun S9 => some S9
set_option maxHeartbeats 4000000 in
set_option maxRecDepth 100000 in
/-- SignalEngine$Node.<init>(IILSignalEngine$Node;LSignalEngine$Node;)V -/
theorem hm_ND_init_ok (l : Launch) (D : va_G) (G : hg_E) (Z : hg_S) (o : Nat) (p1 : Int32) (p2 : Int32) (p3 : Option Nat) (p4 : Option Nat) (q : hg_S) (hq : hm_ND_init G Z o p1 p2 p3 p4 = some q) : hg_C l ⟨"SignalEngine$Node", "<init>", "(IILSignalEngine$Node;LSignalEngine$Node;)V"⟩ prog_8_method_1_code 5 none 1 20 D G [.ref o, .int p1, .int p2, va_rf p3, va_rf p4] Z (.inl (none, q) : hg_O) := by
  refine hg_start (cv := fun q => (.inl (none, q) : hg_O)) hq ?_
  intro F hF h
  refine hg_enter (lv := [(0, va_rf (some o)), (1, .int p1), (2, .int p2), (3, va_rf p3), (4, va_rf p4)]) (by decide +kernel) (by simp [lg_sl, va_rf_cat, hg_cti, hg_ctr]) (by simp [lv_args, va_rf_cat, va_rf_some, hg_cti, hg_ctr]) ?_
  intro X hC hR
  show hg_G X l (hg_rm 1 20 Z) D 5 Z 0 [(0, va_rf (some o)), (1, .int p1), (2, .int p2), (3, va_rf p3), (4, va_rf p4)] []
  have h : dc_wp (hm_ND_init G Z o p1 p2 p3 p4) F := h
  delta hm_ND_init at h
  refine hg_aloadn (pc := 0) (j := 0) (i := 0) (r := (some o)) hC 0 rfl rfl (show decode prog_8_method_1_code 0 = .ok (.aload_n 0, 1) by decide +kernel) ?_
  refine hg_oi (pc := 1) (a := o) hC w_551 w_40 w_41 (show decode prog_8_method_1_code 1 = .ok (.invokespecial 3, 3) by decide +kernel) (Nat.le_of_ble_eq_true rfl) (Nat.le_of_ble_eq_true rfl) ?_
  refine hg_aloadn (pc := 4) (j := 0) (i := 0) (r := (some o)) hC 0 rfl rfl (show decode prog_8_method_1_code 4 = .ok (.aload_n 0, 1) by decide +kernel) ?_
  refine hg_iconst (pc := 5) (v := (-1)) hC (show decode prog_8_method_1_code 5 = .ok (.iconst (-1), 1) by decide +kernel) (by decide +kernel) ?_
  refine hg_rput (pc := 6) (r := (some o)) (v := .int (-1)) hC fp_SignalEngine_Node_9 rfl rfl (show decode prog_8_method_1_code 6 = .ok (.putfield 9, 3) by decide +kernel) h ?_
  intro S1 h
  refine hg_aloadn (pc := 9) (j := 0) (i := 0) (r := (some o)) hC 0 rfl rfl (show decode prog_8_method_1_code 9 = .ok (.aload_n 0, 1) by decide +kernel) ?_
  refine hg_iconst (pc := 10) (v := (-1)) hC (show decode prog_8_method_1_code 10 = .ok (.iconst (-1), 1) by decide +kernel) (by decide +kernel) ?_
  refine hg_rput (pc := 11) (r := (some o)) (v := .int (-1)) hC fp_SignalEngine_Node_15 rfl rfl (show decode prog_8_method_1_code 11 = .ok (.putfield 15, 3) by decide +kernel) h ?_
  intro S2 h
  refine hg_aloadn (pc := 14) (j := 0) (i := 0) (r := (some o)) hC 0 rfl rfl (show decode prog_8_method_1_code 14 = .ok (.aload_n 0, 1) by decide +kernel) ?_
  refine hg_iconst (pc := 15) (v := (-1)) hC (show decode prog_8_method_1_code 15 = .ok (.iconst (-1), 1) by decide +kernel) (by decide +kernel) ?_
  refine hg_rput (pc := 16) (r := (some o)) (v := .int (-1)) hC fp_SignalEngine_Node_18 rfl rfl (show decode prog_8_method_1_code 16 = .ok (.putfield 18, 3) by decide +kernel) h ?_
  intro S3 h
  refine hg_aloadn (pc := 19) (j := 0) (i := 0) (r := (some o)) hC 0 rfl rfl (show decode prog_8_method_1_code 19 = .ok (.aload_n 0, 1) by decide +kernel) ?_
  refine hg_iconst (pc := 20) (v := (-1)) hC (show decode prog_8_method_1_code 20 = .ok (.iconst (-1), 1) by decide +kernel) (by decide +kernel) ?_
  refine hg_rput (pc := 21) (r := (some o)) (v := .int (-1)) hC fp_SignalEngine_Node_21 rfl rfl (show decode prog_8_method_1_code 21 = .ok (.putfield 21, 3) by decide +kernel) h ?_
  intro S4 h
  refine hg_aloadn (pc := 24) (j := 0) (i := 0) (r := (some o)) hC 0 rfl rfl (show decode prog_8_method_1_code 24 = .ok (.aload_n 0, 1) by decide +kernel) ?_
  refine hg_iconst (pc := 25) (v := 1) hC (show decode prog_8_method_1_code 25 = .ok (.iconst 1, 1) by decide +kernel) (by decide +kernel) ?_
  refine hg_rput (pc := 26) (r := (some o)) (v := .int 1) hC fp_SignalEngine_Node_24 rfl rfl (show decode prog_8_method_1_code 26 = .ok (.putfield 24, 3) by decide +kernel) h ?_
  intro S5 h
  refine hg_aloadn (pc := 29) (j := 0) (i := 0) (r := (some o)) hC 0 rfl rfl (show decode prog_8_method_1_code 29 = .ok (.aload_n 0, 1) by decide +kernel) ?_
  refine hg_iloadn (pc := 30) (j := 1) (i := 1) hC 1 rfl rfl (show decode prog_8_method_1_code 30 = .ok (.iload_n 1, 1) by decide +kernel) ?_
  refine hg_rputF (pc := 31) (r := (some o)) (v := .int p1) hC hR fp_SignalEngine_Node_27 rfl rfl (show decode prog_8_method_1_code 31 = .ok (.putfield 27, 3) by decide +kernel) h ?_
  intro S6 h
  refine hg_aloadn (pc := 34) (j := 0) (i := 0) (r := (some o)) hC 0 rfl rfl (show decode prog_8_method_1_code 34 = .ok (.aload_n 0, 1) by decide +kernel) ?_
  refine hg_iloadn (pc := 35) (j := 2) (i := 2) hC 2 rfl rfl (show decode prog_8_method_1_code 35 = .ok (.iload_n 2, 1) by decide +kernel) ?_
  refine hg_rputF (pc := 36) (r := (some o)) (v := .int p2) hC hR fp_SignalEngine_Node_30 rfl rfl (show decode prog_8_method_1_code 36 = .ok (.putfield 30, 3) by decide +kernel) h ?_
  intro S7 h
  refine hg_aloadn (pc := 39) (j := 0) (i := 0) (r := (some o)) hC 0 rfl rfl (show decode prog_8_method_1_code 39 = .ok (.aload_n 0, 1) by decide +kernel) ?_
  refine hg_aloadn (pc := 40) (j := 3) (i := 3) (r := p3) hC 3 rfl rfl (show decode prog_8_method_1_code 40 = .ok (.aload_n 3, 1) by decide +kernel) ?_
  refine hg_rputF (pc := 41) (r := (some o)) (v := va_rf p3) hC hR fp_SignalEngine_Node_33 (hg_nr _).1 (hg_nr _).2 (show decode prog_8_method_1_code 41 = .ok (.putfield 33, 3) by decide +kernel) h ?_
  intro S8 h
  refine hg_aloadn (pc := 44) (j := 0) (i := 0) (r := (some o)) hC 0 rfl rfl (show decode prog_8_method_1_code 44 = .ok (.aload_n 0, 1) by decide +kernel) ?_
  refine hg_aload (pc := 45) (i := 4) (r := p4) hC 4 rfl (show decode prog_8_method_1_code 45 = .ok (.aload 4, 2) by decide +kernel) ?_
  refine hg_rputF (pc := 47) (r := (some o)) (v := va_rf p4) hC hR fp_SignalEngine_Node_37 (hg_nr _).1 (hg_nr _).2 (show decode prog_8_method_1_code 47 = .ok (.putfield 37, 3) by decide +kernel) h ?_
  intro S9 h
  exact hg_vret (pc := 50) hC hR (hF _ (dc_some h)) (show decode prog_8_method_1_code 50 = .ok (.return_, 1) by decide +kernel)
noncomputable def hm_NM_find_L38 (G : hg_E) (S : hg_S) (o : Nat) : Option (Int32) :=
  some (-1)
noncomputable def hm_NM_find_L25 (G : hg_E) (S : hg_S) (o : Nat) (x2 : Int32) : Option (Int32) :=
  (hg_gr S (some o) 3 3).bind fun e1 => (hg_ld S e1 (G.1 0) x2).bind fun e2 => some e2
noncomputable def hm_NM_find_b7 (G : hg_E) (S : hg_S) (o : Nat) (x1 : Option Nat) (x2 : Int32) : Option ((Int32) ⊕ ((Int32) ⊕ (Unit))) :=
  if x2 < 0 then (some (.inr (.inr ()))) else ((hg_gr S (some o) 3 3).bind fun e3 => (hg_ld S e3 (G.1 0) x2).bind fun e4 => (hg_chk S (some o) 3).bind fun b5 => (hm_NM_reads G S b5 e4 x1).bind fun q8 => if q8 = 0 then (some (.inl (x2 + (-1)))) else (some (.inr (.inl x2))))
noncomputable def hm_NM_find_s7 (G : hg_E) (S : hg_S) (o : Nat) (x1 : Option Nat) (q : Int32) : Option ((Int32) ⊕ ((Int32) ⊕ (Unit))) :=
  hm_NM_find_b7 G S o x1 q
noncomputable def hm_NM_find_L7 (G : hg_E) (S : hg_S) (o : Nat) (x1 : Option Nat) (x2 : Int32) : Option (Int32) :=
  (dc_it (hm_NM_find_s7 G S o x1) x2).bind (Sum.elim (fun (z : Int32) => hm_NM_find_L25 G S o z) (fun (z : Unit) => hm_NM_find_L38 G S o))
noncomputable def hm_NM_find (G : hg_E) (S : hg_S) (o : Nat) (p1 : Option Nat) : Option (Int32) :=
  (hg_gi S (some o) 3 5).bind fun e9 => dc_let ((e9 - 1) : Int32) fun v10 => hm_NM_find_L7 G S o p1 v10
set_option maxHeartbeats 4000000 in
set_option maxRecDepth 100000 in
/-- SignalEngine$Names.find(LSignalEngine$Lexer;)I -/
theorem hm_NM_find_ok (l : Launch) (D : va_G) (G : hg_E) (Z : hg_S) (o : Nat) (p1 : Option Nat) (q : Int32) (hq : hm_NM_find G Z o p1 = some q) : hg_C l ⟨"SignalEngine$Names", "find", "(LSignalEngine$Lexer;)I"⟩ prog_6_method_3_code 3 (some (.int)) 1 23 D G [.ref o, va_rf p1] Z (.inl (some (.int q), Z) : hg_O) := by
  refine hg_start (cv := fun q => (.inl (some (.int q), Z) : hg_O)) hq ?_
  intro F hF h
  refine hg_enter (lv := [(0, va_rf (some o)), (1, va_rf p1)]) (by decide +kernel) (by simp [lg_sl, va_rf_cat, hg_cti, hg_ctr]) (by simp [lv_args, va_rf_cat, va_rf_some, hg_cti, hg_ctr]) ?_
  intro X hC hR
  have lab_38 : dc_wp (hm_NM_find_L38 G Z o) F → hg_G X l (hg_rm 1 23 Z) D 3 Z 38 [(0, va_rf (some o))] [] := by
    intro  h
    delta hm_NM_find_L38 at h
    refine hg_iconst (pc := 38) (v := (-1)) hC (show decode prog_6_method_3_code 38 = .ok (.iconst (-1), 1) by decide +kernel) (by decide +kernel) ?_
    exact hg_iret (pc := 39) hC hR (hF _ (dc_some h)) (show decode prog_6_method_3_code 39 = .ok (.ireturn, 1) by decide +kernel)
  have lab_25 : ∀ (x2 : Int32), dc_wp (hm_NM_find_L25 G Z o x2) F → hg_G X l (hg_rm 1 23 Z) D 3 Z 25 [(0, va_rf (some o)), (2, .int x2)] [] := by
    intro x2 h
    delta hm_NM_find_L25 at h
    refine hg_aloadn (pc := 25) (j := 0) (i := 0) (r := (some o)) hC 0 rfl rfl (show decode prog_6_method_3_code 25 = .ok (.aload_n 0, 1) by decide +kernel) ?_
    refine hg_rgr (pc := 26) (r := (some o)) hC fl_SignalEngine_Names_18 (show decode prog_6_method_3_code 26 = .ok (.getfield 18, 3) by decide +kernel) h ?_
    intro e1 h
    refine hg_iloadn (pc := 29) (j := 2) (i := 2) hC 1 rfl rfl (show decode prog_6_method_3_code 29 = .ok (.iload_n 2, 1) by decide +kernel) ?_
    refine hg_riald (pc := 30) (r := e1) hC (show decode prog_6_method_3_code 30 = .ok (.iaload, 1) by decide +kernel) h ?_
    intro e2 h
    exact hg_iret (pc := 31) hC hR (hF _ (dc_some h)) (show decode prog_6_method_3_code 31 = .ok (.ireturn, 1) by decide +kernel)
  have loop_7 : ∀ (x1 : Option Nat) (q : Int32), dc_wp (dc_it (hm_NM_find_s7 G Z o x1) q) (fun z => dc_wp ((Sum.elim (fun (z : Int32) => hm_NM_find_L25 G Z o z) (fun (z : Unit) => hm_NM_find_L38 G Z o)) z) F) → hg_G X l (hg_rm 1 23 Z) D 3 Z 7 [(0, va_rf (some o)), (1, va_rf x1), (2, .int q)] [] := by
    intro x1
    refine dc_loopF ?_
    intro F_7 hl_7 hr_7
    rintro x2 h
    have h : dc_wp (hm_NM_find_b7 G Z o x1 x2) F_7 := h
    delta hm_NM_find_b7 at h
    refine hg_iloadn (pc := 7) (j := 2) (i := 2) hC 2 rfl rfl (show decode prog_6_method_3_code 7 = .ok (.iload_n 2, 1) by decide +kernel) ?_
    refine hg_if_lt (pc := 8) (tgt := 38) hC (show decode prog_6_method_3_code 8 = .ok (.ifCond .lt 30, 3) by decide +kernel) (by decide +kernel) h ?_ ?_
    · intro h
      have h : dc_wp (hm_NM_find_L38 G Z o) F := hr_7 (.inr ()) (dc_some h)
      exact hg_sub [0] rfl (lab_38 h)
    · intro h
      refine hg_aloadn (pc := 11) (j := 0) (i := 0) (r := (some o)) hC 0 rfl rfl (show decode prog_6_method_3_code 11 = .ok (.aload_n 0, 1) by decide +kernel) ?_
      refine hg_aloadn (pc := 12) (j := 0) (i := 0) (r := (some o)) hC 0 rfl rfl (show decode prog_6_method_3_code 12 = .ok (.aload_n 0, 1) by decide +kernel) ?_
      refine hg_rgr (pc := 13) (r := (some o)) hC fl_SignalEngine_Names_18 (show decode prog_6_method_3_code 13 = .ok (.getfield 18, 3) by decide +kernel) h ?_
      intro e3 h
      refine hg_iloadn (pc := 16) (j := 2) (i := 2) hC 2 rfl rfl (show decode prog_6_method_3_code 16 = .ok (.iload_n 2, 1) by decide +kernel) ?_
      refine hg_riald (pc := 17) (r := e3) hC (show decode prog_6_method_3_code 17 = .ok (.iaload, 1) by decide +kernel) h ?_
      intro e4 h
      refine hg_aloadn (pc := 18) (j := 1) (i := 1) (r := x1) hC 1 rfl rfl (show decode prog_6_method_3_code 18 = .ok (.aload_n 1, 1) by decide +kernel) ?_
      obtain ⟨b5, hb6, h⟩ := dc_bind h
      obtain ⟨hb6, hv7⟩ := hg_chk_of (C := R_NM) rfl hb6
      refine hg_kVi (pc := 19) (b := b5) (r := (some o)) (As := [.int e4, va_rf x1]) (rest := []) (vo := fun q => q) (so := fun q => Z) hC cw_SignalEngine_Names_45 (fun q hq => hm_NM_reads_ok l D G Z b5 e4 x1 q hq) (Nat.le_of_ble_eq_true rfl) (Nat.le_of_ble_eq_true rfl) hb6 hv7 rfl (Nat.le_of_ble_eq_true rfl) (show decode prog_6_method_3_code 19 = .ok (.invokevirtual 45, 3) by decide +kernel) h ?_
      intro q8 h
      refine hg_if_eq (pc := 22) (tgt := 32) hC (show decode prog_6_method_3_code 22 = .ok (.ifCond .eq 10, 3) by decide +kernel) (by decide +kernel) h ?_ ?_
      · intro h
        refine hg_iinc (pc := 32) (i := 2) (v := (x2 + (-1))) (lv' := [(2, .int (x2 + (-1))), (0, va_rf (some o)), (1, va_rf x1)]) hC 2 rfl (congrArg (fun z => x2 + z) (show Int32.ofInt (-1) = (-1 : Int32) by decide +kernel)) (Nat.le_of_ble_eq_true rfl) (by simp [va_rf_cat, hg_cti]) (show decode prog_6_method_3_code 32 = .ok (.iinc 2 (-1), 3) by decide +kernel) ?_
        refine hg_goto (pc := 35) (tgt := 7) hC (show decode prog_6_method_3_code 35 = .ok (.goto (-28), 3) by decide +kernel) (by decide +kernel) ?_
        exact hg_sub [1, 2, 0] rfl (hl_7 (x2 + (-1)) (dc_some h))
      · intro h
        have h : dc_wp (hm_NM_find_L25 G Z o x2) F := hr_7 (.inl x2) (dc_some h)
        exact hg_sub [0, 2] rfl (lab_25 x2 h)
  have lab_7 : ∀ (x1 : Option Nat) (x2 : Int32), dc_wp (hm_NM_find_L7 G Z o x1 x2) F → hg_G X l (hg_rm 1 23 Z) D 3 Z 7 [(0, va_rf (some o)), (1, va_rf x1), (2, .int x2)] [] := fun x1 x2 h => loop_7 x1 x2 (dc_bind h)
  show hg_G X l (hg_rm 1 23 Z) D 3 Z 0 [(0, va_rf (some o)), (1, va_rf p1)] []
  have h : dc_wp (hm_NM_find G Z o p1) F := h
  delta hm_NM_find at h
  refine hg_aloadn (pc := 0) (j := 0) (i := 0) (r := (some o)) hC 0 rfl rfl (show decode prog_6_method_3_code 0 = .ok (.aload_n 0, 1) by decide +kernel) ?_
  refine hg_rgi (pc := 1) (r := (some o)) hC fl_SignalEngine_Names_42 (show decode prog_6_method_3_code 1 = .ok (.getfield 42, 3) by decide +kernel) h ?_
  intro e9 h
  refine hg_iconst (pc := 4) (v := 1) hC (show decode prog_6_method_3_code 4 = .ok (.iconst 1, 1) by decide +kernel) (by decide +kernel) ?_
  refine hg_isub (pc := 5) hC (show decode prog_6_method_3_code 5 = .ok (.isub, 1) by decide +kernel) ?_
  refine hg_letI h ?_
  intro v10 h
  refine hg_istoren (pc := 6) (j := 2) (i := 2) (lv' := [(2, .int v10), (0, va_rf (some o)), (1, va_rf p1)]) hC rfl (Nat.le_of_ble_eq_true rfl) (by simp [va_rf_cat, hg_cti]) (show decode prog_6_method_3_code 6 = .ok (.istore_n 2, 1) by decide +kernel) ?_
  exact hg_sub [1, 2, 0] rfl (lab_7 p1 v10 h)
noncomputable def hm_PI_widen (G : hg_E) (S : hg_S) (o : Nat) (p1 : Int32) : Option (hg_S) :=
  (hg_gr S (some o) 5 0).bind fun e1 => (hm_JA_copyOf G S e1 p1).bind fun q2 => (hg_pf q2.1 (some o) 5 0 (va_rf q2.2)).bind fun S3 => (hg_gr S3 (some o) 5 1).bind fun e4 => (hm_JA_copyOf G S3 e4 p1).bind fun q5 => (hg_pf q5.1 (some o) 5 1 (va_rf q5.2)).bind fun S6 => (hg_gr S6 (some o) 5 2).bind fun e7 => (hm_JA_copyOf G S6 e7 p1).bind fun q8 => (hg_pf q8.1 (some o) 5 2 (va_rf q8.2)).bind fun S9 => (hg_gr S9 (some o) 5 3).bind fun e10 => (hm_JA_copyOf G S9 e10 p1).bind fun q11 => (hg_pf q11.1 (some o) 5 3 (va_rf q11.2)).bind fun S12 => (hg_gr S12 (some o) 5 4).bind fun e13 => (hm_JA_copyOf G S12 e13 p1).bind fun q14 => (hg_pf q14.1 (some o) 5 4 (va_rf q14.2)).bind fun S15 => some S15
set_option maxHeartbeats 4000000 in
set_option maxRecDepth 100000 in
/-- SignalEngine$Pieces.widen(I)V -/
theorem hm_PI_widen_ok (l : Launch) (D : va_G) (G : hg_E) (Z : hg_S) (o : Nat) (p1 : Int32) (q : hg_S) (hq : hm_PI_widen G Z o p1 = some q) : hg_C l ⟨"SignalEngine$Pieces", "widen", "(I)V"⟩ prog_10_method_3_code 2 none 2 43 D G [.ref o, .int p1] Z (.inl (none, q) : hg_O) := by
  refine hg_start (cv := fun q => (.inl (none, q) : hg_O)) hq ?_
  intro F hF h
  refine hg_enter (lv := [(0, va_rf (some o)), (1, .int p1)]) (by decide +kernel) (by simp [lg_sl, va_rf_cat, hg_cti, hg_ctr]) (by simp [lv_args, va_rf_cat, va_rf_some, hg_cti, hg_ctr]) ?_
  intro X hC hR
  show hg_G X l (hg_rm 2 43 Z) D 2 Z 0 [(0, va_rf (some o)), (1, .int p1)] []
  have h : dc_wp (hm_PI_widen G Z o p1) F := h
  delta hm_PI_widen at h
  refine hg_aloadn (pc := 0) (j := 0) (i := 0) (r := (some o)) hC 0 rfl rfl (show decode prog_10_method_3_code 0 = .ok (.aload_n 0, 1) by decide +kernel) ?_
  refine hg_aloadn (pc := 1) (j := 0) (i := 0) (r := (some o)) hC 0 rfl rfl (show decode prog_10_method_3_code 1 = .ok (.aload_n 0, 1) by decide +kernel) ?_
  refine hg_rgr (pc := 2) (r := (some o)) hC fl_SignalEngine_Pieces_9 (show decode prog_10_method_3_code 2 = .ok (.getfield 9, 3) by decide +kernel) h ?_
  intro e1 h
  refine hg_iloadn (pc := 5) (j := 1) (i := 1) hC 1 rfl rfl (show decode prog_10_method_3_code 5 = .ok (.iload_n 1, 1) by decide +kernel) ?_
  refine hg_kSr (pc := 6) (As := [va_rf e1, .int p1]) (rest := [va_rf (some o)]) (vo := fun q => q.2) (so := fun q => q.1) hC cw_SignalEngine_Pieces_35 (fun q hq => hm_JA_copyOf_ok l D G Z e1 p1 q hq) (Nat.le_of_ble_eq_true rfl) (Nat.le_of_ble_eq_true rfl) rfl (Nat.le_of_ble_eq_true rfl) (show decode prog_10_method_3_code 6 = .ok (.invokestatic 35, 3) by decide +kernel) h ?_
  intro q2 h
  refine hg_rput (pc := 9) (r := (some o)) (v := va_rf q2.2) hC fp_SignalEngine_Pieces_9 (hg_na _).1 (hg_na _).2 (show decode prog_10_method_3_code 9 = .ok (.putfield 9, 3) by decide +kernel) h ?_
  intro S3 h
  refine hg_aloadn (pc := 12) (j := 0) (i := 0) (r := (some o)) hC 0 rfl rfl (show decode prog_10_method_3_code 12 = .ok (.aload_n 0, 1) by decide +kernel) ?_
  refine hg_aloadn (pc := 13) (j := 0) (i := 0) (r := (some o)) hC 0 rfl rfl (show decode prog_10_method_3_code 13 = .ok (.aload_n 0, 1) by decide +kernel) ?_
  refine hg_rgr (pc := 14) (r := (some o)) hC fl_SignalEngine_Pieces_15 (show decode prog_10_method_3_code 14 = .ok (.getfield 15, 3) by decide +kernel) h ?_
  intro e4 h
  refine hg_iloadn (pc := 17) (j := 1) (i := 1) hC 1 rfl rfl (show decode prog_10_method_3_code 17 = .ok (.iload_n 1, 1) by decide +kernel) ?_
  refine hg_kSr (pc := 18) (As := [va_rf e4, .int p1]) (rest := [va_rf (some o)]) (vo := fun q => q.2) (so := fun q => q.1) hC cw_SignalEngine_Pieces_35 (fun q hq => hm_JA_copyOf_ok l D G S3 e4 p1 q hq) (Nat.le_of_ble_eq_true rfl) (Nat.le_of_ble_eq_true rfl) rfl (Nat.le_of_ble_eq_true rfl) (show decode prog_10_method_3_code 18 = .ok (.invokestatic 35, 3) by decide +kernel) h ?_
  intro q5 h
  refine hg_rput (pc := 21) (r := (some o)) (v := va_rf q5.2) hC fp_SignalEngine_Pieces_15 (hg_na _).1 (hg_na _).2 (show decode prog_10_method_3_code 21 = .ok (.putfield 15, 3) by decide +kernel) h ?_
  intro S6 h
  refine hg_aloadn (pc := 24) (j := 0) (i := 0) (r := (some o)) hC 0 rfl rfl (show decode prog_10_method_3_code 24 = .ok (.aload_n 0, 1) by decide +kernel) ?_
  refine hg_aloadn (pc := 25) (j := 0) (i := 0) (r := (some o)) hC 0 rfl rfl (show decode prog_10_method_3_code 25 = .ok (.aload_n 0, 1) by decide +kernel) ?_
  refine hg_rgr (pc := 26) (r := (some o)) hC fl_SignalEngine_Pieces_18 (show decode prog_10_method_3_code 26 = .ok (.getfield 18, 3) by decide +kernel) h ?_
  intro e7 h
  refine hg_iloadn (pc := 29) (j := 1) (i := 1) hC 1 rfl rfl (show decode prog_10_method_3_code 29 = .ok (.iload_n 1, 1) by decide +kernel) ?_
  refine hg_kSr (pc := 30) (As := [va_rf e7, .int p1]) (rest := [va_rf (some o)]) (vo := fun q => q.2) (so := fun q => q.1) hC cw_SignalEngine_Pieces_35 (fun q hq => hm_JA_copyOf_ok l D G S6 e7 p1 q hq) (Nat.le_of_ble_eq_true rfl) (Nat.le_of_ble_eq_true rfl) rfl (Nat.le_of_ble_eq_true rfl) (show decode prog_10_method_3_code 30 = .ok (.invokestatic 35, 3) by decide +kernel) h ?_
  intro q8 h
  refine hg_rput (pc := 33) (r := (some o)) (v := va_rf q8.2) hC fp_SignalEngine_Pieces_18 (hg_na _).1 (hg_na _).2 (show decode prog_10_method_3_code 33 = .ok (.putfield 18, 3) by decide +kernel) h ?_
  intro S9 h
  refine hg_aloadn (pc := 36) (j := 0) (i := 0) (r := (some o)) hC 0 rfl rfl (show decode prog_10_method_3_code 36 = .ok (.aload_n 0, 1) by decide +kernel) ?_
  refine hg_aloadn (pc := 37) (j := 0) (i := 0) (r := (some o)) hC 0 rfl rfl (show decode prog_10_method_3_code 37 = .ok (.aload_n 0, 1) by decide +kernel) ?_
  refine hg_rgr (pc := 38) (r := (some o)) hC fl_SignalEngine_Pieces_21 (show decode prog_10_method_3_code 38 = .ok (.getfield 21, 3) by decide +kernel) h ?_
  intro e10 h
  refine hg_iloadn (pc := 41) (j := 1) (i := 1) hC 1 rfl rfl (show decode prog_10_method_3_code 41 = .ok (.iload_n 1, 1) by decide +kernel) ?_
  refine hg_kSr (pc := 42) (As := [va_rf e10, .int p1]) (rest := [va_rf (some o)]) (vo := fun q => q.2) (so := fun q => q.1) hC cw_SignalEngine_Pieces_35 (fun q hq => hm_JA_copyOf_ok l D G S9 e10 p1 q hq) (Nat.le_of_ble_eq_true rfl) (Nat.le_of_ble_eq_true rfl) rfl (Nat.le_of_ble_eq_true rfl) (show decode prog_10_method_3_code 42 = .ok (.invokestatic 35, 3) by decide +kernel) h ?_
  intro q11 h
  refine hg_rput (pc := 45) (r := (some o)) (v := va_rf q11.2) hC fp_SignalEngine_Pieces_21 (hg_na _).1 (hg_na _).2 (show decode prog_10_method_3_code 45 = .ok (.putfield 21, 3) by decide +kernel) h ?_
  intro S12 h
  refine hg_aloadn (pc := 48) (j := 0) (i := 0) (r := (some o)) hC 0 rfl rfl (show decode prog_10_method_3_code 48 = .ok (.aload_n 0, 1) by decide +kernel) ?_
  refine hg_aloadn (pc := 49) (j := 0) (i := 0) (r := (some o)) hC 0 rfl rfl (show decode prog_10_method_3_code 49 = .ok (.aload_n 0, 1) by decide +kernel) ?_
  refine hg_rgr (pc := 50) (r := (some o)) hC fl_SignalEngine_Pieces_24 (show decode prog_10_method_3_code 50 = .ok (.getfield 24, 3) by decide +kernel) h ?_
  intro e13 h
  refine hg_iloadn (pc := 53) (j := 1) (i := 1) hC 1 rfl rfl (show decode prog_10_method_3_code 53 = .ok (.iload_n 1, 1) by decide +kernel) ?_
  refine hg_kSr (pc := 54) (As := [va_rf e13, .int p1]) (rest := [va_rf (some o)]) (vo := fun q => q.2) (so := fun q => q.1) hC cw_SignalEngine_Pieces_35 (fun q hq => hm_JA_copyOf_ok l D G S12 e13 p1 q hq) (Nat.le_of_ble_eq_true rfl) (Nat.le_of_ble_eq_true rfl) rfl (Nat.le_of_ble_eq_true rfl) (show decode prog_10_method_3_code 54 = .ok (.invokestatic 35, 3) by decide +kernel) h ?_
  intro q14 h
  refine hg_rput (pc := 57) (r := (some o)) (v := va_rf q14.2) hC fp_SignalEngine_Pieces_24 (hg_na _).1 (hg_na _).2 (show decode prog_10_method_3_code 57 = .ok (.putfield 24, 3) by decide +kernel) h ?_
  intro S15 h
  exact hg_vret (pc := 60) hC hR (hF _ (dc_some h)) (show decode prog_10_method_3_code 60 = .ok (.return_, 1) by decide +kernel)
noncomputable def hm_PI_add_L109 (G : hg_E) (S : hg_S) (o : Nat) : Option (hg_S × Int32) :=
  (hg_gi S (some o) 5 5).bind fun e1 => (hg_pf S (some o) 5 5 (.int (e1 + 1))).bind fun S2 => (hg_gi S2 (some o) 5 5).bind fun e3 => some (S2, (e3 - 1))
noncomputable def hm_PI_add_L86 (G : hg_E) (S : hg_S) (o : Nat) (x3 : Int32) : Option (hg_S × Int32) :=
  if x3 = (-1) then (hm_PI_add_L109 G S o) else ((hg_gr S (some o) 5 3).bind fun e4 => (hg_gi S (some o) 5 5).bind fun e5 => (hg_ld S e4 (G.1 0) e5).bind fun e6 => (hg_gr S (some o) 5 3).bind fun e7 => (hg_ld S e7 (G.1 0) x3).bind fun e8 => (hg_st S e4 (G.1 0) e5 (e6 + e8)).bind fun S9 => hm_PI_add_L109 G S9 o)
noncomputable def hm_PI_add_L24 (G : hg_E) (S : hg_S) (o : Nat) (x1 : Int32) (x2 : Int32) (x3 : Int32) : Option (hg_S × Int32) :=
  (hg_gr S (some o) 5 0).bind fun e10 => (hg_gi S (some o) 5 5).bind fun e11 => (hg_st S e10 (G.1 0) e11 x1).bind fun S12 => (hg_gr S12 (some o) 5 1).bind fun e13 => (hg_gi S12 (some o) 5 5).bind fun e14 => (hg_st S12 e13 (G.1 0) e14 x2).bind fun S15 => (hg_gr S15 (some o) 5 2).bind fun e16 => (hg_gi S15 (some o) 5 5).bind fun e17 => (hg_st S15 e16 (G.1 0) e17 x3).bind fun S18 => (hg_gr S18 (some o) 5 3).bind fun e19 => (hg_gi S18 (some o) 5 5).bind fun e20 => (hg_st S18 e19 (G.1 0) e20 1).bind fun S21 => if x1 = 0 then (hm_PI_add_L86 G S21 o x3) else ((hg_gr S21 (some o) 5 3).bind fun e22 => (hg_gi S21 (some o) 5 5).bind fun e23 => (hg_ld S21 e22 (G.1 0) e23).bind fun e24 => (hg_gr S21 (some o) 5 3).bind fun e25 => (hg_ld S21 e25 (G.1 0) x2).bind fun e26 => (hg_st S21 e22 (G.1 0) e23 (e24 + e26)).bind fun S27 => hm_PI_add_L86 G S27 o x3)
noncomputable def hm_PI_add (G : hg_E) (S : hg_S) (o : Nat) (p1 : Int32) (p2 : Int32) (p3 : Int32) : Option (hg_S × Int32) :=
  (hg_gi S (some o) 5 5).bind fun e28 => (hg_gr S (some o) 5 0).bind fun e29 => (hg_ln S e29 (G.1 0)).bind fun e30 => if e28 = e30 then ((hg_gi S (some o) 5 5).bind fun e31 => (hg_chk S (some o) 5).bind fun b32 => (hm_PI_widen G S b32 ((2 * e31) + 4)).bind fun q35 => hm_PI_add_L24 G q35 o p1 p2 p3) else (hm_PI_add_L24 G S o p1 p2 p3)
set_option maxHeartbeats 4000000 in
set_option maxRecDepth 100000 in
/-- SignalEngine$Pieces.add(III)I -/
theorem hm_PI_add_ok (l : Launch) (D : va_G) (G : hg_E) (Z : hg_S) (o : Nat) (p1 : Int32) (p2 : Int32) (p3 : Int32) (q : hg_S × Int32) (hq : hm_PI_add G Z o p1 p2 p3 = some q) : hg_C l ⟨"SignalEngine$Pieces", "add", "(III)I"⟩ prog_10_method_2_code 4 (some (.int)) 3 64 D G [.ref o, .int p1, .int p2, .int p3] Z (.inl (some (.int q.2), q.1) : hg_O) := by
  refine hg_start (cv := fun q => (.inl (some (.int q.2), q.1) : hg_O)) hq ?_
  intro F hF h
  refine hg_enter (lv := [(0, va_rf (some o)), (1, .int p1), (2, .int p2), (3, .int p3)]) (by decide +kernel) (by simp [lg_sl, va_rf_cat, hg_cti, hg_ctr]) (by simp [lv_args, va_rf_cat, va_rf_some, hg_cti, hg_ctr]) ?_
  intro X hC hR
  have lab_109 : ∀ (S : hg_S), dc_wp (hm_PI_add_L109 G S o) F → hg_G X l (hg_rm 3 64 Z) D 4 S 109 [(0, va_rf (some o))] [] := by
    intro S  h
    delta hm_PI_add_L109 at h
    refine hg_aloadn (pc := 109) (j := 0) (i := 0) (r := (some o)) hC 0 rfl rfl (show decode prog_10_method_2_code 109 = .ok (.aload_n 0, 1) by decide +kernel) ?_
    refine hg_dup (pc := 110) hC (show decode prog_10_method_2_code 110 = .ok (.dup, 1) by decide +kernel) rfl ?_
    refine hg_rgi (pc := 111) (r := (some o)) hC fl_SignalEngine_Pieces_27 (show decode prog_10_method_2_code 111 = .ok (.getfield 27, 3) by decide +kernel) h ?_
    intro e1 h
    refine hg_iconst (pc := 114) (v := 1) hC (show decode prog_10_method_2_code 114 = .ok (.iconst 1, 1) by decide +kernel) (by decide +kernel) ?_
    refine hg_iadd (pc := 115) hC (show decode prog_10_method_2_code 115 = .ok (.iadd, 1) by decide +kernel) ?_
    refine hg_rput (pc := 116) (r := (some o)) (v := .int (e1 + 1)) hC fp_SignalEngine_Pieces_27 rfl rfl (show decode prog_10_method_2_code 116 = .ok (.putfield 27, 3) by decide +kernel) h ?_
    intro S2 h
    refine hg_aloadn (pc := 119) (j := 0) (i := 0) (r := (some o)) hC 0 rfl rfl (show decode prog_10_method_2_code 119 = .ok (.aload_n 0, 1) by decide +kernel) ?_
    refine hg_rgi (pc := 120) (r := (some o)) hC fl_SignalEngine_Pieces_27 (show decode prog_10_method_2_code 120 = .ok (.getfield 27, 3) by decide +kernel) h ?_
    intro e3 h
    refine hg_iconst (pc := 123) (v := 1) hC (show decode prog_10_method_2_code 123 = .ok (.iconst 1, 1) by decide +kernel) (by decide +kernel) ?_
    refine hg_isub (pc := 124) hC (show decode prog_10_method_2_code 124 = .ok (.isub, 1) by decide +kernel) ?_
    exact hg_iret (pc := 125) hC hR (hF _ (dc_some h)) (show decode prog_10_method_2_code 125 = .ok (.ireturn, 1) by decide +kernel)
  have lab_86 : ∀ (S : hg_S) (x3 : Int32), dc_wp (hm_PI_add_L86 G S o x3) F → hg_G X l (hg_rm 3 64 Z) D 4 S 86 [(0, va_rf (some o)), (3, .int x3)] [] := by
    intro S x3 h
    delta hm_PI_add_L86 at h
    refine hg_iloadn (pc := 86) (j := 3) (i := 3) hC 1 rfl rfl (show decode prog_10_method_2_code 86 = .ok (.iload_n 3, 1) by decide +kernel) ?_
    refine hg_iconst (pc := 87) (v := (-1)) hC (show decode prog_10_method_2_code 87 = .ok (.iconst (-1), 1) by decide +kernel) (by decide +kernel) ?_
    refine hg_icmp_eq (pc := 88) (tgt := 109) hC (show decode prog_10_method_2_code 88 = .ok (.if_icmp .eq 21, 3) by decide +kernel) (by decide +kernel) h ?_ ?_
    · intro h
      exact hg_sub [0] rfl (lab_109 S h)
    · intro h
      refine hg_aloadn (pc := 91) (j := 0) (i := 0) (r := (some o)) hC 0 rfl rfl (show decode prog_10_method_2_code 91 = .ok (.aload_n 0, 1) by decide +kernel) ?_
      refine hg_rgr (pc := 92) (r := (some o)) hC fl_SignalEngine_Pieces_21 (show decode prog_10_method_2_code 92 = .ok (.getfield 21, 3) by decide +kernel) h ?_
      intro e4 h
      refine hg_aloadn (pc := 95) (j := 0) (i := 0) (r := (some o)) hC 0 rfl rfl (show decode prog_10_method_2_code 95 = .ok (.aload_n 0, 1) by decide +kernel) ?_
      refine hg_rgi (pc := 96) (r := (some o)) hC fl_SignalEngine_Pieces_27 (show decode prog_10_method_2_code 96 = .ok (.getfield 27, 3) by decide +kernel) h ?_
      intro e5 h
      refine hg_dup2 (pc := 99) hC (show decode prog_10_method_2_code 99 = .ok (.dup2, 1) by decide +kernel) rfl (va_rf_cat _) ?_
      refine hg_riald (pc := 100) (r := e4) hC (show decode prog_10_method_2_code 100 = .ok (.iaload, 1) by decide +kernel) h ?_
      intro e6 h
      refine hg_aloadn (pc := 101) (j := 0) (i := 0) (r := (some o)) hC 0 rfl rfl (show decode prog_10_method_2_code 101 = .ok (.aload_n 0, 1) by decide +kernel) ?_
      refine hg_rgr (pc := 102) (r := (some o)) hC fl_SignalEngine_Pieces_21 (show decode prog_10_method_2_code 102 = .ok (.getfield 21, 3) by decide +kernel) h ?_
      intro e7 h
      refine hg_iloadn (pc := 105) (j := 3) (i := 3) hC 1 rfl rfl (show decode prog_10_method_2_code 105 = .ok (.iload_n 3, 1) by decide +kernel) ?_
      refine hg_riald (pc := 106) (r := e7) hC (show decode prog_10_method_2_code 106 = .ok (.iaload, 1) by decide +kernel) h ?_
      intro e8 h
      refine hg_iadd (pc := 107) hC (show decode prog_10_method_2_code 107 = .ok (.iadd, 1) by decide +kernel) ?_
      refine hg_riast (pc := 108) (r := e4) hC (show decode prog_10_method_2_code 108 = .ok (.iastore, 1) by decide +kernel) h ?_
      intro S9 h
      exact hg_sub [0] rfl (lab_109 S9 h)
  have lab_24 : ∀ (S : hg_S) (x1 : Int32) (x2 : Int32) (x3 : Int32), dc_wp (hm_PI_add_L24 G S o x1 x2 x3) F → hg_G X l (hg_rm 3 64 Z) D 4 S 24 [(0, va_rf (some o)), (1, .int x1), (2, .int x2), (3, .int x3)] [] := by
    intro S x1 x2 x3 h
    delta hm_PI_add_L24 at h
    refine hg_aloadn (pc := 24) (j := 0) (i := 0) (r := (some o)) hC 0 rfl rfl (show decode prog_10_method_2_code 24 = .ok (.aload_n 0, 1) by decide +kernel) ?_
    refine hg_rgr (pc := 25) (r := (some o)) hC fl_SignalEngine_Pieces_9 (show decode prog_10_method_2_code 25 = .ok (.getfield 9, 3) by decide +kernel) h ?_
    intro e10 h
    refine hg_aloadn (pc := 28) (j := 0) (i := 0) (r := (some o)) hC 0 rfl rfl (show decode prog_10_method_2_code 28 = .ok (.aload_n 0, 1) by decide +kernel) ?_
    refine hg_rgi (pc := 29) (r := (some o)) hC fl_SignalEngine_Pieces_27 (show decode prog_10_method_2_code 29 = .ok (.getfield 27, 3) by decide +kernel) h ?_
    intro e11 h
    refine hg_iloadn (pc := 32) (j := 1) (i := 1) hC 1 rfl rfl (show decode prog_10_method_2_code 32 = .ok (.iload_n 1, 1) by decide +kernel) ?_
    refine hg_riast (pc := 33) (r := e10) hC (show decode prog_10_method_2_code 33 = .ok (.iastore, 1) by decide +kernel) h ?_
    intro S12 h
    refine hg_aloadn (pc := 34) (j := 0) (i := 0) (r := (some o)) hC 0 rfl rfl (show decode prog_10_method_2_code 34 = .ok (.aload_n 0, 1) by decide +kernel) ?_
    refine hg_rgr (pc := 35) (r := (some o)) hC fl_SignalEngine_Pieces_15 (show decode prog_10_method_2_code 35 = .ok (.getfield 15, 3) by decide +kernel) h ?_
    intro e13 h
    refine hg_aloadn (pc := 38) (j := 0) (i := 0) (r := (some o)) hC 0 rfl rfl (show decode prog_10_method_2_code 38 = .ok (.aload_n 0, 1) by decide +kernel) ?_
    refine hg_rgi (pc := 39) (r := (some o)) hC fl_SignalEngine_Pieces_27 (show decode prog_10_method_2_code 39 = .ok (.getfield 27, 3) by decide +kernel) h ?_
    intro e14 h
    refine hg_iloadn (pc := 42) (j := 2) (i := 2) hC 2 rfl rfl (show decode prog_10_method_2_code 42 = .ok (.iload_n 2, 1) by decide +kernel) ?_
    refine hg_riast (pc := 43) (r := e13) hC (show decode prog_10_method_2_code 43 = .ok (.iastore, 1) by decide +kernel) h ?_
    intro S15 h
    refine hg_aloadn (pc := 44) (j := 0) (i := 0) (r := (some o)) hC 0 rfl rfl (show decode prog_10_method_2_code 44 = .ok (.aload_n 0, 1) by decide +kernel) ?_
    refine hg_rgr (pc := 45) (r := (some o)) hC fl_SignalEngine_Pieces_18 (show decode prog_10_method_2_code 45 = .ok (.getfield 18, 3) by decide +kernel) h ?_
    intro e16 h
    refine hg_aloadn (pc := 48) (j := 0) (i := 0) (r := (some o)) hC 0 rfl rfl (show decode prog_10_method_2_code 48 = .ok (.aload_n 0, 1) by decide +kernel) ?_
    refine hg_rgi (pc := 49) (r := (some o)) hC fl_SignalEngine_Pieces_27 (show decode prog_10_method_2_code 49 = .ok (.getfield 27, 3) by decide +kernel) h ?_
    intro e17 h
    refine hg_iloadn (pc := 52) (j := 3) (i := 3) hC 3 rfl rfl (show decode prog_10_method_2_code 52 = .ok (.iload_n 3, 1) by decide +kernel) ?_
    refine hg_riast (pc := 53) (r := e16) hC (show decode prog_10_method_2_code 53 = .ok (.iastore, 1) by decide +kernel) h ?_
    intro S18 h
    refine hg_aloadn (pc := 54) (j := 0) (i := 0) (r := (some o)) hC 0 rfl rfl (show decode prog_10_method_2_code 54 = .ok (.aload_n 0, 1) by decide +kernel) ?_
    refine hg_rgr (pc := 55) (r := (some o)) hC fl_SignalEngine_Pieces_21 (show decode prog_10_method_2_code 55 = .ok (.getfield 21, 3) by decide +kernel) h ?_
    intro e19 h
    refine hg_aloadn (pc := 58) (j := 0) (i := 0) (r := (some o)) hC 0 rfl rfl (show decode prog_10_method_2_code 58 = .ok (.aload_n 0, 1) by decide +kernel) ?_
    refine hg_rgi (pc := 59) (r := (some o)) hC fl_SignalEngine_Pieces_27 (show decode prog_10_method_2_code 59 = .ok (.getfield 27, 3) by decide +kernel) h ?_
    intro e20 h
    refine hg_iconst (pc := 62) (v := 1) hC (show decode prog_10_method_2_code 62 = .ok (.iconst 1, 1) by decide +kernel) (by decide +kernel) ?_
    refine hg_riast (pc := 63) (r := e19) hC (show decode prog_10_method_2_code 63 = .ok (.iastore, 1) by decide +kernel) h ?_
    intro S21 h
    refine hg_iloadn (pc := 64) (j := 1) (i := 1) hC 1 rfl rfl (show decode prog_10_method_2_code 64 = .ok (.iload_n 1, 1) by decide +kernel) ?_
    refine hg_if_eq (pc := 65) (tgt := 86) hC (show decode prog_10_method_2_code 65 = .ok (.ifCond .eq 21, 3) by decide +kernel) (by decide +kernel) h ?_ ?_
    · intro h
      exact hg_sub [0, 3] rfl (lab_86 S21 x3 h)
    · intro h
      refine hg_aloadn (pc := 68) (j := 0) (i := 0) (r := (some o)) hC 0 rfl rfl (show decode prog_10_method_2_code 68 = .ok (.aload_n 0, 1) by decide +kernel) ?_
      refine hg_rgr (pc := 69) (r := (some o)) hC fl_SignalEngine_Pieces_21 (show decode prog_10_method_2_code 69 = .ok (.getfield 21, 3) by decide +kernel) h ?_
      intro e22 h
      refine hg_aloadn (pc := 72) (j := 0) (i := 0) (r := (some o)) hC 0 rfl rfl (show decode prog_10_method_2_code 72 = .ok (.aload_n 0, 1) by decide +kernel) ?_
      refine hg_rgi (pc := 73) (r := (some o)) hC fl_SignalEngine_Pieces_27 (show decode prog_10_method_2_code 73 = .ok (.getfield 27, 3) by decide +kernel) h ?_
      intro e23 h
      refine hg_dup2 (pc := 76) hC (show decode prog_10_method_2_code 76 = .ok (.dup2, 1) by decide +kernel) rfl (va_rf_cat _) ?_
      refine hg_riald (pc := 77) (r := e22) hC (show decode prog_10_method_2_code 77 = .ok (.iaload, 1) by decide +kernel) h ?_
      intro e24 h
      refine hg_aloadn (pc := 78) (j := 0) (i := 0) (r := (some o)) hC 0 rfl rfl (show decode prog_10_method_2_code 78 = .ok (.aload_n 0, 1) by decide +kernel) ?_
      refine hg_rgr (pc := 79) (r := (some o)) hC fl_SignalEngine_Pieces_21 (show decode prog_10_method_2_code 79 = .ok (.getfield 21, 3) by decide +kernel) h ?_
      intro e25 h
      refine hg_iloadn (pc := 82) (j := 2) (i := 2) hC 2 rfl rfl (show decode prog_10_method_2_code 82 = .ok (.iload_n 2, 1) by decide +kernel) ?_
      refine hg_riald (pc := 83) (r := e25) hC (show decode prog_10_method_2_code 83 = .ok (.iaload, 1) by decide +kernel) h ?_
      intro e26 h
      refine hg_iadd (pc := 84) hC (show decode prog_10_method_2_code 84 = .ok (.iadd, 1) by decide +kernel) ?_
      refine hg_riast (pc := 85) (r := e22) hC (show decode prog_10_method_2_code 85 = .ok (.iastore, 1) by decide +kernel) h ?_
      intro S27 h
      exact hg_sub [0, 3] rfl (lab_86 S27 x3 h)
  show hg_G X l (hg_rm 3 64 Z) D 4 Z 0 [(0, va_rf (some o)), (1, .int p1), (2, .int p2), (3, .int p3)] []
  have h : dc_wp (hm_PI_add G Z o p1 p2 p3) F := h
  delta hm_PI_add at h
  refine hg_aloadn (pc := 0) (j := 0) (i := 0) (r := (some o)) hC 0 rfl rfl (show decode prog_10_method_2_code 0 = .ok (.aload_n 0, 1) by decide +kernel) ?_
  refine hg_rgi (pc := 1) (r := (some o)) hC fl_SignalEngine_Pieces_27 (show decode prog_10_method_2_code 1 = .ok (.getfield 27, 3) by decide +kernel) h ?_
  intro e28 h
  refine hg_aloadn (pc := 4) (j := 0) (i := 0) (r := (some o)) hC 0 rfl rfl (show decode prog_10_method_2_code 4 = .ok (.aload_n 0, 1) by decide +kernel) ?_
  refine hg_rgr (pc := 5) (r := (some o)) hC fl_SignalEngine_Pieces_9 (show decode prog_10_method_2_code 5 = .ok (.getfield 9, 3) by decide +kernel) h ?_
  intro e29 h
  refine hg_rlen (pc := 8) (r := e29) (t := 0) hC rfl (show decode prog_10_method_2_code 8 = .ok (.arraylength, 1) by decide +kernel) h ?_
  intro e30 h
  refine hg_icmp_ne (pc := 9) (tgt := 24) hC (show decode prog_10_method_2_code 9 = .ok (.if_icmp .ne 15, 3) by decide +kernel) (by decide +kernel) h ?_ ?_
  · intro h
    refine hg_aloadn (pc := 12) (j := 0) (i := 0) (r := (some o)) hC 0 rfl rfl (show decode prog_10_method_2_code 12 = .ok (.aload_n 0, 1) by decide +kernel) ?_
    refine hg_iconst (pc := 13) (v := 2) hC (show decode prog_10_method_2_code 13 = .ok (.iconst 2, 1) by decide +kernel) (by decide +kernel) ?_
    refine hg_aloadn (pc := 14) (j := 0) (i := 0) (r := (some o)) hC 0 rfl rfl (show decode prog_10_method_2_code 14 = .ok (.aload_n 0, 1) by decide +kernel) ?_
    refine hg_rgi (pc := 15) (r := (some o)) hC fl_SignalEngine_Pieces_27 (show decode prog_10_method_2_code 15 = .ok (.getfield 27, 3) by decide +kernel) h ?_
    intro e31 h
    refine hg_imul (pc := 18) hC (show decode prog_10_method_2_code 18 = .ok (.imul, 1) by decide +kernel) ?_
    refine hg_iconst (pc := 19) (v := 4) hC (show decode prog_10_method_2_code 19 = .ok (.iconst 4, 1) by decide +kernel) (by decide +kernel) ?_
    refine hg_iadd (pc := 20) hC (show decode prog_10_method_2_code 20 = .ok (.iadd, 1) by decide +kernel) ?_
    obtain ⟨b32, hb33, h⟩ := dc_bind h
    obtain ⟨hb33, hv34⟩ := hg_chk_of (C := R_PI) rfl hb33
    refine hg_kVv (pc := 21) (b := b32) (r := (some o)) (As := [.int ((2 * e31) + 4)]) (rest := []) (so := fun q => q) hC cw_SignalEngine_Pieces_31 (fun q hq => hm_PI_widen_ok l D G Z b32 ((2 * e31) + 4) q hq) (Nat.le_of_ble_eq_true rfl) (Nat.le_of_ble_eq_true rfl) hb33 hv34 rfl (Nat.le_of_ble_eq_true rfl) (show decode prog_10_method_2_code 21 = .ok (.invokevirtual 31, 3) by decide +kernel) h ?_
    intro q35 h
    exact lab_24 q35 p1 p2 p3 h
  · intro h
    exact lab_24 Z p1 p2 p3 h
