noncomputable def hm_JA_copyB (G : hg_E) (S : hg_S) (p0 : Option Nat) (p1 : Int32) : Option (hg_S × (Option Nat)) :=
  (hg_ln S p0 (G.1 1)).bind fun e1 => if p1 = e1 then ((hg_cln G S 1 .byte p0).bind fun S2 => (hg_ia S2 (some S.2.1) (G.1 1)).bind fun e3 => some (S2, (some S.2.1))) else ((hg_newa G S 1 p1).bind fun S4 => dc_let ((some S.2.1) : Option Nat) fun v5 => (hg_ln S4 p0 (G.1 1)).bind fun e6 => (hg_cpy G S4 1 .byte p0 0 v5 0 (hg_min e6 p1)).bind fun S7 => some (S7, v5))
set_option maxHeartbeats 4000000 in
set_option maxRecDepth 100000 in
/-- java/util/Arrays.copyOf([BI)[B -/
theorem hm_JA_copyB_ok (l : Launch) (D : va_G) (G : hg_E) (Z : hg_S) (p0 : Option Nat) (p1 : Int32) (q : hg_S × (Option Nat)) (hq : hm_JA_copyB G Z p0 p1 = some q) : hg_C l ⟨"java/util/Arrays", "copyOf", "([BI)[B"⟩ prog_34_method_121_code 3 (some (.array .byte)) 1 21 D G [va_rf p0, .int p1] Z (.inl (some (va_rf q.2), q.1) : hg_O) := by
  refine hg_start (cv := fun q => (.inl (some (va_rf q.2), q.1) : hg_O)) hq ?_
  intro F hF h
  refine hg_enter (lv := [(0, va_rf p0), (1, .int p1)]) (by decide +kernel) (by simp [lg_sl, va_rf_cat, hg_cti, hg_ctr]) (by simp [lv_args, va_rf_cat, va_rf_some, hg_cti, hg_ctr]) ?_
  intro X hC hR
  show hg_G X l (hg_rm 1 21 Z) D 3 Z 0 [(0, va_rf p0), (1, .int p1)] []
  have h : dc_wp (hm_JA_copyB G Z p0 p1) F := h
  delta hm_JA_copyB at h
  refine hg_iloadn (pc := 0) (j := 1) (i := 1) hC 1 rfl rfl (show decode prog_34_method_121_code 0 = .ok (.iload_n 1, 1) by decide +kernel) ?_
  refine hg_aloadn (pc := 1) (j := 0) (i := 0) (r := p0) hC 0 rfl rfl (show decode prog_34_method_121_code 1 = .ok (.aload_n 0, 1) by decide +kernel) ?_
  refine hg_rlen (pc := 2) (r := p0) (t := 1) hC rfl (show decode prog_34_method_121_code 2 = .ok (.arraylength, 1) by decide +kernel) h ?_
  intro e1 h
  refine hg_icmp_ne (pc := 3) (tgt := 14) hC (show decode prog_34_method_121_code 3 = .ok (.if_icmp .ne 11, 3) by decide +kernel) (by decide +kernel) h ?_ ?_
  · intro h
    refine hg_aloadn (pc := 6) (j := 0) (i := 0) (r := p0) hC 0 rfl rfl (show decode prog_34_method_121_code 6 = .ok (.aload_n 0, 1) by decide +kernel) ?_
    refine hg_rcln (pc := 7) (r := p0) (t := 1) hC rfl (nma := "[B") (fun _ h9 => h9) w_94 w_95 w_96 w_97 w_98 wn_99 (Nat.le_of_ble_eq_true rfl) (Nat.le_of_ble_eq_true rfl) (show decode prog_34_method_121_code 7 = .ok (.invokevirtual 310, 3) by decide +kernel) h ?_
    intro S2 h
    refine hg_rcastA (pc := 10) (r := (some Z.2.1)) (t := 1) hC rfl (nma := "[B") (fun _ h9 => h9) w_100 (show decode prog_34_method_121_code 10 = .ok (.checkcast 311, 3) by decide +kernel) h ?_
    intro e3 h
    exact hg_aret (pc := 13) (r := (some Z.2.1)) hC hR (by first | exact Or.inl ⟨_, rfl⟩ | exact Or.inr ⟨_, rfl⟩) (hF _ (dc_some h)) (show decode prog_34_method_121_code 13 = .ok (.areturn, 1) by decide +kernel)
  · intro h
    refine hg_iloadn (pc := 14) (j := 1) (i := 1) hC 1 rfl rfl (show decode prog_34_method_121_code 14 = .ok (.iload_n 1, 1) by decide +kernel) ?_
    refine hg_rnewa (pc := 15) (t := 1) (atype := .byte) hC rfl rfl (fun _ h9 => h9) rfl (by decide) w_85 (show decode prog_34_method_121_code 15 = .ok (.newarray .byte, 2) by decide +kernel) h ?_
    intro S4 h
    refine hg_letR h ?_
    intro v5 h
    refine hg_astoren (pc := 17) (j := 2) (i := 2) (r := v5) (lv' := [(2, va_rf v5), (0, va_rf p0), (1, .int p1)]) hC rfl (Nat.le_of_ble_eq_true rfl) rfl (show decode prog_34_method_121_code 17 = .ok (.astore_n 2, 1) by decide +kernel) ?_
    refine hg_aloadn (pc := 18) (j := 0) (i := 0) (r := p0) hC 1 rfl rfl (show decode prog_34_method_121_code 18 = .ok (.aload_n 0, 1) by decide +kernel) ?_
    refine hg_iconst (pc := 19) (v := 0) hC (show decode prog_34_method_121_code 19 = .ok (.iconst 0, 1) by decide +kernel) (by decide +kernel) ?_
    refine hg_aloadn (pc := 20) (j := 2) (i := 2) (r := v5) hC 0 rfl rfl (show decode prog_34_method_121_code 20 = .ok (.aload_n 2, 1) by decide +kernel) ?_
    refine hg_iconst (pc := 21) (v := 0) hC (show decode prog_34_method_121_code 21 = .ok (.iconst 0, 1) by decide +kernel) (by decide +kernel) ?_
    refine hg_aloadn (pc := 22) (j := 0) (i := 0) (r := p0) hC 1 rfl rfl (show decode prog_34_method_121_code 22 = .ok (.aload_n 0, 1) by decide +kernel) ?_
    refine hg_rlen (pc := 23) (r := p0) (t := 1) hC rfl (show decode prog_34_method_121_code 23 = .ok (.arraylength, 1) by decide +kernel) h ?_
    intro e6 h
    refine hg_iloadn (pc := 24) (j := 1) (i := 1) hC 2 rfl rfl (show decode prog_34_method_121_code 24 = .ok (.iload_n 1, 1) by decide +kernel) ?_
    refine hg_mmin (pc := 25) hC w_101 w_102 w_4 w_103 (Nat.le_of_ble_eq_true rfl) (by simp only [List.map, va_rf_cat]; exact Nat.le_of_ble_eq_true rfl) (show decode prog_34_method_121_code 25 = .ok (.invokestatic 304, 3) by decide +kernel) ?_
    refine hg_rcpy (pc := 28) (t := 1) (r0 := p0) (r1 := v5) hC rfl rfl w_104 w_106 w_105 w_5 (Nat.le_of_ble_eq_true rfl) (Nat.le_of_ble_eq_true rfl) (show decode prog_34_method_121_code 28 = .ok (.invokestatic 150, 3) by decide +kernel) h ?_
    intro S7 h
    refine hg_aloadn (pc := 31) (j := 2) (i := 2) (r := v5) hC 0 rfl rfl (show decode prog_34_method_121_code 31 = .ok (.aload_n 2, 1) by decide +kernel) ?_
    exact hg_aret (pc := 32) (r := v5) hC hR (by first | exact Or.inl ⟨_, rfl⟩ | exact Or.inr ⟨_, rfl⟩) (hF _ (dc_some h)) (show decode prog_34_method_121_code 32 = .ok (.areturn, 1) by decide +kernel)
noncomputable def hm_ST_coder_L14 (G : hg_E) (S : hg_S) (o : Nat) (y0 : Int32) : Option (Int32) :=
  (hg_nok .byte y0).bind fun _ => some y0
noncomputable def hm_ST_coder (G : hg_E) (S : hg_S) (o : Nat) : Option (Int32) :=
  if (1 : Int32) = 0 then (hm_ST_coder_L14 G S o 1) else ((hg_sk G 10 (some o)).bind fun j2 => hm_ST_coder_L14 G S o 0)
set_option maxHeartbeats 4000000 in
set_option maxRecDepth 100000 in
/-- java/lang/String.coder()B -/
theorem hm_ST_coder_ok (l : Launch) (D : va_G) (G : hg_E) (Z : hg_S) (o : Nat) (q : Int32) (hq : hm_ST_coder G Z o = some q) : hg_C l ⟨"java/lang/String", "coder", "()B"⟩ prog_26_method_152_code 1 (some (.byte)) 0 0 D G [.ref o] Z (.inl (some (.int q), Z) : hg_O) := by
  refine hg_start (cv := fun q => (.inl (some (.int q), Z) : hg_O)) hq ?_
  intro F hF h
  refine hg_enter (lv := [(0, va_rf (some o))]) (by decide +kernel) (by simp [lg_sl, va_rf_cat, hg_cti, hg_ctr]) (by simp [lv_args, va_rf_cat, va_rf_some, hg_cti, hg_ctr]) ?_
  intro X hC hR
  have lab_14 : ∀ (y0 : Int32), dc_wp (hm_ST_coder_L14 G Z o y0) F → hg_G X l (hg_rm 0 0 Z) D 1 Z 14 [(0, va_rf (some o))] [.int y0] := by
    intro y0 h
    delta hm_ST_coder_L14 at h
    obtain ⟨_, hk1, h⟩ := dc_bind h
    exact hg_sret (pc := 14) hC hR (hg_nok_of hk1) (hF _ (dc_some h)) (show decode prog_26_method_152_code 14 = .ok (.ireturn, 1) by decide +kernel)
  show hg_G X l (hg_rm 0 0 Z) D 1 Z 0 [(0, va_rf (some o))] []
  have h : dc_wp (hm_ST_coder G Z o) F := h
  delta hm_ST_coder at h
  refine hg_gsv (pc := 0) hC he_compact w_430 (show decode prog_26_method_152_code 0 = .ok (.getstatic 38, 3) by decide +kernel) ?_
  refine hg_if_eq (pc := 3) (tgt := 13) hC (show decode prog_26_method_152_code 3 = .ok (.ifCond .eq 10, 3) by decide +kernel) (by decide +kernel) h ?_ ?_
  · intro h
    refine hg_iconst (pc := 13) (v := 1) hC (show decode prog_26_method_152_code 13 = .ok (.iconst 1, 1) by decide +kernel) (by decide +kernel) ?_
    exact lab_14 1 h
  · intro h
    refine hg_aloadn (pc := 6) (j := 0) (i := 0) (r := (some o)) hC 0 rfl rfl (show decode prog_26_method_152_code 6 = .ok (.aload_n 0, 1) by decide +kernel) ?_
    obtain ⟨j2, hj3, h⟩ := dc_bind h
    obtain ⟨hj4, hj5⟩ := hg_sk_of hj3
    refine hg_top hj5 ?_
    refine hg_of (pc := 7) hC (he_coder hj4) (Or.inl w_2370) (show decode prog_26_method_152_code 7 = .ok (.getfield 15, 3) by decide +kernel) ?_
    refine hg_goto (pc := 10) (tgt := 14) hC (show decode prog_26_method_152_code 10 = .ok (.goto 4, 3) by decide +kernel) (by decide +kernel) ?_
    exact lab_14 0 h
noncomputable def hm_ST_length (G : hg_E) (S : hg_S) (o : Nat) : Option (Int32) :=
  (hg_sk G 10 (some o)).bind fun j1 => (hg_sk G 50 ((some (G.2.2.2 (50 + j1))))).bind fun j5 => (hg_sk G 10 (some o)).bind fun j9 => (hm_ST_coder G S (G.2.2.2 (10 + j9))).bind fun q13 => some (((Int32.ofNat (hk_tx.getD j5 []).length) >>> (q13 &&& (31 : Int32))))
set_option maxHeartbeats 4000000 in
set_option maxRecDepth 100000 in
/-- java/lang/String.length()I -/
theorem hm_ST_length_ok (l : Launch) (D : va_G) (G : hg_E) (Z : hg_S) (o : Nat) (q : Int32) (hq : hm_ST_length G Z o = some q) : hg_C l ⟨"java/lang/String", "length", "()I"⟩ prog_26_method_54_code 1 (some (.int)) 1 20 D G [.ref o] Z (.inl (some (.int q), Z) : hg_O) := by
  refine hg_start (cv := fun q => (.inl (some (.int q), Z) : hg_O)) hq ?_
  intro F hF h
  refine hg_enter (lv := [(0, va_rf (some o))]) (by decide +kernel) (by simp [lg_sl, va_rf_cat, hg_cti, hg_ctr]) (by simp [lv_args, va_rf_cat, va_rf_some, hg_cti, hg_ctr]) ?_
  intro X hC hR
  show hg_G X l (hg_rm 1 20 Z) D 1 Z 0 [(0, va_rf (some o))] []
  have h : dc_wp (hm_ST_length G Z o) F := h
  delta hm_ST_length at h
  refine hg_aloadn (pc := 0) (j := 0) (i := 0) (r := (some o)) hC 0 rfl rfl (show decode prog_26_method_54_code 0 = .ok (.aload_n 0, 1) by decide +kernel) ?_
  obtain ⟨j1, hj2, h⟩ := dc_bind h
  obtain ⟨hj3, hj4⟩ := hg_sk_of hj2
  refine hg_top hj4 ?_
  refine hg_of (pc := 1) hC (he_value hj3) (Or.inl w_2369) (show decode prog_26_method_54_code 1 = .ok (.getfield 9, 3) by decide +kernel) ?_
  obtain ⟨j5, hj6, h⟩ := dc_bind h
  obtain ⟨hj7, hj8⟩ := hg_sk_of hj6
  refine hg_top hj8 ?_
  refine hg_txl (pc := 4) hC hj7 (show decode prog_26_method_54_code 4 = .ok (.arraylength, 1) by decide +kernel) ?_
  refine hg_aloadn (pc := 5) (j := 0) (i := 0) (r := (some o)) hC 0 rfl rfl (show decode prog_26_method_54_code 5 = .ok (.aload_n 0, 1) by decide +kernel) ?_
  obtain ⟨j9, hj10, h⟩ := dc_bind h
  obtain ⟨hj11, hj12⟩ := hg_sk_of hj10
  refine hg_kEi (pc := 6) (b := (G.2.2.2 (10 + j9))) (r := (some o)) (As := []) (rest := [.int (Int32.ofNat (hk_tx.getD j5 []).length)]) (vo := fun q => q) (so := fun q => Z) hC cw_java_lang_String_335 (fun q hq => hm_ST_coder_ok l D G Z (G.2.2.2 (10 + j9)) q hq) (Nat.le_of_ble_eq_true rfl) (Nat.le_of_ble_eq_true rfl) hj12 (he_str hj11) rfl (Nat.le_of_ble_eq_true rfl) (show decode prog_26_method_54_code 6 = .ok (.invokevirtual 335, 3) by decide +kernel) h ?_
  intro q13 h
  refine hg_ishr (pc := 9) hC (show decode prog_26_method_54_code 9 = .ok (.ishr, 1) by decide +kernel) ?_
  exact hg_iret (pc := 10) hC hR (hF _ (dc_some h)) (show decode prog_26_method_54_code 10 = .ok (.ireturn, 1) by decide +kernel)
noncomputable def hm_ST_isLatin1_L18 (G : hg_E) (S : hg_S) (o : Nat) (y0 : Int32) : Option (Int32) :=
  (dc_zb y0).bind fun _ => some y0
noncomputable def hm_ST_isLatin1_L17 (G : hg_E) (S : hg_S) (o : Nat) : Option (Int32) :=
  hm_ST_isLatin1_L18 G S o 0
noncomputable def hm_ST_isLatin1 (G : hg_E) (S : hg_S) (o : Nat) : Option (Int32) :=
  if (1 : Int32) = 0 then (hm_ST_isLatin1_L17 G S o) else ((hg_sk G 10 (some o)).bind fun j2 => if (0 : Int32) = 0 then (hm_ST_isLatin1_L18 G S o 1) else (hm_ST_isLatin1_L17 G S o))
set_option maxHeartbeats 4000000 in
set_option maxRecDepth 100000 in
/-- java/lang/String.isLatin1()Z -/
theorem hm_ST_isLatin1_ok (l : Launch) (D : va_G) (G : hg_E) (Z : hg_S) (o : Nat) (q : Int32) (hq : hm_ST_isLatin1 G Z o = some q) : hg_C l ⟨"java/lang/String", "isLatin1", "()Z"⟩ prog_26_method_154_code 1 (some (.boolean)) 0 0 D G [.ref o] Z (.inl (some (.int q), Z) : hg_O) := by
  refine hg_start (cv := fun q => (.inl (some (.int q), Z) : hg_O)) hq ?_
  intro F hF h
  refine hg_enter (lv := [(0, va_rf (some o))]) (by decide +kernel) (by simp [lg_sl, va_rf_cat, hg_cti, hg_ctr]) (by simp [lv_args, va_rf_cat, va_rf_some, hg_cti, hg_ctr]) ?_
  intro X hC hR
  have lab_18 : ∀ (y0 : Int32), dc_wp (hm_ST_isLatin1_L18 G Z o y0) F → hg_G X l (hg_rm 0 0 Z) D 1 Z 18 [(0, va_rf (some o))] [.int y0] := by
    intro y0 h
    delta hm_ST_isLatin1_L18 at h
    obtain ⟨hz1, h⟩ := dc_zb_wp (dc_bind h)
    exact hg_zret (pc := 18) hC hR hz1 (hF _ (dc_some h)) (show decode prog_26_method_154_code 18 = .ok (.ireturn, 1) by decide +kernel)
  have lab_17 : dc_wp (hm_ST_isLatin1_L17 G Z o) F → hg_G X l (hg_rm 0 0 Z) D 1 Z 17 [(0, va_rf (some o))] [] := by
    intro  h
    delta hm_ST_isLatin1_L17 at h
    refine hg_iconst (pc := 17) (v := 0) hC (show decode prog_26_method_154_code 17 = .ok (.iconst 0, 1) by decide +kernel) (by decide +kernel) ?_
    exact lab_18 0 h
  show hg_G X l (hg_rm 0 0 Z) D 1 Z 0 [(0, va_rf (some o))] []
  have h : dc_wp (hm_ST_isLatin1 G Z o) F := h
  delta hm_ST_isLatin1 at h
  refine hg_gsv (pc := 0) hC he_compact w_430 (show decode prog_26_method_154_code 0 = .ok (.getstatic 38, 3) by decide +kernel) ?_
  refine hg_if_eq (pc := 3) (tgt := 17) hC (show decode prog_26_method_154_code 3 = .ok (.ifCond .eq 14, 3) by decide +kernel) (by decide +kernel) h ?_ ?_
  · intro h
    exact lab_17 h
  · intro h
    refine hg_aloadn (pc := 6) (j := 0) (i := 0) (r := (some o)) hC 0 rfl rfl (show decode prog_26_method_154_code 6 = .ok (.aload_n 0, 1) by decide +kernel) ?_
    obtain ⟨j2, hj3, h⟩ := dc_bind h
    obtain ⟨hj4, hj5⟩ := hg_sk_of hj3
    refine hg_top hj5 ?_
    refine hg_of (pc := 7) hC (he_coder hj4) (Or.inl w_2370) (show decode prog_26_method_154_code 7 = .ok (.getfield 15, 3) by decide +kernel) ?_
    refine hg_if_ne (pc := 10) (tgt := 17) hC (show decode prog_26_method_154_code 10 = .ok (.ifCond .ne 7, 3) by decide +kernel) (by decide +kernel) h ?_ ?_
    · intro h
      refine hg_iconst (pc := 13) (v := 1) hC (show decode prog_26_method_154_code 13 = .ok (.iconst 1, 1) by decide +kernel) (by decide +kernel) ?_
      refine hg_goto (pc := 14) (tgt := 18) hC (show decode prog_26_method_154_code 14 = .ok (.goto 4, 3) by decide +kernel) (by decide +kernel) ?_
      exact lab_18 1 h
    · intro h
      exact lab_17 h
noncomputable def hm_PC_checkIndex_L9 (G : hg_E) (S : hg_S) : Option (Int32) :=
  none
noncomputable def hm_PC_checkIndex (G : hg_E) (S : hg_S) (p0 : Int32) (p1 : Int32) : Option (Int32) :=
  if p0 < 0 then (hm_PC_checkIndex_L9 G S) else (if p0 < p1 then (some p0) else (hm_PC_checkIndex_L9 G S))
set_option maxHeartbeats 4000000 in
set_option maxRecDepth 100000 in
/-- jdk/internal/util/Preconditions.checkIndex(IILjava/util/function/BiFunction;)I -/
theorem hm_PC_checkIndex_ok (l : Launch) (D : va_G) (G : hg_E) (Z : hg_S) (p0 : Int32) (p1 : Int32) (p2 : Option Nat) (q : Int32) (hq : hm_PC_checkIndex G Z p0 p1 = some q) : hg_C l ⟨"jdk/internal/util/Preconditions", "checkIndex", "(IILjava/util/function/BiFunction;)I"⟩ prog_41_method_11_code 3 (some (.int)) 0 0 D G [.int p0, .int p1, va_rf p2] Z (.inl (some (.int q), Z) : hg_O) := by
  refine hg_start (cv := fun q => (.inl (some (.int q), Z) : hg_O)) hq ?_
  intro F hF h
  refine hg_enter (lv := [(0, .int p0), (1, .int p1), (2, va_rf p2)]) (by decide +kernel) (by simp [lg_sl, va_rf_cat, hg_cti, hg_ctr]) (by simp [lv_args, va_rf_cat, va_rf_some, hg_cti, hg_ctr]) ?_
  intro X hC hR
  have lab_9 : dc_wp (hm_PC_checkIndex_L9 G Z) F → hg_G X l (hg_rm 0 0 Z) D 3 Z 9 [] [] := by
    intro  h
    delta hm_PC_checkIndex_L9 at h
    exact (dc_not h).elim
  show hg_G X l (hg_rm 0 0 Z) D 3 Z 0 [(0, .int p0), (1, .int p1), (2, va_rf p2)] []
  have h : dc_wp (hm_PC_checkIndex G Z p0 p1) F := h
  delta hm_PC_checkIndex at h
  refine hg_iloadn (pc := 0) (j := 0) (i := 0) hC 0 rfl rfl (show decode prog_41_method_11_code 0 = .ok (.iload_n 0, 1) by decide +kernel) ?_
  refine hg_if_lt (pc := 1) (tgt := 9) hC (show decode prog_41_method_11_code 1 = .ok (.ifCond .lt 8, 3) by decide +kernel) (by decide +kernel) h ?_ ?_
  · intro h
    exact hg_sub [] rfl (lab_9 h)
  · intro h
    refine hg_iloadn (pc := 4) (j := 0) (i := 0) hC 0 rfl rfl (show decode prog_41_method_11_code 4 = .ok (.iload_n 0, 1) by decide +kernel) ?_
    refine hg_iloadn (pc := 5) (j := 1) (i := 1) hC 1 rfl rfl (show decode prog_41_method_11_code 5 = .ok (.iload_n 1, 1) by decide +kernel) ?_
    refine hg_icmp_lt (pc := 6) (tgt := 16) hC (show decode prog_41_method_11_code 6 = .ok (.if_icmp .lt 10, 3) by decide +kernel) (by decide +kernel) h ?_ ?_
    · intro h
      refine hg_iloadn (pc := 16) (j := 0) (i := 0) hC 0 rfl rfl (show decode prog_41_method_11_code 16 = .ok (.iload_n 0, 1) by decide +kernel) ?_
      exact hg_iret (pc := 17) hC hR (hF _ (dc_some h)) (show decode prog_41_method_11_code 17 = .ok (.ireturn, 1) by decide +kernel)
    · intro h
      exact hg_sub [] rfl (lab_9 h)
noncomputable def hm_ST_checkIndex (G : hg_E) (S : hg_S) (p0 : Int32) (p1 : Int32) : Option (Unit) :=
  (hm_PC_checkIndex G S p0 p1).bind fun q2 => some ()
set_option maxHeartbeats 4000000 in
set_option maxRecDepth 100000 in
/-- java/lang/String.checkIndex(II)V -/
theorem hm_ST_checkIndex_ok (l : Launch) (D : va_G) (G : hg_E) (Z : hg_S) (p0 : Int32) (p1 : Int32) (q : Unit) (hq : hm_ST_checkIndex G Z p0 p1 = some q) : hg_C l ⟨"java/lang/String", "checkIndex", "(II)V"⟩ prog_26_method_155_code 2 none 1 22 D G [.int p0, .int p1] Z (.inl (none, Z) : hg_O) := by
  refine hg_start (cv := fun q => (.inl (none, Z) : hg_O)) hq ?_
  intro F hF h
  refine hg_enter (lv := [(0, .int p0), (1, .int p1)]) (by decide +kernel) (by simp [lg_sl, va_rf_cat, hg_cti, hg_ctr]) (by simp [lv_args, va_rf_cat, va_rf_some, hg_cti, hg_ctr]) ?_
  intro X hC hR
  show hg_G X l (hg_rm 1 22 Z) D 2 Z 0 [(0, .int p0), (1, .int p1)] []
  have h : dc_wp (hm_ST_checkIndex G Z p0 p1) F := h
  delta hm_ST_checkIndex at h
  refine hg_iloadn (pc := 0) (j := 0) (i := 0) hC 0 rfl rfl (show decode prog_26_method_155_code 0 = .ok (.iload_n 0, 1) by decide +kernel) ?_
  refine hg_iloadn (pc := 1) (j := 1) (i := 1) hC 1 rfl rfl (show decode prog_26_method_155_code 1 = .ok (.iload_n 1, 1) by decide +kernel) ?_
  refine hg_gsx (pc := 2) hC w_446 (show decode prog_26_method_155_code 2 = .ok (.getstatic 1053, 3) by decide +kernel) ?_
  intro rx1
  refine hg_kSi (pc := 5) (As := [.int p0, .int p1, va_rf rx1]) (rest := []) (vo := fun q => q) (so := fun q => Z) hC cw_java_lang_String_1059 (fun q hq => hm_PC_checkIndex_ok l D G Z p0 p1 rx1 q hq) (Nat.le_of_ble_eq_true rfl) (Nat.le_of_ble_eq_true rfl) rfl (Nat.le_of_ble_eq_true rfl) (show decode prog_26_method_155_code 5 = .ok (.invokestatic 1059, 3) by decide +kernel) h ?_
  intro q2 h
  refine hg_pop (pc := 8) hC (show decode prog_26_method_155_code 8 = .ok (.pop, 1) by decide +kernel) rfl ?_
  exact hg_vret (pc := 9) hC hR (hF _ (dc_some h)) (show decode prog_26_method_155_code 9 = .ok (.return_, 1) by decide +kernel)
noncomputable def hm_SL_charAt (G : hg_E) (S : hg_S) (p0 : Option Nat) (p1 : Int32) : Option (Int32) :=
  (hg_sk G 50 p0).bind fun j1 => (hm_ST_checkIndex G S p1 (Int32.ofNat (hk_tx.getD j1 []).length)).bind fun q5 => (hg_sk G 50 p0).bind fun j6 => (hg_cst (hk_tx.getD j6 []) p1).bind fun e10 => (hg_nok .char (((Int32.toUInt32 (e10 &&& 255) % 65536).toInt32))).bind fun _ => some (((Int32.toUInt32 (e10 &&& 255) % 65536).toInt32))
set_option maxHeartbeats 4000000 in
set_option maxRecDepth 100000 in
/-- java/lang/StringLatin1.charAt([BI)C -/
theorem hm_SL_charAt_ok (l : Launch) (D : va_G) (G : hg_E) (Z : hg_S) (p0 : Option Nat) (p1 : Int32) (q : Int32) (hq : hm_SL_charAt G Z p0 p1 = some q) : hg_C l ⟨"java/lang/StringLatin1", "charAt", "([BI)C"⟩ prog_27_method_2_code 2 (some (.char)) 2 43 D G [va_rf p0, .int p1] Z (.inl (some (.int q), Z) : hg_O) := by
  refine hg_start (cv := fun q => (.inl (some (.int q), Z) : hg_O)) hq ?_
  intro F hF h
  refine hg_enter (lv := [(0, va_rf p0), (1, .int p1)]) (by decide +kernel) (by simp [lg_sl, va_rf_cat, hg_cti, hg_ctr]) (by simp [lv_args, va_rf_cat, va_rf_some, hg_cti, hg_ctr]) ?_
  intro X hC hR
  show hg_G X l (hg_rm 2 43 Z) D 2 Z 0 [(0, va_rf p0), (1, .int p1)] []
  have h : dc_wp (hm_SL_charAt G Z p0 p1) F := h
  delta hm_SL_charAt at h
  refine hg_iloadn (pc := 0) (j := 1) (i := 1) hC 1 rfl rfl (show decode prog_27_method_2_code 0 = .ok (.iload_n 1, 1) by decide +kernel) ?_
  refine hg_aloadn (pc := 1) (j := 0) (i := 0) (r := p0) hC 0 rfl rfl (show decode prog_27_method_2_code 1 = .ok (.aload_n 0, 1) by decide +kernel) ?_
  obtain ⟨j1, hj2, h⟩ := dc_bind h
  obtain ⟨hj3, hj4⟩ := hg_sk_of hj2
  refine hg_top hj4 ?_
  refine hg_txl (pc := 2) hC hj3 (show decode prog_27_method_2_code 2 = .ok (.arraylength, 1) by decide +kernel) ?_
  refine hg_kSv (pc := 3) (As := [.int p1, .int (Int32.ofNat (hk_tx.getD j1 []).length)]) (rest := []) (so := fun q => Z) hC cw_java_lang_StringLatin1_9 (fun q hq => hm_ST_checkIndex_ok l D G Z p1 (Int32.ofNat (hk_tx.getD j1 []).length) q hq) (Nat.le_of_ble_eq_true rfl) (Nat.le_of_ble_eq_true rfl) rfl (Nat.le_of_ble_eq_true rfl) (show decode prog_27_method_2_code 3 = .ok (.invokestatic 9, 3) by decide +kernel) h ?_
  intro q5 h
  refine hg_aloadn (pc := 6) (j := 0) (i := 0) (r := p0) hC 0 rfl rfl (show decode prog_27_method_2_code 6 = .ok (.aload_n 0, 1) by decide +kernel) ?_
  refine hg_iloadn (pc := 7) (j := 1) (i := 1) hC 1 rfl rfl (show decode prog_27_method_2_code 7 = .ok (.iload_n 1, 1) by decide +kernel) ?_
  obtain ⟨j6, hj7, h⟩ := dc_bind h
  obtain ⟨hj8, hj9⟩ := hg_sk_of hj7
  refine hg_top2 hj9 ?_
  refine hg_txa (pc := 8) hC hj8 (show decode prog_27_method_2_code 8 = .ok (.baload, 1) by decide +kernel) h ?_
  intro e10 h
  refine hg_sipush (pc := 9) (v := 255) hC (show decode prog_27_method_2_code 9 = .ok (.sipush 255, 3) by decide +kernel) (by decide +kernel) ?_
  refine hg_iand (pc := 12) hC (show decode prog_27_method_2_code 12 = .ok (.iand, 1) by decide +kernel) ?_
  refine hg_i2c (pc := 13) hC (show decode prog_27_method_2_code 13 = .ok (.i2c, 1) by decide +kernel) ?_
  obtain ⟨_, hk11, h⟩ := dc_bind h
  exact hg_sret (pc := 14) hC hR (hg_nok_of hk11) (hF _ (dc_some h)) (show decode prog_27_method_2_code 14 = .ok (.ireturn, 1) by decide +kernel)
noncomputable def hm_ST_charAt (G : hg_E) (S : hg_S) (o : Nat) (p1 : Int32) : Option (Int32) :=
  (hg_sk G 10 (some o)).bind fun j1 => (hm_ST_isLatin1 G S (G.2.2.2 (10 + j1))).bind fun q5 => if q5 = 0 then ((hg_sk G 10 (some o)).bind fun j6 => none) else ((hg_sk G 10 (some o)).bind fun j10 => (hm_SL_charAt G S ((some (G.2.2.2 (50 + j10)))) p1).bind fun q14 => (hg_nok .char q14).bind fun _ => some q14)
set_option maxHeartbeats 4000000 in
set_option maxRecDepth 100000 in
/-- java/lang/String.charAt(I)C -/
theorem hm_ST_charAt_ok (l : Launch) (D : va_G) (G : hg_E) (Z : hg_S) (o : Nat) (p1 : Int32) (q : Int32) (hq : hm_ST_charAt G Z o p1 = some q) : hg_C l ⟨"java/lang/String", "charAt", "(I)C"⟩ prog_26_method_56_code 2 (some (.char)) 3 64 D G [.ref o, .int p1] Z (.inl (some (.int q), Z) : hg_O) := by
  refine hg_start (cv := fun q => (.inl (some (.int q), Z) : hg_O)) hq ?_
  intro F hF h
  refine hg_enter (lv := [(0, va_rf (some o)), (1, .int p1)]) (by decide +kernel) (by simp [lg_sl, va_rf_cat, hg_cti, hg_ctr]) (by simp [lv_args, va_rf_cat, va_rf_some, hg_cti, hg_ctr]) ?_
  intro X hC hR
  show hg_G X l (hg_rm 3 64 Z) D 2 Z 0 [(0, va_rf (some o)), (1, .int p1)] []
  have h : dc_wp (hm_ST_charAt G Z o p1) F := h
  delta hm_ST_charAt at h
  refine hg_aloadn (pc := 0) (j := 0) (i := 0) (r := (some o)) hC 0 rfl rfl (show decode prog_26_method_56_code 0 = .ok (.aload_n 0, 1) by decide +kernel) ?_
  obtain ⟨j1, hj2, h⟩ := dc_bind h
  obtain ⟨hj3, hj4⟩ := hg_sk_of hj2
  refine hg_kEi (pc := 1) (b := (G.2.2.2 (10 + j1))) (r := (some o)) (As := []) (rest := []) (vo := fun q => q) (so := fun q => Z) hC cw_java_lang_String_492 (fun q hq => hm_ST_isLatin1_ok l D G Z (G.2.2.2 (10 + j1)) q hq) (Nat.le_of_ble_eq_true rfl) (Nat.le_of_ble_eq_true rfl) hj4 (he_str hj3) rfl (Nat.le_of_ble_eq_true rfl) (show decode prog_26_method_56_code 1 = .ok (.invokevirtual 492, 3) by decide +kernel) h ?_
  intro q5 h
  refine hg_if_eq (pc := 4) (tgt := 16) hC (show decode prog_26_method_56_code 4 = .ok (.ifCond .eq 12, 3) by decide +kernel) (by decide +kernel) h ?_ ?_
  · intro h
    refine hg_aloadn (pc := 16) (j := 0) (i := 0) (r := (some o)) hC 0 rfl rfl (show decode prog_26_method_56_code 16 = .ok (.aload_n 0, 1) by decide +kernel) ?_
    obtain ⟨j6, hj7, h⟩ := dc_bind h
    obtain ⟨hj8, hj9⟩ := hg_sk_of hj7
    refine hg_top hj9 ?_
    refine hg_of (pc := 17) hC (he_value hj8) (Or.inl w_2369) (show decode prog_26_method_56_code 17 = .ok (.getfield 9, 3) by decide +kernel) ?_
    refine hg_iloadn (pc := 20) (j := 1) (i := 1) hC 1 rfl rfl (show decode prog_26_method_56_code 20 = .ok (.iload_n 1, 1) by decide +kernel) ?_
    exact (dc_not h).elim
  · intro h
    refine hg_aloadn (pc := 7) (j := 0) (i := 0) (r := (some o)) hC 0 rfl rfl (show decode prog_26_method_56_code 7 = .ok (.aload_n 0, 1) by decide +kernel) ?_
    obtain ⟨j10, hj11, h⟩ := dc_bind h
    obtain ⟨hj12, hj13⟩ := hg_sk_of hj11
    refine hg_top hj13 ?_
    refine hg_of (pc := 8) hC (he_value hj12) (Or.inl w_2369) (show decode prog_26_method_56_code 8 = .ok (.getfield 9, 3) by decide +kernel) ?_
    refine hg_iloadn (pc := 11) (j := 1) (i := 1) hC 1 rfl rfl (show decode prog_26_method_56_code 11 = .ok (.iload_n 1, 1) by decide +kernel) ?_
    refine hg_kSi (pc := 12) (As := [va_rf ((some (G.2.2.2 (50 + j10)))), .int p1]) (rest := []) (vo := fun q => q) (so := fun q => Z) hC cw_java_lang_String_495 (fun q hq => hm_SL_charAt_ok l D G Z ((some (G.2.2.2 (50 + j10)))) p1 q hq) (Nat.le_of_ble_eq_true rfl) (Nat.le_of_ble_eq_true rfl) rfl (Nat.le_of_ble_eq_true rfl) (show decode prog_26_method_56_code 12 = .ok (.invokestatic 495, 3) by decide +kernel) h ?_
    intro q14 h
    obtain ⟨_, hk15, h⟩ := dc_bind h
    exact hg_sret (pc := 15) hC hR (hg_nok_of hk15) (hF _ (dc_some h)) (show decode prog_26_method_56_code 15 = .ok (.ireturn, 1) by decide +kernel)
noncomputable def hm_EN_ordinal (G : hg_E) (S : hg_S) (o : Nat) : Option (Int32) :=
  (hg_tk G (some o)).bind fun j1 => some (tk_or.getD j1 0)
set_option maxHeartbeats 4000000 in
set_option maxRecDepth 100000 in
/-- java/lang/Enum.ordinal()I -/
theorem hm_EN_ordinal_ok (l : Launch) (D : va_G) (G : hg_E) (Z : hg_S) (o : Nat) (q : Int32) (hq : hm_EN_ordinal G Z o = some q) : hg_C l ⟨"java/lang/Enum", "ordinal", "()I"⟩ prog_18_method_2_code 1 (some (.int)) 0 0 D G [.ref o] Z (.inl (some (.int q), Z) : hg_O) := by
  refine hg_start (cv := fun q => (.inl (some (.int q), Z) : hg_O)) hq ?_
  intro F hF h
  refine hg_enter (lv := [(0, va_rf (some o))]) (by decide +kernel) (by simp [lg_sl, va_rf_cat, hg_cti, hg_ctr]) (by simp [lv_args, va_rf_cat, va_rf_some, hg_cti, hg_ctr]) ?_
  intro X hC hR
  show hg_G X l (hg_rm 0 0 Z) D 1 Z 0 [(0, va_rf (some o))] []
  have h : dc_wp (hm_EN_ordinal G Z o) F := h
  delta hm_EN_ordinal at h
  refine hg_aloadn (pc := 0) (j := 0) (i := 0) (r := (some o)) hC 0 rfl rfl (show decode prog_18_method_2_code 0 = .ok (.aload_n 0, 1) by decide +kernel) ?_
  obtain ⟨j1, hj2, h⟩ := dc_bind h
  obtain ⟨hj3, hj4⟩ := hg_tk_of hj2
  refine hg_top hj4 ?_
  refine hg_of (pc := 1) hC (he_ord hj3) (Or.inl w_2372) (show decode prog_18_method_2_code 1 = .ok (.getfield 7, 3) by decide +kernel) ?_
  exact hg_iret (pc := 4) hC hR (hF _ (dc_some h)) (show decode prog_18_method_2_code 4 = .ok (.ireturn, 1) by decide +kernel)
noncomputable def hm_AC_init (G : hg_E) (S : hg_S) (o : Nat) : Option (Unit) :=
  some ()
set_option maxHeartbeats 4000000 in
set_option maxRecDepth 100000 in
/-- java/util/AbstractCollection.<init>()V -/
theorem hm_AC_init_ok (l : Launch) (D : va_G) (G : hg_E) (Z : hg_S) (o : Nat) (q : Unit) (hq : hm_AC_init G Z o = some q) : hg_C l ⟨"java/util/AbstractCollection", "<init>", "()V"⟩ prog_31_method_1_code 1 none 1 20 D G [.ref o] Z (.inl (none, Z) : hg_O) := by
  refine hg_start (cv := fun q => (.inl (none, Z) : hg_O)) hq ?_
  intro F hF h
  refine hg_enter (lv := [(0, va_rf (some o))]) (by decide +kernel) (by simp [lg_sl, va_rf_cat, hg_cti, hg_ctr]) (by simp [lv_args, va_rf_cat, va_rf_some, hg_cti, hg_ctr]) ?_
  intro X hC hR
  show hg_G X l (hg_rm 1 20 Z) D 1 Z 0 [(0, va_rf (some o))] []
  have h : dc_wp (hm_AC_init G Z o) F := h
  delta hm_AC_init at h
  refine hg_aloadn (pc := 0) (j := 0) (i := 0) (r := (some o)) hC 0 rfl rfl (show decode prog_31_method_1_code 0 = .ok (.aload_n 0, 1) by decide +kernel) ?_
  refine hg_oi (pc := 1) (a := o) hC w_146 w_40 w_41 (show decode prog_31_method_1_code 1 = .ok (.invokespecial 1, 3) by decide +kernel) (Nat.le_of_ble_eq_true rfl) (Nat.le_of_ble_eq_true rfl) ?_
  exact hg_vret (pc := 4) hC hR (hF _ (dc_some h)) (show decode prog_31_method_1_code 4 = .ok (.return_, 1) by decide +kernel)
noncomputable def hm_AB_init (G : hg_E) (S : hg_S) (o : Nat) : Option (hg_S) :=
  (hm_AC_init G S o).bind fun q1 => (hg_pf S (some o) 7 2 (.int 0)).bind fun S2 => some S2
set_option maxHeartbeats 4000000 in
set_option maxRecDepth 100000 in
/-- java/util/AbstractList.<init>()V -/
theorem hm_AB_init_ok (l : Launch) (D : va_G) (G : hg_E) (Z : hg_S) (o : Nat) (q : hg_S) (hq : hm_AB_init G Z o = some q) : hg_C l ⟨"java/util/AbstractList", "<init>", "()V"⟩ prog_32_method_1_code 1 none 2 40 D G [.ref o] Z (.inl (none, q) : hg_O) := by
  refine hg_start (cv := fun q => (.inl (none, q) : hg_O)) hq ?_
  intro F hF h
  refine hg_enter (lv := [(0, va_rf (some o))]) (by decide +kernel) (by simp [lg_sl, va_rf_cat, hg_cti, hg_ctr]) (by simp [lv_args, va_rf_cat, va_rf_some, hg_cti, hg_ctr]) ?_
  intro X hC hR
  show hg_G X l (hg_rm 2 40 Z) D 1 Z 0 [(0, va_rf (some o))] []
  have h : dc_wp (hm_AB_init G Z o) F := h
  delta hm_AB_init at h
  refine hg_aloadn (pc := 0) (j := 0) (i := 0) (r := (some o)) hC 0 rfl rfl (show decode prog_32_method_1_code 0 = .ok (.aload_n 0, 1) by decide +kernel) ?_
  refine hg_kIv (pc := 1) (b := o) (r := (some o)) (As := []) (rest := []) (so := fun q => Z) hC cw_java_util_AbstractList_1 (fun q hq => hm_AC_init_ok l D G Z o q hq) (Nat.le_of_ble_eq_true rfl) (Nat.le_of_ble_eq_true rfl) rfl rfl (Nat.le_of_ble_eq_true rfl) (show decode prog_32_method_1_code 1 = .ok (.invokespecial 1, 3) by decide +kernel) h ?_
  intro q1 h
  refine hg_aloadn (pc := 4) (j := 0) (i := 0) (r := (some o)) hC 0 rfl rfl (show decode prog_32_method_1_code 4 = .ok (.aload_n 0, 1) by decide +kernel) ?_
  refine hg_iconst (pc := 5) (v := 0) hC (show decode prog_32_method_1_code 5 = .ok (.iconst 0, 1) by decide +kernel) (by decide +kernel) ?_
  refine hg_rput (pc := 6) (r := (some o)) (v := .int 0) hC fp_java_util_AbstractList_7 rfl rfl (show decode prog_32_method_1_code 6 = .ok (.putfield 7, 3) by decide +kernel) h ?_
  intro S2 h
  exact hg_vret (pc := 9) hC hR (hF _ (dc_some h)) (show decode prog_32_method_1_code 9 = .ok (.return_, 1) by decide +kernel)
noncomputable def hm_AL_init (G : hg_E) (S : hg_S) (o : Nat) : Option (hg_S) :=
  (hm_AB_init G S o).bind fun q1 => (hg_pf q1 (some o) 7 0 (va_rf (some G.2.2.1))).bind fun S2 => some S2
set_option maxHeartbeats 4000000 in
set_option maxRecDepth 100000 in
/-- java/util/ArrayList.<init>()V -/
theorem hm_AL_init_ok (l : Launch) (D : va_G) (G : hg_E) (Z : hg_S) (o : Nat) (q : hg_S) (hq : hm_AL_init G Z o = some q) : hg_C l ⟨"java/util/ArrayList", "<init>", "()V"⟩ prog_33_method_2_code 1 none 3 60 D G [.ref o] Z (.inl (none, q) : hg_O) := by
  refine hg_start (cv := fun q => (.inl (none, q) : hg_O)) hq ?_
  intro F hF h
  refine hg_enter (lv := [(0, va_rf (some o))]) (by decide +kernel) (by simp [lg_sl, va_rf_cat, hg_cti, hg_ctr]) (by simp [lv_args, va_rf_cat, va_rf_some, hg_cti, hg_ctr]) ?_
  intro X hC hR
  show hg_G X l (hg_rm 3 60 Z) D 1 Z 0 [(0, va_rf (some o))] []
  have h : dc_wp (hm_AL_init G Z o) F := h
  delta hm_AL_init at h
  refine hg_aloadn (pc := 0) (j := 0) (i := 0) (r := (some o)) hC 0 rfl rfl (show decode prog_33_method_2_code 0 = .ok (.aload_n 0, 1) by decide +kernel) ?_
  refine hg_kIv (pc := 1) (b := o) (r := (some o)) (As := []) (rest := []) (so := fun q => q) hC cw_java_util_ArrayList_1 (fun q hq => hm_AB_init_ok l D G Z o q hq) (Nat.le_of_ble_eq_true rfl) (Nat.le_of_ble_eq_true rfl) rfl rfl (Nat.le_of_ble_eq_true rfl) (show decode prog_33_method_2_code 1 = .ok (.invokespecial 1, 3) by decide +kernel) h ?_
  intro q1 h
  refine hg_aloadn (pc := 4) (j := 0) (i := 0) (r := (some o)) hC 0 rfl rfl (show decode prog_33_method_2_code 4 = .ok (.aload_n 0, 1) by decide +kernel) ?_
  refine hg_gsv (pc := 5) hC he_empty w_147 (show decode prog_33_method_2_code 5 = .ok (.getstatic 39, 3) by decide +kernel) ?_
  refine hg_rput (pc := 8) (r := (some o)) (v := va_rf (some G.2.2.1)) hC fp_java_util_ArrayList_9 (hg_na _).1 (hg_na _).2 (show decode prog_33_method_2_code 8 = .ok (.putfield 9, 3) by decide +kernel) h ?_
  intro S2 h
  exact hg_vret (pc := 11) hC hR (hF _ (dc_some h)) (show decode prog_33_method_2_code 11 = .ok (.return_, 1) by decide +kernel)
noncomputable def hm_AS_newLength_L21 (G : hg_E) (S : hg_S) (x0 : Int32) (x1 : Int32) : Option (Int32) :=
  none
noncomputable def hm_AS_newLength (G : hg_E) (S : hg_S) (p0 : Int32) (p1 : Int32) (p2 : Int32) : Option (Int32) :=
  dc_let ((p0 + (dc_max p1 p2)) : Int32) fun v1 => if (0 : Int32) < v1 then (if (2147483639 : Int32) < v1 then (hm_AS_newLength_L21 G S p0 p1) else (some v1)) else (hm_AS_newLength_L21 G S p0 p1)
set_option maxHeartbeats 4000000 in
set_option maxRecDepth 100000 in
/-- jdk/internal/util/ArraysSupport.newLength(III)I -/
theorem hm_AS_newLength_ok (l : Launch) (D : va_G) (G : hg_E) (Z : hg_S) (p0 : Int32) (p1 : Int32) (p2 : Int32) (q : Int32) (hq : hm_AS_newLength G Z p0 p1 p2 = some q) : hg_C l ⟨"jdk/internal/util/ArraysSupport", "newLength", "(III)I"⟩ prog_40_method_27_code 4 (some (.int)) 1 21 D G [.int p0, .int p1, .int p2] Z (.inl (some (.int q), Z) : hg_O) := by
  refine hg_start (cv := fun q => (.inl (some (.int q), Z) : hg_O)) hq ?_
  intro F hF h
  refine hg_enter (lv := [(0, .int p0), (1, .int p1), (2, .int p2)]) (by decide +kernel) (by simp [lg_sl, va_rf_cat, hg_cti, hg_ctr]) (by simp [lv_args, va_rf_cat, va_rf_some, hg_cti, hg_ctr]) ?_
  intro X hC hR
  have lab_21 : ∀ (x0 : Int32) (x1 : Int32), dc_wp (hm_AS_newLength_L21 G Z x0 x1) F → hg_G X l (hg_rm 1 21 Z) D 4 Z 21 [(0, .int x0), (1, .int x1)] [] := by
    intro x0 x1 h
    delta hm_AS_newLength_L21 at h
    refine hg_iloadn (pc := 21) (j := 0) (i := 0) hC 0 rfl rfl (show decode prog_40_method_27_code 21 = .ok (.iload_n 0, 1) by decide +kernel) ?_
    refine hg_iloadn (pc := 22) (j := 1) (i := 1) hC 1 rfl rfl (show decode prog_40_method_27_code 22 = .ok (.iload_n 1, 1) by decide +kernel) ?_
    exact (dc_not h).elim
  show hg_G X l (hg_rm 1 21 Z) D 4 Z 0 [(0, .int p0), (1, .int p1), (2, .int p2)] []
  have h : dc_wp (hm_AS_newLength G Z p0 p1 p2) F := h
  delta hm_AS_newLength at h
  refine hg_iloadn (pc := 0) (j := 0) (i := 0) hC 0 rfl rfl (show decode prog_40_method_27_code 0 = .ok (.iload_n 0, 1) by decide +kernel) ?_
  refine hg_iloadn (pc := 1) (j := 1) (i := 1) hC 1 rfl rfl (show decode prog_40_method_27_code 1 = .ok (.iload_n 1, 1) by decide +kernel) ?_
  refine hg_iloadn (pc := 2) (j := 2) (i := 2) hC 2 rfl rfl (show decode prog_40_method_27_code 2 = .ok (.iload_n 2, 1) by decide +kernel) ?_
  refine hg_mmax (pc := 3) hC w_632 w_633 w_4 w_634 (Nat.le_of_ble_eq_true rfl) (Nat.le_of_ble_eq_true rfl) (show decode prog_40_method_27_code 3 = .ok (.invokestatic 194, 3) by decide +kernel) ?_
  refine hg_iadd (pc := 6) hC (show decode prog_40_method_27_code 6 = .ok (.iadd, 1) by decide +kernel) ?_
  refine hg_letI h ?_
  intro v1 h
  refine hg_istoren (pc := 7) (j := 3) (i := 3) (lv' := [(3, .int v1), (0, .int p0), (1, .int p1), (2, .int p2)]) hC rfl (Nat.le_of_ble_eq_true rfl) rfl (show decode prog_40_method_27_code 7 = .ok (.istore_n 3, 1) by decide +kernel) ?_
  refine hg_iconst (pc := 8) (v := 0) hC (show decode prog_40_method_27_code 8 = .ok (.iconst 0, 1) by decide +kernel) (by decide +kernel) ?_
  refine hg_iloadn (pc := 9) (j := 3) (i := 3) hC 0 rfl rfl (show decode prog_40_method_27_code 9 = .ok (.iload_n 3, 1) by decide +kernel) ?_
  refine hg_icmp_ge (pc := 10) (tgt := 21) hC (show decode prog_40_method_27_code 10 = .ok (.if_icmp .ge 11, 3) by decide +kernel) (by decide +kernel) h ?_ ?_
  · intro h
    refine hg_iloadn (pc := 13) (j := 3) (i := 3) hC 0 rfl rfl (show decode prog_40_method_27_code 13 = .ok (.iload_n 3, 1) by decide +kernel) ?_
    refine hg_ldc (pc := 14) (v := 2147483639) hC w_635 (show decode prog_40_method_27_code 14 = .ok (.ldc 200, 2) by decide +kernel) ?_
    refine hg_icmp_gt (pc := 16) (tgt := 21) hC (show decode prog_40_method_27_code 16 = .ok (.if_icmp .gt 5, 3) by decide +kernel) (by decide +kernel) h ?_ ?_
    · intro h
      exact hg_sub [1, 2] rfl (lab_21 p0 p1 h)
    · intro h
      refine hg_iloadn (pc := 19) (j := 3) (i := 3) hC 0 rfl rfl (show decode prog_40_method_27_code 19 = .ok (.iload_n 3, 1) by decide +kernel) ?_
      exact hg_iret (pc := 20) hC hR (hF _ (dc_some h)) (show decode prog_40_method_27_code 20 = .ok (.ireturn, 1) by decide +kernel)
  · intro h
    exact hg_sub [1, 2] rfl (lab_21 p0 p1 h)
noncomputable def hm_JA_copyP (G : hg_E) (S : hg_S) (p0 : Option Nat) (p1 : Int32) (p2 : Option Nat) : Option (hg_S × (Option Nat)) :=
  if p2 = (some (G.2.2.2 5)) then ((hg_newo G S p1).bind fun S1 => dc_let ((some S.2.1) : Option Nat) fun v2 => (hg_oln G S1 p0).bind fun e3 => (hg_ocpy G S1 8 p0 0 v2 0 (hg_min e3 p1)).bind fun S4 => some (S4, v2)) else (none)
set_option maxHeartbeats 4000000 in
set_option maxRecDepth 100000 in
/-- java/util/Arrays.copyOf([Ljava/lang/Object;ILjava/lang/Class;)[Ljava/lang/Object; -/
theorem hm_JA_copyP_ok (l : Launch) (D : va_G) (G : hg_E) (Z : hg_S) (p0 : Option Nat) (p1 : Int32) (p2 : Option Nat) (q : hg_S × (Option Nat)) (hq : hm_JA_copyP G Z p0 p1 p2 = some q) : hg_C l ⟨"java/util/Arrays", "copyOf", "([Ljava/lang/Object;ILjava/lang/Class;)[Ljava/lang/Object;"⟩ prog_34_method_120_code 4 (some (.array (.object "java/lang/Object"))) 1 21 D G [va_rf p0, .int p1, va_rf p2] Z (.inl (some (va_rf q.2), q.1) : hg_O) := by
  refine hg_start (cv := fun q => (.inl (some (va_rf q.2), q.1) : hg_O)) hq ?_
  intro F hF h
  refine hg_enter (lv := [(0, va_rf p0), (1, .int p1), (2, va_rf p2)]) (by decide +kernel) (by simp [lg_sl, va_rf_cat, hg_cti, hg_ctr]) (by simp [lv_args, va_rf_cat, va_rf_some, hg_cti, hg_ctr]) ?_
  intro X hC hR
  show hg_G X l (hg_rm 1 21 Z) D 4 Z 0 [(0, va_rf p0), (1, .int p1), (2, va_rf p2)] []
  have h : dc_wp (hm_JA_copyP G Z p0 p1 p2) F := h
  delta hm_JA_copyP at h
  refine hg_aloadn (pc := 0) (j := 2) (i := 2) (r := p2) hC 2 rfl rfl (show decode prog_34_method_120_code 0 = .ok (.aload_n 2, 1) by decide +kernel) ?_
  refine hg_ldcM (pc := 1) hC w_665 (show decode prog_34_method_120_code 1 = .ok (.ldc 110, 2) by decide +kernel) ?_
  refine hg_acmp_ne (pc := 3) (tgt := 13) (x := p2) (y := (some (G.2.2.2 5))) hC (show decode prog_34_method_120_code 3 = .ok (.if_acmp .ne 10, 3) by decide +kernel) (by decide +kernel) h ?_ ?_
  · intro h
    refine hg_iloadn (pc := 6) (j := 1) (i := 1) hC 1 rfl rfl (show decode prog_34_method_120_code 6 = .ok (.iload_n 1, 1) by decide +kernel) ?_
    refine hg_rnewo (pc := 7) hC w_667 (show decode prog_34_method_120_code 7 = .ok (.anewarray 2, 3) by decide +kernel) h ?_
    intro S1 h
    refine hg_goto (pc := 10) (tgt := 24) hC (show decode prog_34_method_120_code 10 = .ok (.goto 14, 3) by decide +kernel) (by decide +kernel) ?_
    refine hg_letR h ?_
    intro v2 h
    refine hg_astoren (pc := 24) (j := 3) (i := 3) (r := v2) (lv' := [(3, va_rf v2), (0, va_rf p0), (1, .int p1), (2, va_rf p2)]) hC rfl (Nat.le_of_ble_eq_true rfl) (by simp [va_rf_cat, hg_cti]) (show decode prog_34_method_120_code 24 = .ok (.astore_n 3, 1) by decide +kernel) ?_
    refine hg_aloadn (pc := 25) (j := 0) (i := 0) (r := p0) hC 1 rfl rfl (show decode prog_34_method_120_code 25 = .ok (.aload_n 0, 1) by decide +kernel) ?_
    refine hg_iconst (pc := 26) (v := 0) hC (show decode prog_34_method_120_code 26 = .ok (.iconst 0, 1) by decide +kernel) (by decide +kernel) ?_
    refine hg_aloadn (pc := 27) (j := 3) (i := 3) (r := v2) hC 0 rfl rfl (show decode prog_34_method_120_code 27 = .ok (.aload_n 3, 1) by decide +kernel) ?_
    refine hg_iconst (pc := 28) (v := 0) hC (show decode prog_34_method_120_code 28 = .ok (.iconst 0, 1) by decide +kernel) (by decide +kernel) ?_
    refine hg_aloadn (pc := 29) (j := 0) (i := 0) (r := p0) hC 1 rfl rfl (show decode prog_34_method_120_code 29 = .ok (.aload_n 0, 1) by decide +kernel) ?_
    refine hg_roln (pc := 30) (r := p0) hC (show decode prog_34_method_120_code 30 = .ok (.arraylength, 1) by decide +kernel) h ?_
    intro e3 h
    refine hg_iloadn (pc := 31) (j := 1) (i := 1) hC 2 rfl rfl (show decode prog_34_method_120_code 31 = .ok (.iload_n 1, 1) by decide +kernel) ?_
    refine hg_mmin (pc := 32) hC w_101 w_102 w_4 w_103 (Nat.le_of_ble_eq_true rfl) (by simp only [List.map, va_rf_cat]; exact Nat.le_of_ble_eq_true rfl) (show decode prog_34_method_120_code 32 = .ok (.invokestatic 304, 3) by decide +kernel) ?_
    refine hg_rocpy (pc := 35) (r0 := p0) (r1 := v2) hC (ci := 8) (C := R_ND) rfl wn_2362 w_104 w_106 w_105 w_5 (Nat.le_of_ble_eq_true rfl) (Nat.le_of_ble_eq_true rfl) (show decode prog_34_method_120_code 35 = .ok (.invokestatic 150, 3) by decide +kernel) h ?_
    intro S4 h
    refine hg_aloadn (pc := 38) (j := 3) (i := 3) (r := v2) hC 0 rfl rfl (show decode prog_34_method_120_code 38 = .ok (.aload_n 3, 1) by decide +kernel) ?_
    exact hg_aret (pc := 39) (r := v2) hC hR (by first | exact Or.inl ⟨_, rfl⟩ | exact Or.inr ⟨_, rfl⟩) (hF _ (dc_some h)) (show decode prog_34_method_120_code 39 = .ok (.areturn, 1) by decide +kernel)
  · intro h
    refine hg_aloadn (pc := 13) (j := 2) (i := 2) (r := p2) hC 2 rfl rfl (show decode prog_34_method_120_code 13 = .ok (.aload_n 2, 1) by decide +kernel) ?_
    exact (dc_not h).elim
noncomputable def hm_JA_copyO (G : hg_E) (S : hg_S) (p0 : Option Nat) (p1 : Int32) : Option (hg_S × (Option Nat)) :=
  (hg_oa S p0 (G.1 3)).bind fun e1 => (hm_JA_copyP G S p0 p1 (some (G.2.2.2 5))).bind fun q2 => some (q2.1, q2.2)
set_option maxHeartbeats 4000000 in
set_option maxRecDepth 100000 in
/-- java/util/Arrays.copyOf([Ljava/lang/Object;I)[Ljava/lang/Object; -/
theorem hm_JA_copyO_ok (l : Launch) (D : va_G) (G : hg_E) (Z : hg_S) (p0 : Option Nat) (p1 : Int32) (q : hg_S × (Option Nat)) (hq : hm_JA_copyO G Z p0 p1 = some q) : hg_C l ⟨"java/util/Arrays", "copyOf", "([Ljava/lang/Object;I)[Ljava/lang/Object;"⟩ prog_34_method_119_code 2 (some (.array (.object "java/lang/Object"))) 2 44 D G [va_rf p0, .int p1] Z (.inl (some (va_rf q.2), q.1) : hg_O) := by
  refine hg_start (cv := fun q => (.inl (some (va_rf q.2), q.1) : hg_O)) hq ?_
  intro F hF h
  refine hg_enter (lv := [(0, va_rf p0), (1, .int p1)]) (by decide +kernel) (by simp [lg_sl, va_rf_cat, hg_cti, hg_ctr]) (by simp [lv_args, va_rf_cat, va_rf_some, hg_cti, hg_ctr]) ?_
  intro X hC hR
  show hg_G X l (hg_rm 2 44 Z) D 2 Z 0 [(0, va_rf p0), (1, .int p1)] []
  have h : dc_wp (hm_JA_copyO G Z p0 p1) F := h
  delta hm_JA_copyO at h
  refine hg_aloadn (pc := 0) (j := 0) (i := 0) (r := p0) hC 0 rfl rfl (show decode prog_34_method_119_code 0 = .ok (.aload_n 0, 1) by decide +kernel) ?_
  refine hg_iloadn (pc := 1) (j := 1) (i := 1) hC 1 rfl rfl (show decode prog_34_method_119_code 1 = .ok (.iload_n 1, 1) by decide +kernel) ?_
  refine hg_aloadn (pc := 2) (j := 0) (i := 0) (r := p0) hC 0 rfl rfl (show decode prog_34_method_119_code 2 = .ok (.aload_n 0, 1) by decide +kernel) ?_
  refine hg_getC (pc := 3) (r := p0) hC w_642 wn_2354 w_2353 w_643 w_661 (Nat.le_of_ble_eq_true rfl) (by simp only [List.map, va_rf_cat]; exact Nat.le_of_ble_eq_true rfl) (show decode prog_34_method_119_code 3 = .ok (.invokevirtual 86, 3) by decide +kernel) h ?_
  intro e1 h
  refine hg_kSr (pc := 6) (As := [va_rf p0, .int p1, va_rf (some (G.2.2.2 5))]) (rest := []) (vo := fun q => q.2) (so := fun q => q.1) hC cw_java_util_Arrays_300 (fun q hq => hm_JA_copyP_ok l D G Z p0 p1 (some (G.2.2.2 5)) q hq) (Nat.le_of_ble_eq_true rfl) (Nat.le_of_ble_eq_true rfl) rfl (Nat.le_of_ble_eq_true rfl) (show decode prog_34_method_119_code 6 = .ok (.invokestatic 300, 3) by decide +kernel) h ?_
  intro q2 h
  exact hg_aret (pc := 9) (r := q2.2) hC hR (by first | exact Or.inl ⟨_, rfl⟩ | exact Or.inr ⟨_, rfl⟩) (hF _ (dc_some h)) (show decode prog_34_method_119_code 9 = .ok (.areturn, 1) by decide +kernel)
noncomputable def hm_AL_grow_I_L20 (G : hg_E) (S : hg_S) (o : Nat) (x1 : Int32) (x2 : Int32) : Option (hg_S × (Option Nat)) :=
  (hm_AS_newLength G S x2 (x1 - x2) ((x2 >>> (1 &&& (31 : Int32))))).bind fun q1 => (hg_gr S (some o) 7 0).bind fun e2 => (hm_JA_copyO G S e2 q1).bind fun q3 => (hg_pf q3.1 (some o) 7 0 (va_rf q3.2)).bind fun S4 => some (S4, q3.2)
noncomputable def hm_AL_grow_I (G : hg_E) (S : hg_S) (o : Nat) (p1 : Int32) : Option (hg_S × (Option Nat)) :=
  (hg_gr S (some o) 7 0).bind fun e5 => (hg_oln G S e5).bind fun e6 => if (0 : Int32) < e6 then (hm_AL_grow_I_L20 G S o p1 e6) else ((hg_gr S (some o) 7 0).bind fun e7 => if e7 = (some G.2.2.1) then ((hg_newo G S (dc_max 10 p1)).bind fun S8 => (hg_pf S8 (some o) 7 0 (va_rf (some S.2.1))).bind fun S9 => some (S9, (some S.2.1))) else (hm_AL_grow_I_L20 G S o p1 e6))
set_option maxHeartbeats 4000000 in
set_option maxRecDepth 100000 in
/-- java/util/ArrayList.grow(I)[Ljava/lang/Object; -/
theorem hm_AL_grow_I_ok (l : Launch) (D : va_G) (G : hg_E) (Z : hg_S) (o : Nat) (p1 : Int32) (q : hg_S × (Option Nat)) (hq : hm_AL_grow_I G Z o p1 = some q) : hg_C l ⟨"java/util/ArrayList", "grow", "(I)[Ljava/lang/Object;"⟩ prog_33_method_6_code 4 (some (.array (.object "java/lang/Object"))) 3 65 D G [.ref o, .int p1] Z (.inl (some (va_rf q.2), q.1) : hg_O) := by
  refine hg_start (cv := fun q => (.inl (some (va_rf q.2), q.1) : hg_O)) hq ?_
  intro F hF h
  refine hg_enter (lv := [(0, va_rf (some o)), (1, .int p1)]) (by decide +kernel) (by simp [lg_sl, va_rf_cat, hg_cti, hg_ctr]) (by simp [lv_args, va_rf_cat, va_rf_some, hg_cti, hg_ctr]) ?_
  intro X hC hR
  have lab_20 : ∀ (S : hg_S) (x1 : Int32) (x2 : Int32), dc_wp (hm_AL_grow_I_L20 G S o x1 x2) F → hg_G X l (hg_rm 3 65 Z) D 4 S 20 [(0, va_rf (some o)), (1, .int x1), (2, .int x2)] [] := by
    intro S x1 x2 h
    delta hm_AL_grow_I_L20 at h
    refine hg_iloadn (pc := 20) (j := 2) (i := 2) hC 2 rfl rfl (show decode prog_33_method_6_code 20 = .ok (.iload_n 2, 1) by decide +kernel) ?_
    refine hg_iloadn (pc := 21) (j := 1) (i := 1) hC 1 rfl rfl (show decode prog_33_method_6_code 21 = .ok (.iload_n 1, 1) by decide +kernel) ?_
    refine hg_iloadn (pc := 22) (j := 2) (i := 2) hC 2 rfl rfl (show decode prog_33_method_6_code 22 = .ok (.iload_n 2, 1) by decide +kernel) ?_
    refine hg_isub (pc := 23) hC (show decode prog_33_method_6_code 23 = .ok (.isub, 1) by decide +kernel) ?_
    refine hg_iloadn (pc := 24) (j := 2) (i := 2) hC 2 rfl rfl (show decode prog_33_method_6_code 24 = .ok (.iload_n 2, 1) by decide +kernel) ?_
    refine hg_iconst (pc := 25) (v := 1) hC (show decode prog_33_method_6_code 25 = .ok (.iconst 1, 1) by decide +kernel) (by decide +kernel) ?_
    refine hg_ishr (pc := 26) hC (show decode prog_33_method_6_code 26 = .ok (.ishr, 1) by decide +kernel) ?_
    refine hg_kSi (pc := 27) (As := [.int x2, .int (x1 - x2), .int ((x2 >>> (1 &&& (31 : Int32))))]) (rest := []) (vo := fun q => q) (so := fun q => S) hC cw_java_util_ArrayList_73 (fun q hq => hm_AS_newLength_ok l D G S x2 (x1 - x2) ((x2 >>> (1 &&& (31 : Int32)))) q hq) (Nat.le_of_ble_eq_true rfl) (Nat.le_of_ble_eq_true rfl) rfl (Nat.le_of_ble_eq_true rfl) (show decode prog_33_method_6_code 27 = .ok (.invokestatic 73, 3) by decide +kernel) h ?_
    intro q1 h
    refine hg_istoren (pc := 30) (j := 3) (i := 3) (lv' := [(3, .int q1), (0, va_rf (some o)), (1, .int x1), (2, .int x2)]) hC rfl (Nat.le_of_ble_eq_true rfl) rfl (show decode prog_33_method_6_code 30 = .ok (.istore_n 3, 1) by decide +kernel) ?_
    refine hg_aloadn (pc := 31) (j := 0) (i := 0) (r := (some o)) hC 1 rfl rfl (show decode prog_33_method_6_code 31 = .ok (.aload_n 0, 1) by decide +kernel) ?_
    refine hg_aloadn (pc := 32) (j := 0) (i := 0) (r := (some o)) hC 1 rfl rfl (show decode prog_33_method_6_code 32 = .ok (.aload_n 0, 1) by decide +kernel) ?_
    refine hg_rgr (pc := 33) (r := (some o)) hC fl_java_util_ArrayList_9 (show decode prog_33_method_6_code 33 = .ok (.getfield 9, 3) by decide +kernel) h ?_
    intro e2 h
    refine hg_iloadn (pc := 36) (j := 3) (i := 3) hC 0 rfl rfl (show decode prog_33_method_6_code 36 = .ok (.iload_n 3, 1) by decide +kernel) ?_
    refine hg_kSr (pc := 37) (As := [va_rf e2, .int q1]) (rest := [va_rf (some o)]) (vo := fun q => q.2) (so := fun q => q.1) hC cw_java_util_ArrayList_66 (fun q hq => hm_JA_copyO_ok l D G S e2 q1 q hq) (Nat.le_of_ble_eq_true rfl) (Nat.le_of_ble_eq_true rfl) rfl (Nat.le_of_ble_eq_true rfl) (show decode prog_33_method_6_code 37 = .ok (.invokestatic 66, 3) by decide +kernel) h ?_
    intro q3 h
    refine hg_dup_x1 (pc := 40) hC (show decode prog_33_method_6_code 40 = .ok (.dup_x1, 1) by decide +kernel) (va_rf_cat _) rfl ?_
    refine hg_rput (pc := 41) (r := (some o)) (v := va_rf q3.2) hC fp_java_util_ArrayList_9 (hg_na _).1 (hg_na _).2 (show decode prog_33_method_6_code 41 = .ok (.putfield 9, 3) by decide +kernel) h ?_
    intro S4 h
    exact hg_aret (pc := 44) (r := q3.2) hC hR (by first | exact Or.inl ⟨_, rfl⟩ | exact Or.inr ⟨_, rfl⟩) (hF _ (dc_some h)) (show decode prog_33_method_6_code 44 = .ok (.areturn, 1) by decide +kernel)
  show hg_G X l (hg_rm 3 65 Z) D 4 Z 0 [(0, va_rf (some o)), (1, .int p1)] []
  have h : dc_wp (hm_AL_grow_I G Z o p1) F := h
  delta hm_AL_grow_I at h
  refine hg_aloadn (pc := 0) (j := 0) (i := 0) (r := (some o)) hC 0 rfl rfl (show decode prog_33_method_6_code 0 = .ok (.aload_n 0, 1) by decide +kernel) ?_
  refine hg_rgr (pc := 1) (r := (some o)) hC fl_java_util_ArrayList_9 (show decode prog_33_method_6_code 1 = .ok (.getfield 9, 3) by decide +kernel) h ?_
  intro e5 h
  refine hg_roln (pc := 4) (r := e5) hC (show decode prog_33_method_6_code 4 = .ok (.arraylength, 1) by decide +kernel) h ?_
  intro e6 h
  refine hg_istoren (pc := 5) (j := 2) (i := 2) (lv' := [(2, .int e6), (0, va_rf (some o)), (1, .int p1)]) hC rfl (Nat.le_of_ble_eq_true rfl) rfl (show decode prog_33_method_6_code 5 = .ok (.istore_n 2, 1) by decide +kernel) ?_
  refine hg_iloadn (pc := 6) (j := 2) (i := 2) hC 0 rfl rfl (show decode prog_33_method_6_code 6 = .ok (.iload_n 2, 1) by decide +kernel) ?_
  refine hg_if_gt (pc := 7) (tgt := 20) hC (show decode prog_33_method_6_code 7 = .ok (.ifCond .gt 13, 3) by decide +kernel) (by decide +kernel) h ?_ ?_
  · intro h
    exact hg_sub [1, 2, 0] rfl (lab_20 Z p1 e6 h)
  · intro h
    refine hg_aloadn (pc := 10) (j := 0) (i := 0) (r := (some o)) hC 1 rfl rfl (show decode prog_33_method_6_code 10 = .ok (.aload_n 0, 1) by decide +kernel) ?_
    refine hg_rgr (pc := 11) (r := (some o)) hC fl_java_util_ArrayList_9 (show decode prog_33_method_6_code 11 = .ok (.getfield 9, 3) by decide +kernel) h ?_
    intro e7 h
    refine hg_gsv (pc := 14) hC he_empty w_147 (show decode prog_33_method_6_code 14 = .ok (.getstatic 39, 3) by decide +kernel) ?_
    refine hg_acmp_eq (pc := 17) (tgt := 45) (x := e7) (y := (some G.2.2.1)) hC (show decode prog_33_method_6_code 17 = .ok (.if_acmp .eq 28, 3) by decide +kernel) (by decide +kernel) h ?_ ?_
    · intro h
      refine hg_aloadn (pc := 45) (j := 0) (i := 0) (r := (some o)) hC 1 rfl rfl (show decode prog_33_method_6_code 45 = .ok (.aload_n 0, 1) by decide +kernel) ?_
      refine hg_bipush (pc := 46) (v := 10) hC (show decode prog_33_method_6_code 46 = .ok (.bipush 10, 2) by decide +kernel) (by decide +kernel) ?_
      refine hg_iloadn (pc := 48) (j := 1) (i := 1) hC 2 rfl rfl (show decode prog_33_method_6_code 48 = .ok (.iload_n 1, 1) by decide +kernel) ?_
      refine hg_mmax (pc := 49) hC w_668 w_633 w_4 w_634 (Nat.le_of_ble_eq_true rfl) (Nat.le_of_ble_eq_true rfl) (show decode prog_33_method_6_code 49 = .ok (.invokestatic 79, 3) by decide +kernel) ?_
      refine hg_rnewo (pc := 52) hC w_669 (show decode prog_33_method_6_code 52 = .ok (.anewarray 7, 3) by decide +kernel) h ?_
      intro S8 h
      refine hg_dup_x1 (pc := 55) hC (show decode prog_33_method_6_code 55 = .ok (.dup_x1, 1) by decide +kernel) (va_rf_cat _) rfl ?_
      refine hg_rput (pc := 56) (r := (some o)) (v := va_rf (some Z.2.1)) hC fp_java_util_ArrayList_9 (hg_na _).1 (hg_na _).2 (show decode prog_33_method_6_code 56 = .ok (.putfield 9, 3) by decide +kernel) h ?_
      intro S9 h
      exact hg_aret (pc := 59) (r := (some Z.2.1)) hC hR (by first | exact Or.inl ⟨_, rfl⟩ | exact Or.inr ⟨_, rfl⟩) (hF _ (dc_some h)) (show decode prog_33_method_6_code 59 = .ok (.areturn, 1) by decide +kernel)
    · intro h
      exact hg_sub [1, 2, 0] rfl (lab_20 Z p1 e6 h)
noncomputable def hm_AL_grow_0 (G : hg_E) (S : hg_S) (o : Nat) : Option (hg_S × (Option Nat)) :=
  (hg_gi S (some o) 7 1).bind fun e1 => (hg_chk S (some o) 7).bind fun b2 => (hm_AL_grow_I G S b2 (e1 + 1)).bind fun q5 => some (q5.1, q5.2)
set_option maxHeartbeats 4000000 in
set_option maxRecDepth 100000 in
/-- java/util/ArrayList.grow()[Ljava/lang/Object; -/
theorem hm_AL_grow_0_ok (l : Launch) (D : va_G) (G : hg_E) (Z : hg_S) (o : Nat) (q : hg_S × (Option Nat)) (hq : hm_AL_grow_0 G Z o = some q) : hg_C l ⟨"java/util/ArrayList", "grow", "()[Ljava/lang/Object;"⟩ prog_33_method_7_code 1 (some (.array (.object "java/lang/Object"))) 4 88 D G [.ref o] Z (.inl (some (va_rf q.2), q.1) : hg_O) := by
  refine hg_start (cv := fun q => (.inl (some (va_rf q.2), q.1) : hg_O)) hq ?_
  intro F hF h
  refine hg_enter (lv := [(0, va_rf (some o))]) (by decide +kernel) (by simp [lg_sl, va_rf_cat, hg_cti, hg_ctr]) (by simp [lv_args, va_rf_cat, va_rf_some, hg_cti, hg_ctr]) ?_
  intro X hC hR
  show hg_G X l (hg_rm 4 88 Z) D 1 Z 0 [(0, va_rf (some o))] []
  have h : dc_wp (hm_AL_grow_0 G Z o) F := h
  delta hm_AL_grow_0 at h
  refine hg_aloadn (pc := 0) (j := 0) (i := 0) (r := (some o)) hC 0 rfl rfl (show decode prog_33_method_7_code 0 = .ok (.aload_n 0, 1) by decide +kernel) ?_
  refine hg_aloadn (pc := 1) (j := 0) (i := 0) (r := (some o)) hC 0 rfl rfl (show decode prog_33_method_7_code 1 = .ok (.aload_n 0, 1) by decide +kernel) ?_
  refine hg_rgi (pc := 2) (r := (some o)) hC fl_java_util_ArrayList_48 (show decode prog_33_method_7_code 2 = .ok (.getfield 48, 3) by decide +kernel) h ?_
  intro e1 h
  refine hg_iconst (pc := 5) (v := 1) hC (show decode prog_33_method_7_code 5 = .ok (.iconst 1, 1) by decide +kernel) (by decide +kernel) ?_
  refine hg_iadd (pc := 6) hC (show decode prog_33_method_7_code 6 = .ok (.iadd, 1) by decide +kernel) ?_
  obtain ⟨b2, hb3, h⟩ := dc_bind h
  obtain ⟨hb3, hv4⟩ := hg_chk_of (C := R_AL) rfl hb3
  refine hg_kVr (pc := 7) (b := b2) (r := (some o)) (As := [.int (e1 + 1)]) (rest := []) (vo := fun q => q.2) (so := fun q => q.1) hC cw_java_util_ArrayList_69 (fun q hq => hm_AL_grow_I_ok l D G Z b2 (e1 + 1) q hq) (Nat.le_of_ble_eq_true rfl) (Nat.le_of_ble_eq_true rfl) hb3 hv4 rfl (Nat.le_of_ble_eq_true rfl) (show decode prog_33_method_7_code 7 = .ok (.invokevirtual 69, 3) by decide +kernel) h ?_
  intro q5 h
  exact hg_aret (pc := 10) (r := q5.2) hC hR (by first | exact Or.inl ⟨_, rfl⟩ | exact Or.inr ⟨_, rfl⟩) (hF _ (dc_some h)) (show decode prog_33_method_7_code 10 = .ok (.areturn, 1) by decide +kernel)
noncomputable def hm_AL_add_LALI_L11 (G : hg_E) (S : hg_S) (o : Nat) (x1 : Option Nat) (x2 : Option Nat) (x3 : Int32) : Option (hg_S) :=
  (hg_ost G S x2 x3 x1 8).bind fun S1 => (hg_pf S1 (some o) 7 1 (.int (x3 + 1))).bind fun S2 => some S2
noncomputable def hm_AL_add_LALI (G : hg_E) (S : hg_S) (o : Nat) (p1 : Option Nat) (p2 : Option Nat) (p3 : Int32) : Option (hg_S) :=
  (hg_oln G S p2).bind fun e3 => if p3 = e3 then ((hg_chk S (some o) 7).bind fun b4 => (hm_AL_grow_0 G S b4).bind fun q7 => hm_AL_add_LALI_L11 G q7.1 o p1 q7.2 p3) else (hm_AL_add_LALI_L11 G S o p1 p2 p3)
set_option maxHeartbeats 4000000 in
set_option maxRecDepth 100000 in
/-- java/util/ArrayList.add(Ljava/lang/Object;[Ljava/lang/Object;I)V -/
theorem hm_AL_add_LALI_ok (l : Launch) (D : va_G) (G : hg_E) (Z : hg_S) (o : Nat) (p1 : Option Nat) (p2 : Option Nat) (p3 : Int32) (q : hg_S) (hq : hm_AL_add_LALI G Z o p1 p2 p3 = some q) : hg_C l ⟨"java/util/ArrayList", "add", "(Ljava/lang/Object;[Ljava/lang/Object;I)V"⟩ prog_33_method_24_code 4 none 5 108 D G [.ref o, va_rf p1, va_rf p2, .int p3] Z (.inl (none, q) : hg_O) := by
  refine hg_start (cv := fun q => (.inl (none, q) : hg_O)) hq ?_
  intro F hF h
  refine hg_enter (lv := [(0, va_rf (some o)), (1, va_rf p1), (2, va_rf p2), (3, .int p3)]) (by decide +kernel) (by simp [lg_sl, va_rf_cat, hg_cti, hg_ctr]) (by simp [lv_args, va_rf_cat, va_rf_some, hg_cti, hg_ctr]) ?_
  intro X hC hR
  have lab_11 : ∀ (S : hg_S) (x1 : Option Nat) (x2 : Option Nat) (x3 : Int32), dc_wp (hm_AL_add_LALI_L11 G S o x1 x2 x3) F → hg_G X l (hg_rm 5 108 Z) D 4 S 11 [(0, va_rf (some o)), (1, va_rf x1), (2, va_rf x2), (3, .int x3)] [] := by
    intro S x1 x2 x3 h
    delta hm_AL_add_LALI_L11 at h
    refine hg_aloadn (pc := 11) (j := 2) (i := 2) (r := x2) hC 2 rfl rfl (show decode prog_33_method_24_code 11 = .ok (.aload_n 2, 1) by decide +kernel) ?_
    refine hg_iloadn (pc := 12) (j := 3) (i := 3) hC 3 rfl rfl (show decode prog_33_method_24_code 12 = .ok (.iload_n 3, 1) by decide +kernel) ?_
    refine hg_aloadn (pc := 13) (j := 1) (i := 1) (r := x1) hC 1 rfl rfl (show decode prog_33_method_24_code 13 = .ok (.aload_n 1, 1) by decide +kernel) ?_
    refine hg_rost (pc := 14) (r := x2) (v := x1) hC (ci := 8) (C := R_ND) rfl wn_2362 (show decode prog_33_method_24_code 14 = .ok (.aastore, 1) by decide +kernel) h ?_
    intro S1 h
    refine hg_aloadn (pc := 15) (j := 0) (i := 0) (r := (some o)) hC 0 rfl rfl (show decode prog_33_method_24_code 15 = .ok (.aload_n 0, 1) by decide +kernel) ?_
    refine hg_iloadn (pc := 16) (j := 3) (i := 3) hC 3 rfl rfl (show decode prog_33_method_24_code 16 = .ok (.iload_n 3, 1) by decide +kernel) ?_
    refine hg_iconst (pc := 17) (v := 1) hC (show decode prog_33_method_24_code 17 = .ok (.iconst 1, 1) by decide +kernel) (by decide +kernel) ?_
    refine hg_iadd (pc := 18) hC (show decode prog_33_method_24_code 18 = .ok (.iadd, 1) by decide +kernel) ?_
    refine hg_rput (pc := 19) (r := (some o)) (v := .int (x3 + 1)) hC fp_java_util_ArrayList_48 rfl rfl (show decode prog_33_method_24_code 19 = .ok (.putfield 48, 3) by decide +kernel) h ?_
    intro S2 h
    exact hg_vret (pc := 22) hC hR (hF _ (dc_some h)) (show decode prog_33_method_24_code 22 = .ok (.return_, 1) by decide +kernel)
  show hg_G X l (hg_rm 5 108 Z) D 4 Z 0 [(0, va_rf (some o)), (1, va_rf p1), (2, va_rf p2), (3, .int p3)] []
  have h : dc_wp (hm_AL_add_LALI G Z o p1 p2 p3) F := h
  delta hm_AL_add_LALI at h
  refine hg_iloadn (pc := 0) (j := 3) (i := 3) hC 3 rfl rfl (show decode prog_33_method_24_code 0 = .ok (.iload_n 3, 1) by decide +kernel) ?_
  refine hg_aloadn (pc := 1) (j := 2) (i := 2) (r := p2) hC 2 rfl rfl (show decode prog_33_method_24_code 1 = .ok (.aload_n 2, 1) by decide +kernel) ?_
  refine hg_roln (pc := 2) (r := p2) hC (show decode prog_33_method_24_code 2 = .ok (.arraylength, 1) by decide +kernel) h ?_
  intro e3 h
  refine hg_icmp_ne (pc := 3) (tgt := 11) hC (show decode prog_33_method_24_code 3 = .ok (.if_icmp .ne 8, 3) by decide +kernel) (by decide +kernel) h ?_ ?_
  · intro h
    refine hg_aloadn (pc := 6) (j := 0) (i := 0) (r := (some o)) hC 0 rfl rfl (show decode prog_33_method_24_code 6 = .ok (.aload_n 0, 1) by decide +kernel) ?_
    obtain ⟨b4, hb5, h⟩ := dc_bind h
    obtain ⟨hb5, hv6⟩ := hg_chk_of (C := R_AL) rfl hb5
    refine hg_kVr (pc := 7) (b := b4) (r := (some o)) (As := []) (rest := []) (vo := fun q => q.2) (so := fun q => q.1) hC cw_java_util_ArrayList_129 (fun q hq => hm_AL_grow_0_ok l D G Z b4 q hq) (Nat.le_of_ble_eq_true rfl) (Nat.le_of_ble_eq_true rfl) hb5 hv6 rfl (Nat.le_of_ble_eq_true rfl) (show decode prog_33_method_24_code 7 = .ok (.invokevirtual 129, 3) by decide +kernel) h ?_
    intro q7 h
    refine hg_astoren (pc := 10) (j := 2) (i := 2) (r := q7.2) (lv' := [(2, va_rf q7.2), (0, va_rf (some o)), (1, va_rf p1), (3, .int p3)]) hC rfl (Nat.le_of_ble_eq_true rfl) (by simp [va_rf_cat, hg_cti]) (show decode prog_33_method_24_code 10 = .ok (.astore_n 2, 1) by decide +kernel) ?_
    exact hg_sub [1, 2, 0, 3] rfl (lab_11 q7.1 p1 q7.2 p3 h)
  · intro h
    exact lab_11 Z p1 p2 p3 h
noncomputable def hm_AL_add_L (G : hg_E) (S : hg_S) (o : Nat) (p1 : Option Nat) : Option (hg_S × Int32) :=
  (hg_gi S (some o) 7 2).bind fun e1 => (hg_pf S (some o) 7 2 (.int (e1 + 1))).bind fun S2 => (hg_gr S2 (some o) 7 0).bind fun e3 => (hg_gi S2 (some o) 7 1).bind fun e4 => (hg_chk S2 (some o) 7).bind fun b5 => (hm_AL_add_LALI G S2 b5 p1 e3 e4).bind fun q8 => some (q8, 1)
set_option maxHeartbeats 4000000 in
set_option maxRecDepth 100000 in
/-- java/util/ArrayList.add(Ljava/lang/Object;)Z -/
theorem hm_AL_add_L_ok (l : Launch) (D : va_G) (G : hg_E) (Z : hg_S) (o : Nat) (p1 : Option Nat) (q : hg_S × Int32) (hq : hm_AL_add_L G Z o p1 = some q) : hg_C l ⟨"java/util/ArrayList", "add", "(Ljava/lang/Object;)Z"⟩ prog_33_method_25_code 2 (some (.boolean)) 6 131 D G [.ref o, va_rf p1] Z (.inl (some (.int q.2), q.1) : hg_O) := by
  refine hg_start (cv := fun q => (.inl (some (.int q.2), q.1) : hg_O)) hq ?_
  intro F hF h
  refine hg_enter (lv := [(0, va_rf (some o)), (1, va_rf p1)]) (by decide +kernel) (by simp [lg_sl, va_rf_cat, hg_cti, hg_ctr]) (by simp [lv_args, va_rf_cat, va_rf_some, hg_cti, hg_ctr]) ?_
  intro X hC hR
  show hg_G X l (hg_rm 6 131 Z) D 2 Z 0 [(0, va_rf (some o)), (1, va_rf p1)] []
  have h : dc_wp (hm_AL_add_L G Z o p1) F := h
  delta hm_AL_add_L at h
  refine hg_aloadn (pc := 0) (j := 0) (i := 0) (r := (some o)) hC 0 rfl rfl (show decode prog_33_method_25_code 0 = .ok (.aload_n 0, 1) by decide +kernel) ?_
  refine hg_dup (pc := 1) hC (show decode prog_33_method_25_code 1 = .ok (.dup, 1) by decide +kernel) rfl ?_
  refine hg_rgi2 (pc := 2) (r := (some o)) hC (C := R_AL) rfl (by decide) i_AL w_152 w_153 (show decode prog_33_method_25_code 2 = .ok (.getfield 63, 3) by decide +kernel) h ?_
  intro e1 h
  refine hg_iconst (pc := 5) (v := 1) hC (show decode prog_33_method_25_code 5 = .ok (.iconst 1, 1) by decide +kernel) (by decide +kernel) ?_
  refine hg_iadd (pc := 6) hC (show decode prog_33_method_25_code 6 = .ok (.iadd, 1) by decide +kernel) ?_
  refine hg_rput2 (pc := 7) (r := (some o)) (v := .int (e1 + 1)) hC (C := R_AL) (ty0 := t_AL) (ty := .int) rfl (by decide) i_AL t_AL_ok n_AL rfl (by decide +kernel) w_152 w_153 rfl rfl (show decode prog_33_method_25_code 7 = .ok (.putfield 63, 3) by decide +kernel) h ?_
  intro S2 h
  refine hg_aloadn (pc := 10) (j := 0) (i := 0) (r := (some o)) hC 0 rfl rfl (show decode prog_33_method_25_code 10 = .ok (.aload_n 0, 1) by decide +kernel) ?_
  refine hg_aloadn (pc := 11) (j := 1) (i := 1) (r := p1) hC 1 rfl rfl (show decode prog_33_method_25_code 11 = .ok (.aload_n 1, 1) by decide +kernel) ?_
  refine hg_aloadn (pc := 12) (j := 0) (i := 0) (r := (some o)) hC 0 rfl rfl (show decode prog_33_method_25_code 12 = .ok (.aload_n 0, 1) by decide +kernel) ?_
  refine hg_rgr (pc := 13) (r := (some o)) hC fl_java_util_ArrayList_9 (show decode prog_33_method_25_code 13 = .ok (.getfield 9, 3) by decide +kernel) h ?_
  intro e3 h
  refine hg_aloadn (pc := 16) (j := 0) (i := 0) (r := (some o)) hC 0 rfl rfl (show decode prog_33_method_25_code 16 = .ok (.aload_n 0, 1) by decide +kernel) ?_
  refine hg_rgi (pc := 17) (r := (some o)) hC fl_java_util_ArrayList_48 (show decode prog_33_method_25_code 17 = .ok (.getfield 48, 3) by decide +kernel) h ?_
  intro e4 h
  obtain ⟨b5, hb6, h⟩ := dc_bind h
  obtain ⟨hb6, hv7⟩ := hg_chk_of (C := R_AL) rfl hb6
  refine hg_kVv (pc := 20) (b := b5) (r := (some o)) (As := [va_rf p1, va_rf e3, .int e4]) (rest := []) (so := fun q => q) hC cw_java_util_ArrayList_131 (fun q hq => hm_AL_add_LALI_ok l D G S2 b5 p1 e3 e4 q hq) (Nat.le_of_ble_eq_true rfl) (Nat.le_of_ble_eq_true rfl) hb6 hv7 rfl (Nat.le_of_ble_eq_true rfl) (show decode prog_33_method_25_code 20 = .ok (.invokevirtual 131, 3) by decide +kernel) h ?_
  intro q8 h
  refine hg_iconst (pc := 23) (v := 1) hC (show decode prog_33_method_25_code 23 = .ok (.iconst 1, 1) by decide +kernel) (by decide +kernel) ?_
  exact hg_zret (pc := 24) hC hR (Or.inr rfl) (hF _ (dc_some h)) (show decode prog_33_method_25_code 24 = .ok (.ireturn, 1) by decide +kernel)
noncomputable def hm_AL_size (G : hg_E) (S : hg_S) (o : Nat) : Option (Int32) :=
  (hg_gi S (some o) 7 1).bind fun e1 => some e1
set_option maxHeartbeats 4000000 in
set_option maxRecDepth 100000 in
/-- java/util/ArrayList.size()I -/
theorem hm_AL_size_ok (l : Launch) (D : va_G) (G : hg_E) (Z : hg_S) (o : Nat) (q : Int32) (hq : hm_AL_size G Z o = some q) : hg_C l ⟨"java/util/ArrayList", "size", "()I"⟩ prog_33_method_8_code 1 (some (.int)) 0 0 D G [.ref o] Z (.inl (some (.int q), Z) : hg_O) := by
  refine hg_start (cv := fun q => (.inl (some (.int q), Z) : hg_O)) hq ?_
  intro F hF h
  refine hg_enter (lv := [(0, va_rf (some o))]) (by decide +kernel) (by simp [lg_sl, va_rf_cat, hg_cti, hg_ctr]) (by simp [lv_args, va_rf_cat, va_rf_some, hg_cti, hg_ctr]) ?_
  intro X hC hR
  show hg_G X l (hg_rm 0 0 Z) D 1 Z 0 [(0, va_rf (some o))] []
  have h : dc_wp (hm_AL_size G Z o) F := h
  delta hm_AL_size at h
  refine hg_aloadn (pc := 0) (j := 0) (i := 0) (r := (some o)) hC 0 rfl rfl (show decode prog_33_method_8_code 0 = .ok (.aload_n 0, 1) by decide +kernel) ?_
  refine hg_rgi (pc := 1) (r := (some o)) hC fl_java_util_ArrayList_48 (show decode prog_33_method_8_code 1 = .ok (.getfield 48, 3) by decide +kernel) h ?_
  intro e1 h
  exact hg_iret (pc := 4) hC hR (hF _ (dc_some h)) (show decode prog_33_method_8_code 4 = .ok (.ireturn, 1) by decide +kernel)
noncomputable def hm_OB_checkIndex (G : hg_E) (S : hg_S) (p0 : Int32) (p1 : Int32) : Option (Int32) :=
  (hm_PC_checkIndex G S p0 p1).bind fun q1 => some q1
set_option maxHeartbeats 4000000 in
set_option maxRecDepth 100000 in
/-- java/util/Objects.checkIndex(II)I -/
theorem hm_OB_checkIndex_ok (l : Launch) (D : va_G) (G : hg_E) (Z : hg_S) (p0 : Int32) (p1 : Int32) (q : Int32) (hq : hm_OB_checkIndex G Z p0 p1 = some q) : hg_C l ⟨"java/util/Objects", "checkIndex", "(II)I"⟩ prog_37_method_17_code 2 (some (.int)) 1 22 D G [.int p0, .int p1] Z (.inl (some (.int q), Z) : hg_O) := by
  refine hg_start (cv := fun q => (.inl (some (.int q), Z) : hg_O)) hq ?_
  intro F hF h
  refine hg_enter (lv := [(0, .int p0), (1, .int p1)]) (by decide +kernel) (by simp [lg_sl, va_rf_cat, hg_cti, hg_ctr]) (by simp [lv_args, va_rf_cat, va_rf_some, hg_cti, hg_ctr]) ?_
  intro X hC hR
  show hg_G X l (hg_rm 1 22 Z) D 2 Z 0 [(0, .int p0), (1, .int p1)] []
  have h : dc_wp (hm_OB_checkIndex G Z p0 p1) F := h
  delta hm_OB_checkIndex at h
  refine hg_iloadn (pc := 0) (j := 0) (i := 0) hC 0 rfl rfl (show decode prog_37_method_17_code 0 = .ok (.iload_n 0, 1) by decide +kernel) ?_
  refine hg_iloadn (pc := 1) (j := 1) (i := 1) hC 1 rfl rfl (show decode prog_37_method_17_code 1 = .ok (.iload_n 1, 1) by decide +kernel) ?_
  refine hg_null (pc := 2) hC (show decode prog_37_method_17_code 2 = .ok (.aconst_null, 1) by decide +kernel) ?_
  refine hg_kSi (pc := 3) (As := [.int p0, .int p1, va_rf none]) (rest := []) (vo := fun q => q) (so := fun q => Z) hC cw_java_util_Objects_105 (fun q hq => hm_PC_checkIndex_ok l D G Z p0 p1 (none : Option Nat) q hq) (Nat.le_of_ble_eq_true rfl) (Nat.le_of_ble_eq_true rfl) rfl (Nat.le_of_ble_eq_true rfl) (show decode prog_37_method_17_code 3 = .ok (.invokestatic 105, 3) by decide +kernel) h ?_
  intro q1 h
  exact hg_iret (pc := 6) hC hR (hF _ (dc_some h)) (show decode prog_37_method_17_code 6 = .ok (.ireturn, 1) by decide +kernel)
noncomputable def hm_AL_elementData (G : hg_E) (S : hg_S) (o : Nat) (p1 : Int32) : Option (Option Nat) :=
  (hg_gr S (some o) 7 0).bind fun e1 => (hg_old G S e1 p1).bind fun e2 => some e2
set_option maxHeartbeats 4000000 in
set_option maxRecDepth 100000 in
/-- java/util/ArrayList.elementData(I)Ljava/lang/Object; -/
theorem hm_AL_elementData_ok (l : Launch) (D : va_G) (G : hg_E) (Z : hg_S) (o : Nat) (p1 : Int32) (q : Option Nat) (hq : hm_AL_elementData G Z o p1 = some q) : hg_C l ⟨"java/util/ArrayList", "elementData", "(I)Ljava/lang/Object;"⟩ prog_33_method_18_code 2 (some (.object "java/lang/Object")) 0 0 D G [.ref o, .int p1] Z (.inl (some (va_rf q), Z) : hg_O) := by
  refine hg_start (cv := fun q => (.inl (some (va_rf q), Z) : hg_O)) hq ?_
  intro F hF h
  refine hg_enter (lv := [(0, va_rf (some o)), (1, .int p1)]) (by decide +kernel) (by simp [lg_sl, va_rf_cat, hg_cti, hg_ctr]) (by simp [lv_args, va_rf_cat, va_rf_some, hg_cti, hg_ctr]) ?_
  intro X hC hR
  show hg_G X l (hg_rm 0 0 Z) D 2 Z 0 [(0, va_rf (some o)), (1, .int p1)] []
  have h : dc_wp (hm_AL_elementData G Z o p1) F := h
  delta hm_AL_elementData at h
  refine hg_aloadn (pc := 0) (j := 0) (i := 0) (r := (some o)) hC 0 rfl rfl (show decode prog_33_method_18_code 0 = .ok (.aload_n 0, 1) by decide +kernel) ?_
  refine hg_rgr (pc := 1) (r := (some o)) hC fl_java_util_ArrayList_9 (show decode prog_33_method_18_code 1 = .ok (.getfield 9, 3) by decide +kernel) h ?_
  intro e1 h
  refine hg_iloadn (pc := 4) (j := 1) (i := 1) hC 1 rfl rfl (show decode prog_33_method_18_code 4 = .ok (.iload_n 1, 1) by decide +kernel) ?_
  refine hg_rold (pc := 5) (r := e1) hC (show decode prog_33_method_18_code 5 = .ok (.aaload, 1) by decide +kernel) h ?_
  intro e2 h
  exact hg_aret (pc := 6) (r := e2) hC hR (by first | exact Or.inl ⟨_, rfl⟩ | exact Or.inr ⟨_, rfl⟩) (hF _ (dc_some h)) (show decode prog_33_method_18_code 6 = .ok (.areturn, 1) by decide +kernel)
noncomputable def hm_AL_get (G : hg_E) (S : hg_S) (o : Nat) (p1 : Int32) : Option (Option Nat) :=
  (hg_gi S (some o) 7 1).bind fun e1 => (hm_OB_checkIndex G S p1 e1).bind fun q2 => (hg_chk S (some o) 7).bind fun b3 => (hm_AL_elementData G S b3 p1).bind fun q6 => some q6
set_option maxHeartbeats 4000000 in
set_option maxRecDepth 100000 in
/-- java/util/ArrayList.get(I)Ljava/lang/Object; -/
theorem hm_AL_get_ok (l : Launch) (D : va_G) (G : hg_E) (Z : hg_S) (o : Nat) (p1 : Int32) (q : Option Nat) (hq : hm_AL_get G Z o p1 = some q) : hg_C l ⟨"java/util/ArrayList", "get", "(I)Ljava/lang/Object;"⟩ prog_33_method_20_code 2 (some (.object "java/lang/Object")) 2 43 D G [.ref o, .int p1] Z (.inl (some (va_rf q), Z) : hg_O) := by
  refine hg_start (cv := fun q => (.inl (some (va_rf q), Z) : hg_O)) hq ?_
  intro F hF h
  refine hg_enter (lv := [(0, va_rf (some o)), (1, .int p1)]) (by decide +kernel) (by simp [lg_sl, va_rf_cat, hg_cti, hg_ctr]) (by simp [lv_args, va_rf_cat, va_rf_some, hg_cti, hg_ctr]) ?_
  intro X hC hR
  show hg_G X l (hg_rm 2 43 Z) D 2 Z 0 [(0, va_rf (some o)), (1, .int p1)] []
  have h : dc_wp (hm_AL_get G Z o p1) F := h
  delta hm_AL_get at h
  refine hg_iloadn (pc := 0) (j := 1) (i := 1) hC 1 rfl rfl (show decode prog_33_method_20_code 0 = .ok (.iload_n 1, 1) by decide +kernel) ?_
  refine hg_aloadn (pc := 1) (j := 0) (i := 0) (r := (some o)) hC 0 rfl rfl (show decode prog_33_method_20_code 1 = .ok (.aload_n 0, 1) by decide +kernel) ?_
  refine hg_rgi (pc := 2) (r := (some o)) hC fl_java_util_ArrayList_48 (show decode prog_33_method_20_code 2 = .ok (.getfield 48, 3) by decide +kernel) h ?_
  intro e1 h
  refine hg_kSi (pc := 5) (As := [.int p1, .int e1]) (rest := []) (vo := fun q => q) (so := fun q => Z) hC cw_java_util_ArrayList_118 (fun q hq => hm_OB_checkIndex_ok l D G Z p1 e1 q hq) (Nat.le_of_ble_eq_true rfl) (Nat.le_of_ble_eq_true rfl) rfl (Nat.le_of_ble_eq_true rfl) (show decode prog_33_method_20_code 5 = .ok (.invokestatic 118, 3) by decide +kernel) h ?_
  intro q2 h
  refine hg_pop (pc := 8) hC (show decode prog_33_method_20_code 8 = .ok (.pop, 1) by decide +kernel) rfl ?_
  refine hg_aloadn (pc := 9) (j := 0) (i := 0) (r := (some o)) hC 0 rfl rfl (show decode prog_33_method_20_code 9 = .ok (.aload_n 0, 1) by decide +kernel) ?_
  refine hg_iloadn (pc := 10) (j := 1) (i := 1) hC 1 rfl rfl (show decode prog_33_method_20_code 10 = .ok (.iload_n 1, 1) by decide +kernel) ?_
  obtain ⟨b3, hb4, h⟩ := dc_bind h
  obtain ⟨hb4, hv5⟩ := hg_chk_of (C := R_AL) rfl hb4
  refine hg_kVr (pc := 11) (b := b3) (r := (some o)) (As := [.int p1]) (rest := []) (vo := fun q => q) (so := fun q => Z) hC cw_java_util_ArrayList_123 (fun q hq => hm_AL_elementData_ok l D G Z b3 p1 q hq) (Nat.le_of_ble_eq_true rfl) (Nat.le_of_ble_eq_true rfl) hb4 hv5 rfl (Nat.le_of_ble_eq_true rfl) (show decode prog_33_method_20_code 11 = .ok (.invokevirtual 123, 3) by decide +kernel) h ?_
  intro q6 h
  exact hg_aret (pc := 14) (r := q6) hC hR (by first | exact Or.inl ⟨_, rfl⟩ | exact Or.inr ⟨_, rfl⟩) (hF _ (dc_some h)) (show decode prog_33_method_20_code 14 = .ok (.areturn, 1) by decide +kernel)
noncomputable def hm_SE_feed_L47 (G : hg_E) (S : hg_S) (o : Nat) (x1 : Int32) (x2 : Int32) (x3 : Int32) (x4 : Int32) (x5 : Int32) : Option (hg_S × Int32) :=
  (hg_chk S (some o) 0).bind fun b1 => (hm_SE_append G S b1 x1).bind fun q4 => (hg_chk q4 (some o) 0).bind fun b5 => (hm_SE_append G q4 b5 x2).bind fun q8 => (hg_chk q8 (some o) 0).bind fun b9 => (hm_SE_append G q8 b9 x3).bind fun q12 => (hg_chk q12 (some o) 0).bind fun b13 => (hm_SE_append G q12 b13 x4).bind fun q16 => (hg_chk q16 (some o) 0).bind fun b17 => (hm_SE_append G q16 b17 x5).bind fun q20 => (hg_pf q20 (some o) 0 2 (.int 1)).bind fun S21 => (hg_gi S21 (some o) 0 1).bind fun e22 => some (S21, e22)
noncomputable def hm_SE_feed (G : hg_E) (S : hg_S) (o : Nat) (p1 : Int32) (p2 : Int32) (p3 : Int32) (p4 : Int32) (p5 : Int32) : Option (hg_S × Int32) :=
  (hg_gi S (some o) 0 1).bind fun e23 => if (32768 : Int32) < (e23 + 20) then (some (S, (-1))) else ((hg_gi S (some o) 0 1).bind fun e24 => (hg_gr S (some o) 0 0).bind fun e25 => (hg_ln S e25 (G.1 1)).bind fun e26 => if e26 < (e24 + 20) then ((hg_gr S (some o) 0 0).bind fun e27 => (hg_gr S (some o) 0 0).bind fun e28 => (hg_ln S e28 (G.1 1)).bind fun e29 => (hm_JA_copyB G S e27 (2 * e29)).bind fun q30 => (hg_pf q30.1 (some o) 0 0 (va_rf q30.2)).bind fun S31 => hm_SE_feed_L47 G S31 o p1 p2 p3 p4 p5) else (hm_SE_feed_L47 G S o p1 p2 p3 p4 p5))
set_option maxHeartbeats 4000000 in
set_option maxRecDepth 100000 in
/-- SignalEngine.feed(IIIII)I -/
theorem hm_SE_feed_ok (l : Launch) (D : va_G) (G : hg_E) (Z : hg_S) (o : Nat) (p1 : Int32) (p2 : Int32) (p3 : Int32) (p4 : Int32) (p5 : Int32) (q : hg_S × Int32) (hq : hm_SE_feed G Z o p1 p2 p3 p4 p5 = some q) : hg_C l ⟨"SignalEngine", "feed", "(IIIII)I"⟩ prog_1_method_2_code 6 (some (.int)) 2 43 D G [.ref o, .int p1, .int p2, .int p3, .int p4, .int p5] Z (.inl (some (.int q.2), q.1) : hg_O) := by
  refine hg_start (cv := fun q => (.inl (some (.int q.2), q.1) : hg_O)) hq ?_
  intro F hF h
  refine hg_enter (lv := [(0, va_rf (some o)), (1, .int p1), (2, .int p2), (3, .int p3), (4, .int p4), (5, .int p5)]) (by decide +kernel) (by simp [lg_sl, va_rf_cat, hg_cti, hg_ctr]) (by simp [lv_args, va_rf_cat, va_rf_some, hg_cti, hg_ctr]) ?_
  intro X hC hR
  have lab_47 : ∀ (S : hg_S) (x1 : Int32) (x2 : Int32) (x3 : Int32) (x4 : Int32) (x5 : Int32), dc_wp (hm_SE_feed_L47 G S o x1 x2 x3 x4 x5) F → hg_G X l (hg_rm 2 43 Z) D 6 S 47 [(0, va_rf (some o)), (1, .int x1), (2, .int x2), (3, .int x3), (4, .int x4), (5, .int x5)] [] := by
    intro S x1 x2 x3 x4 x5 h
    delta hm_SE_feed_L47 at h
    refine hg_aloadn (pc := 47) (j := 0) (i := 0) (r := (some o)) hC 0 rfl rfl (show decode prog_1_method_2_code 47 = .ok (.aload_n 0, 1) by decide +kernel) ?_
    refine hg_iloadn (pc := 48) (j := 1) (i := 1) hC 1 rfl rfl (show decode prog_1_method_2_code 48 = .ok (.iload_n 1, 1) by decide +kernel) ?_
    obtain ⟨b1, hb2, h⟩ := dc_bind h
    obtain ⟨hb2, hv3⟩ := hg_chk_of (C := R_SE) rfl hb2
    refine hg_kVv (pc := 49) (b := b1) (r := (some o)) (As := [.int x1]) (rest := []) (so := fun q => q) hC cw_SignalEngine_24 (fun q hq => hm_SE_append_ok l D G S b1 x1 q hq) (Nat.le_of_ble_eq_true rfl) (Nat.le_of_ble_eq_true rfl) hb2 hv3 rfl (Nat.le_of_ble_eq_true rfl) (show decode prog_1_method_2_code 49 = .ok (.invokevirtual 24, 3) by decide +kernel) h ?_
    intro q4 h
    refine hg_aloadn (pc := 52) (j := 0) (i := 0) (r := (some o)) hC 0 rfl rfl (show decode prog_1_method_2_code 52 = .ok (.aload_n 0, 1) by decide +kernel) ?_
    refine hg_iloadn (pc := 53) (j := 2) (i := 2) hC 2 rfl rfl (show decode prog_1_method_2_code 53 = .ok (.iload_n 2, 1) by decide +kernel) ?_
    obtain ⟨b5, hb6, h⟩ := dc_bind h
    obtain ⟨hb6, hv7⟩ := hg_chk_of (C := R_SE) rfl hb6
    refine hg_kVv (pc := 54) (b := b5) (r := (some o)) (As := [.int x2]) (rest := []) (so := fun q => q) hC cw_SignalEngine_24 (fun q hq => hm_SE_append_ok l D G q4 b5 x2 q hq) (Nat.le_of_ble_eq_true rfl) (Nat.le_of_ble_eq_true rfl) hb6 hv7 rfl (Nat.le_of_ble_eq_true rfl) (show decode prog_1_method_2_code 54 = .ok (.invokevirtual 24, 3) by decide +kernel) h ?_
    intro q8 h
    refine hg_aloadn (pc := 57) (j := 0) (i := 0) (r := (some o)) hC 0 rfl rfl (show decode prog_1_method_2_code 57 = .ok (.aload_n 0, 1) by decide +kernel) ?_
    refine hg_iloadn (pc := 58) (j := 3) (i := 3) hC 3 rfl rfl (show decode prog_1_method_2_code 58 = .ok (.iload_n 3, 1) by decide +kernel) ?_
    obtain ⟨b9, hb10, h⟩ := dc_bind h
    obtain ⟨hb10, hv11⟩ := hg_chk_of (C := R_SE) rfl hb10
    refine hg_kVv (pc := 59) (b := b9) (r := (some o)) (As := [.int x3]) (rest := []) (so := fun q => q) hC cw_SignalEngine_24 (fun q hq => hm_SE_append_ok l D G q8 b9 x3 q hq) (Nat.le_of_ble_eq_true rfl) (Nat.le_of_ble_eq_true rfl) hb10 hv11 rfl (Nat.le_of_ble_eq_true rfl) (show decode prog_1_method_2_code 59 = .ok (.invokevirtual 24, 3) by decide +kernel) h ?_
    intro q12 h
    refine hg_aloadn (pc := 62) (j := 0) (i := 0) (r := (some o)) hC 0 rfl rfl (show decode prog_1_method_2_code 62 = .ok (.aload_n 0, 1) by decide +kernel) ?_
    refine hg_iload (pc := 63) (i := 4) hC 4 rfl (show decode prog_1_method_2_code 63 = .ok (.iload 4, 2) by decide +kernel) ?_
    obtain ⟨b13, hb14, h⟩ := dc_bind h
    obtain ⟨hb14, hv15⟩ := hg_chk_of (C := R_SE) rfl hb14
    refine hg_kVv (pc := 65) (b := b13) (r := (some o)) (As := [.int x4]) (rest := []) (so := fun q => q) hC cw_SignalEngine_24 (fun q hq => hm_SE_append_ok l D G q12 b13 x4 q hq) (Nat.le_of_ble_eq_true rfl) (Nat.le_of_ble_eq_true rfl) hb14 hv15 rfl (Nat.le_of_ble_eq_true rfl) (show decode prog_1_method_2_code 65 = .ok (.invokevirtual 24, 3) by decide +kernel) h ?_
    intro q16 h
    refine hg_aloadn (pc := 68) (j := 0) (i := 0) (r := (some o)) hC 0 rfl rfl (show decode prog_1_method_2_code 68 = .ok (.aload_n 0, 1) by decide +kernel) ?_
    refine hg_iload (pc := 69) (i := 5) hC 5 rfl (show decode prog_1_method_2_code 69 = .ok (.iload 5, 2) by decide +kernel) ?_
    obtain ⟨b17, hb18, h⟩ := dc_bind h
    obtain ⟨hb18, hv19⟩ := hg_chk_of (C := R_SE) rfl hb18
    refine hg_kVv (pc := 71) (b := b17) (r := (some o)) (As := [.int x5]) (rest := []) (so := fun q => q) hC cw_SignalEngine_24 (fun q hq => hm_SE_append_ok l D G q16 b17 x5 q hq) (Nat.le_of_ble_eq_true rfl) (Nat.le_of_ble_eq_true rfl) hb18 hv19 rfl (Nat.le_of_ble_eq_true rfl) (show decode prog_1_method_2_code 71 = .ok (.invokevirtual 24, 3) by decide +kernel) h ?_
    intro q20 h
    refine hg_aloadn (pc := 74) (j := 0) (i := 0) (r := (some o)) hC 0 rfl rfl (show decode prog_1_method_2_code 74 = .ok (.aload_n 0, 1) by decide +kernel) ?_
    refine hg_iconst (pc := 75) (v := 1) hC (show decode prog_1_method_2_code 75 = .ok (.iconst 1, 1) by decide +kernel) (by decide +kernel) ?_
    refine hg_rput (pc := 76) (r := (some o)) (v := .int 1) hC fp_SignalEngine_28 (dc_nar (Or.inr rfl)).2.1 (dc_nar (Or.inr rfl)).2.2 (show decode prog_1_method_2_code 76 = .ok (.putfield 28, 3) by decide +kernel) h ?_
    intro S21 h
    refine hg_aloadn (pc := 79) (j := 0) (i := 0) (r := (some o)) hC 0 rfl rfl (show decode prog_1_method_2_code 79 = .ok (.aload_n 0, 1) by decide +kernel) ?_
    refine hg_rgi (pc := 80) (r := (some o)) hC fl_SignalEngine_13 (show decode prog_1_method_2_code 80 = .ok (.getfield 13, 3) by decide +kernel) h ?_
    intro e22 h
    exact hg_iret (pc := 83) hC hR (hF _ (dc_some h)) (show decode prog_1_method_2_code 83 = .ok (.ireturn, 1) by decide +kernel)
  show hg_G X l (hg_rm 2 43 Z) D 6 Z 0 [(0, va_rf (some o)), (1, .int p1), (2, .int p2), (3, .int p3), (4, .int p4), (5, .int p5)] []
  have h : dc_wp (hm_SE_feed G Z o p1 p2 p3 p4 p5) F := h
  delta hm_SE_feed at h
  refine hg_aloadn (pc := 0) (j := 0) (i := 0) (r := (some o)) hC 0 rfl rfl (show decode prog_1_method_2_code 0 = .ok (.aload_n 0, 1) by decide +kernel) ?_
  refine hg_rgi (pc := 1) (r := (some o)) hC fl_SignalEngine_13 (show decode prog_1_method_2_code 1 = .ok (.getfield 13, 3) by decide +kernel) h ?_
  intro e23 h
  refine hg_bipush (pc := 4) (v := 20) hC (show decode prog_1_method_2_code 4 = .ok (.bipush 20, 2) by decide +kernel) (by decide +kernel) ?_
  refine hg_iadd (pc := 6) hC (show decode prog_1_method_2_code 6 = .ok (.iadd, 1) by decide +kernel) ?_
  refine hg_ldc (pc := 7) (v := 32768) hC w_90 (show decode prog_1_method_2_code 7 = .ok (.ldc 17, 2) by decide +kernel) ?_
  refine hg_icmp_le (pc := 9) (tgt := 14) hC (show decode prog_1_method_2_code 9 = .ok (.if_icmp .le 5, 3) by decide +kernel) (by decide +kernel) h ?_ ?_
  · intro h
    refine hg_iconst (pc := 12) (v := (-1)) hC (show decode prog_1_method_2_code 12 = .ok (.iconst (-1), 1) by decide +kernel) (by decide +kernel) ?_
    exact hg_iret (pc := 13) hC hR (hF _ (dc_some h)) (show decode prog_1_method_2_code 13 = .ok (.ireturn, 1) by decide +kernel)
  · intro h
    refine hg_aloadn (pc := 14) (j := 0) (i := 0) (r := (some o)) hC 0 rfl rfl (show decode prog_1_method_2_code 14 = .ok (.aload_n 0, 1) by decide +kernel) ?_
    refine hg_rgi (pc := 15) (r := (some o)) hC fl_SignalEngine_13 (show decode prog_1_method_2_code 15 = .ok (.getfield 13, 3) by decide +kernel) h ?_
    intro e24 h
    refine hg_bipush (pc := 18) (v := 20) hC (show decode prog_1_method_2_code 18 = .ok (.bipush 20, 2) by decide +kernel) (by decide +kernel) ?_
    refine hg_iadd (pc := 20) hC (show decode prog_1_method_2_code 20 = .ok (.iadd, 1) by decide +kernel) ?_
    refine hg_aloadn (pc := 21) (j := 0) (i := 0) (r := (some o)) hC 0 rfl rfl (show decode prog_1_method_2_code 21 = .ok (.aload_n 0, 1) by decide +kernel) ?_
    refine hg_rgr (pc := 22) (r := (some o)) hC fl_SignalEngine_9 (show decode prog_1_method_2_code 22 = .ok (.getfield 9, 3) by decide +kernel) h ?_
    intro e25 h
    refine hg_rlen (pc := 25) (r := e25) (t := 1) hC rfl (show decode prog_1_method_2_code 25 = .ok (.arraylength, 1) by decide +kernel) h ?_
    intro e26 h
    refine hg_icmp_le (pc := 26) (tgt := 47) hC (show decode prog_1_method_2_code 26 = .ok (.if_icmp .le 21, 3) by decide +kernel) (by decide +kernel) h ?_ ?_
    · intro h
      refine hg_aloadn (pc := 29) (j := 0) (i := 0) (r := (some o)) hC 0 rfl rfl (show decode prog_1_method_2_code 29 = .ok (.aload_n 0, 1) by decide +kernel) ?_
      refine hg_aloadn (pc := 30) (j := 0) (i := 0) (r := (some o)) hC 0 rfl rfl (show decode prog_1_method_2_code 30 = .ok (.aload_n 0, 1) by decide +kernel) ?_
      refine hg_rgr (pc := 31) (r := (some o)) hC fl_SignalEngine_9 (show decode prog_1_method_2_code 31 = .ok (.getfield 9, 3) by decide +kernel) h ?_
      intro e27 h
      refine hg_iconst (pc := 34) (v := 2) hC (show decode prog_1_method_2_code 34 = .ok (.iconst 2, 1) by decide +kernel) (by decide +kernel) ?_
      refine hg_aloadn (pc := 35) (j := 0) (i := 0) (r := (some o)) hC 0 rfl rfl (show decode prog_1_method_2_code 35 = .ok (.aload_n 0, 1) by decide +kernel) ?_
      refine hg_rgr (pc := 36) (r := (some o)) hC fl_SignalEngine_9 (show decode prog_1_method_2_code 36 = .ok (.getfield 9, 3) by decide +kernel) h ?_
      intro e28 h
      refine hg_rlen (pc := 39) (r := e28) (t := 1) hC rfl (show decode prog_1_method_2_code 39 = .ok (.arraylength, 1) by decide +kernel) h ?_
      intro e29 h
      refine hg_imul (pc := 40) hC (show decode prog_1_method_2_code 40 = .ok (.imul, 1) by decide +kernel) ?_
      refine hg_kSr (pc := 41) (As := [va_rf e27, .int (2 * e29)]) (rest := [va_rf (some o)]) (vo := fun q => q.2) (so := fun q => q.1) hC cw_SignalEngine_18 (fun q hq => hm_JA_copyB_ok l D G Z e27 (2 * e29) q hq) (Nat.le_of_ble_eq_true rfl) (Nat.le_of_ble_eq_true rfl) rfl (Nat.le_of_ble_eq_true rfl) (show decode prog_1_method_2_code 41 = .ok (.invokestatic 18, 3) by decide +kernel) h ?_
      intro q30 h
      refine hg_rput (pc := 44) (r := (some o)) (v := va_rf q30.2) hC fp_SignalEngine_9 (hg_na _).1 (hg_na _).2 (show decode prog_1_method_2_code 44 = .ok (.putfield 9, 3) by decide +kernel) h ?_
      intro S31 h
      exact lab_47 S31 p1 p2 p3 p4 p5 h
    · intro h
      exact lab_47 Z p1 p2 p3 p4 p5 h
noncomputable def hm_DR_init (G : hg_E) (S : hg_S) (o : Nat) : Option (hg_S) :=
  (hg_new S 7 3 [.null, .int 0, .int 0]).bind fun S1 => (hm_AL_init G S1 S.2.1).bind fun q2 => (hg_pf q2 (some o) 6 0 (va_rf (some S.2.1))).bind fun S3 => (hg_new S3 5 6 [.null, .null, .null, .null, .null, .int 0]).bind fun S4 => (hm_PI_init G S4 S3.2.1 (4 : Int32)).bind fun q5 => (hg_pf q5 (some o) 6 1 (va_rf (some S3.2.1))).bind fun S6 => some S6
set_option maxHeartbeats 4000000 in
set_option maxRecDepth 100000 in
/-- SignalEngine$Draft.<init>()V -/
theorem hm_DR_init_ok (l : Launch) (D : va_G) (G : hg_E) (Z : hg_S) (o : Nat) (q : hg_S) (hq : hm_DR_init G Z o = some q) : hg_C l ⟨"SignalEngine$Draft", "<init>", "()V"⟩ prog_4_method_1_code 1 none 4 80 D G [.ref o] Z (.inl (none, q) : hg_O) := by
  refine hg_start (cv := fun q => (.inl (none, q) : hg_O)) hq ?_
  intro F hF h
  refine hg_enter (lv := [(0, va_rf (some o))]) (by decide +kernel) (by simp [lg_sl, va_rf_cat, hg_cti, hg_ctr]) (by simp [lv_args, va_rf_cat, va_rf_some, hg_cti, hg_ctr]) ?_
  intro X hC hR
  show hg_G X l (hg_rm 4 80 Z) D 1 Z 0 [(0, va_rf (some o))] []
  have h : dc_wp (hm_DR_init G Z o) F := h
  delta hm_DR_init at h
  refine hg_aloadn (pc := 0) (j := 0) (i := 0) (r := (some o)) hC 0 rfl rfl (show decode prog_4_method_1_code 0 = .ok (.aload_n 0, 1) by decide +kernel) ?_
  refine hg_oi (pc := 1) (a := o) hC w_134 w_40 w_41 (show decode prog_4_method_1_code 1 = .ok (.invokespecial 3, 3) by decide +kernel) (Nat.le_of_ble_eq_true rfl) (Nat.le_of_ble_eq_true rfl) ?_
  refine hg_aloadn (pc := 4) (j := 0) (i := 0) (r := (some o)) hC 0 rfl rfl (show decode prog_4_method_1_code 4 = .ok (.aload_n 0, 1) by decide +kernel) ?_
  refine hg_rnew (pc := 5) hC nw_SignalEngine_Draft_9 (show decode prog_4_method_1_code 5 = .ok (.new 9, 3) by decide +kernel) h ?_
  intro S1 h
  refine hg_dup (pc := 8) hC (show decode prog_4_method_1_code 8 = .ok (.dup, 1) by decide +kernel) (va_rf_cat _) ?_
  refine hg_kIv (pc := 9) (b := Z.2.1) (r := (some Z.2.1)) (As := []) (rest := [va_rf (some Z.2.1), va_rf (some o)]) (so := fun q => q) hC cw_SignalEngine_Draft_11 (fun q hq => hm_AL_init_ok l D G S1 Z.2.1 q hq) (Nat.le_of_ble_eq_true rfl) (Nat.le_of_ble_eq_true rfl) rfl rfl (by simp only [List.map, va_rf_cat]; exact Nat.le_of_ble_eq_true rfl) (show decode prog_4_method_1_code 9 = .ok (.invokespecial 11, 3) by decide +kernel) h ?_
  intro q2 h
  refine hg_rputF (pc := 12) (r := (some o)) (v := va_rf (some Z.2.1)) hC hR fp_SignalEngine_Draft_12 (hg_nr _).1 (hg_nr _).2 (show decode prog_4_method_1_code 12 = .ok (.putfield 12, 3) by decide +kernel) h ?_
  intro S3 h
  refine hg_aloadn (pc := 15) (j := 0) (i := 0) (r := (some o)) hC 0 rfl rfl (show decode prog_4_method_1_code 15 = .ok (.aload_n 0, 1) by decide +kernel) ?_
  refine hg_rnew (pc := 16) hC nw_SignalEngine_Draft_18 (show decode prog_4_method_1_code 16 = .ok (.new 18, 3) by decide +kernel) h ?_
  intro S4 h
  refine hg_dup (pc := 19) hC (show decode prog_4_method_1_code 19 = .ok (.dup, 1) by decide +kernel) (va_rf_cat _) ?_
  refine hg_iconst (pc := 20) (v := 4) hC (show decode prog_4_method_1_code 20 = .ok (.iconst 4, 1) by decide +kernel) (by decide +kernel) ?_
  refine hg_kIv (pc := 21) (b := S3.2.1) (r := (some S3.2.1)) (As := [.int 4]) (rest := [va_rf (some S3.2.1), va_rf (some o)]) (so := fun q => q) hC cw_SignalEngine_Draft_20 (fun q hq => hm_PI_init_ok l D G S4 S3.2.1 (4 : Int32) q hq) (Nat.le_of_ble_eq_true rfl) (Nat.le_of_ble_eq_true rfl) rfl rfl (by simp only [List.map, va_rf_cat]; exact Nat.le_of_ble_eq_true rfl) (show decode prog_4_method_1_code 21 = .ok (.invokespecial 20, 3) by decide +kernel) h ?_
  intro q5 h
  refine hg_rputF (pc := 24) (r := (some o)) (v := va_rf (some S3.2.1)) hC hR fp_SignalEngine_Draft_23 (hg_nr _).1 (hg_nr _).2 (show decode prog_4_method_1_code 24 = .ok (.putfield 23, 3) by decide +kernel) h ?_
  intro S6 h
  exact hg_vret (pc := 27) hC hR (hF _ (dc_some h)) (show decode prog_4_method_1_code 27 = .ok (.return_, 1) by decide +kernel)
noncomputable def hm_LX_init (G : hg_E) (S : hg_S) (o : Nat) (p1 : Option Nat) : Option (hg_S) :=
  (hg_pf S (some o) 2 1 (va_rf (some (G.2.1 32)))).bind fun S1 => (hg_pf S1 (some o) 2 4 (.int 1)).bind fun S2 => (hg_pf S2 (some o) 2 0 (va_rf p1)).bind fun S3 => some S3
set_option maxHeartbeats 4000000 in
set_option maxRecDepth 100000 in
/-- SignalEngine$Lexer.<init>([B)V -/
theorem hm_LX_init_ok (l : Launch) (D : va_G) (G : hg_E) (Z : hg_S) (o : Nat) (p1 : Option Nat) (q : hg_S) (hq : hm_LX_init G Z o p1 = some q) : hg_C l ⟨"SignalEngine$Lexer", "<init>", "([B)V"⟩ prog_5_method_1_code 2 none 1 20 D G [.ref o, va_rf p1] Z (.inl (none, q) : hg_O) := by
  refine hg_start (cv := fun q => (.inl (none, q) : hg_O)) hq ?_
  intro F hF h
  refine hg_enter (lv := [(0, va_rf (some o)), (1, va_rf p1)]) (by decide +kernel) (by simp [lg_sl, va_rf_cat, hg_cti, hg_ctr]) (by simp [lv_args, va_rf_cat, va_rf_some, hg_cti, hg_ctr]) ?_
  intro X hC hR
  show hg_G X l (hg_rm 1 20 Z) D 2 Z 0 [(0, va_rf (some o)), (1, va_rf p1)] []
  have h : dc_wp (hm_LX_init G Z o p1) F := h
  delta hm_LX_init at h
  refine hg_aloadn (pc := 0) (j := 0) (i := 0) (r := (some o)) hC 0 rfl rfl (show decode prog_5_method_1_code 0 = .ok (.aload_n 0, 1) by decide +kernel) ?_
  refine hg_oi (pc := 1) (a := o) hC w_229 w_40 w_41 (show decode prog_5_method_1_code 1 = .ok (.invokespecial 1, 3) by decide +kernel) (Nat.le_of_ble_eq_true rfl) (Nat.le_of_ble_eq_true rfl) ?_
  refine hg_aloadn (pc := 4) (j := 0) (i := 0) (r := (some o)) hC 0 rfl rfl (show decode prog_5_method_1_code 4 = .ok (.aload_n 0, 1) by decide +kernel) ?_
  refine hg_tok (pc := 5) (j := 32) hC (by decide) rfl w_230 (show decode prog_5_method_1_code 5 = .ok (.getstatic 7, 3) by decide +kernel) ?_
  refine hg_rput (pc := 8) (r := (some o)) (v := va_rf (some (G.2.1 32))) hC fp_SignalEngine_Lexer_13 (hg_nr _).1 (hg_nr _).2 (show decode prog_5_method_1_code 8 = .ok (.putfield 13, 3) by decide +kernel) h ?_
  intro S1 h
  refine hg_aloadn (pc := 11) (j := 0) (i := 0) (r := (some o)) hC 0 rfl rfl (show decode prog_5_method_1_code 11 = .ok (.aload_n 0, 1) by decide +kernel) ?_
  refine hg_iconst (pc := 12) (v := 1) hC (show decode prog_5_method_1_code 12 = .ok (.iconst 1, 1) by decide +kernel) (by decide +kernel) ?_
  refine hg_rput (pc := 13) (r := (some o)) (v := .int 1) hC fp_SignalEngine_Lexer_18 rfl rfl (show decode prog_5_method_1_code 13 = .ok (.putfield 18, 3) by decide +kernel) h ?_
  intro S2 h
  refine hg_aloadn (pc := 16) (j := 0) (i := 0) (r := (some o)) hC 0 rfl rfl (show decode prog_5_method_1_code 16 = .ok (.aload_n 0, 1) by decide +kernel) ?_
  refine hg_aloadn (pc := 17) (j := 1) (i := 1) (r := p1) hC 1 rfl rfl (show decode prog_5_method_1_code 17 = .ok (.aload_n 1, 1) by decide +kernel) ?_
  refine hg_rputF (pc := 18) (r := (some o)) (v := va_rf p1) hC hR fp_SignalEngine_Lexer_22 (hg_na _).1 (hg_na _).2 (show decode prog_5_method_1_code 18 = .ok (.putfield 22, 3) by decide +kernel) h ?_
  intro S3 h
  exact hg_vret (pc := 21) hC hR (hF _ (dc_some h)) (show decode prog_5_method_1_code 21 = .ok (.return_, 1) by decide +kernel)
noncomputable def hm_PA_init (G : hg_E) (S : hg_S) (o : Nat) (p1 : Option Nat) : Option (hg_S) :=
  (hg_new S 6 6 [.null, .null, .int 0, .int 0, .int 0, .int 0]).bind fun S1 => (hm_DR_init G S1 S.2.1).bind fun q2 => (hg_pf q2 (some o) 4 3 (va_rf (some S.2.1))).bind fun S3 => (hg_new S3 2 6 [.null, .null, .int 0, .int 0, .int 0, .int 0]).bind fun S4 => (hm_LX_init G S4 S3.2.1 p1).bind fun q5 => (hg_pf q5 (some o) 4 0 (va_rf (some S3.2.1))).bind fun S6 => (hg_new S6 3 6 [.null, .null, .null, .null, .int 0, .int 0]).bind fun S7 => (hm_NM_init G S7 S6.2.1 p1).bind fun q8 => (hg_pf q8 (some o) 4 1 (va_rf (some S6.2.1))).bind fun S9 => (hg_new S9 3 6 [.null, .null, .null, .null, .int 0, .int 0]).bind fun S10 => (hm_NM_init G S10 S9.2.1 p1).bind fun q11 => (hg_pf q11 (some o) 4 2 (va_rf (some S9.2.1))).bind fun S12 => some S12
set_option maxHeartbeats 4000000 in
set_option maxRecDepth 100000 in
/-- SignalEngine$Parser.<init>([B)V -/
theorem hm_PA_init_ok (l : Launch) (D : va_G) (G : hg_E) (Z : hg_S) (o : Nat) (p1 : Option Nat) (q : hg_S) (hq : hm_PA_init G Z o p1 = some q) : hg_C l ⟨"SignalEngine$Parser", "<init>", "([B)V"⟩ prog_9_method_1_code 2 none 5 100 D G [.ref o, va_rf p1] Z (.inl (none, q) : hg_O) := by
  refine hg_start (cv := fun q => (.inl (none, q) : hg_O)) hq ?_
  intro F hF h
  refine hg_enter (lv := [(0, va_rf (some o)), (1, va_rf p1)]) (by decide +kernel) (by simp [lg_sl, va_rf_cat, hg_cti, hg_ctr]) (by simp [lv_args, va_rf_cat, va_rf_some, hg_cti, hg_ctr]) ?_
  intro X hC hR
  show hg_G X l (hg_rm 5 100 Z) D 2 Z 0 [(0, va_rf (some o)), (1, va_rf p1)] []
  have h : dc_wp (hm_PA_init G Z o p1) F := h
  delta hm_PA_init at h
  refine hg_aloadn (pc := 0) (j := 0) (i := 0) (r := (some o)) hC 0 rfl rfl (show decode prog_9_method_1_code 0 = .ok (.aload_n 0, 1) by decide +kernel) ?_
  refine hg_oi (pc := 1) (a := o) hC w_128 w_40 w_41 (show decode prog_9_method_1_code 1 = .ok (.invokespecial 3, 3) by decide +kernel) (Nat.le_of_ble_eq_true rfl) (Nat.le_of_ble_eq_true rfl) ?_
  refine hg_aloadn (pc := 4) (j := 0) (i := 0) (r := (some o)) hC 0 rfl rfl (show decode prog_9_method_1_code 4 = .ok (.aload_n 0, 1) by decide +kernel) ?_
  refine hg_rnew (pc := 5) hC nw_SignalEngine_Parser_9 (show decode prog_9_method_1_code 5 = .ok (.new 9, 3) by decide +kernel) h ?_
  intro S1 h
  refine hg_dup (pc := 8) hC (show decode prog_9_method_1_code 8 = .ok (.dup, 1) by decide +kernel) (va_rf_cat _) ?_
  refine hg_kJv (pc := 9) (b := Z.2.1) (r := (some Z.2.1)) (As := []) (rest := [va_rf (some Z.2.1), va_rf (some o)]) (so := fun q => q) hC cw_SignalEngine_Parser_11 (fun q hq => hm_DR_init_ok l D G S1 Z.2.1 q hq) (Nat.le_of_ble_eq_true rfl) (Nat.le_of_ble_eq_true rfl) rfl rfl (by simp only [List.map, va_rf_cat]; exact Nat.le_of_ble_eq_true rfl) (show decode prog_9_method_1_code 9 = .ok (.invokespecial 11, 3) by decide +kernel) h ?_
  intro q2 h
  refine hg_rputF (pc := 12) (r := (some o)) (v := va_rf (some Z.2.1)) hC hR fp_SignalEngine_Parser_12 (hg_nr _).1 (hg_nr _).2 (show decode prog_9_method_1_code 12 = .ok (.putfield 12, 3) by decide +kernel) h ?_
  intro S3 h
  refine hg_aloadn (pc := 15) (j := 0) (i := 0) (r := (some o)) hC 0 rfl rfl (show decode prog_9_method_1_code 15 = .ok (.aload_n 0, 1) by decide +kernel) ?_
  refine hg_rnew (pc := 16) hC nw_SignalEngine_Parser_18 (show decode prog_9_method_1_code 16 = .ok (.new 18, 3) by decide +kernel) h ?_
  intro S4 h
  refine hg_dup (pc := 19) hC (show decode prog_9_method_1_code 19 = .ok (.dup, 1) by decide +kernel) (va_rf_cat _) ?_
  refine hg_aloadn (pc := 20) (j := 1) (i := 1) (r := p1) hC 1 rfl rfl (show decode prog_9_method_1_code 20 = .ok (.aload_n 1, 1) by decide +kernel) ?_
  refine hg_kIv (pc := 21) (b := S3.2.1) (r := (some S3.2.1)) (As := [va_rf p1]) (rest := [va_rf (some S3.2.1), va_rf (some o)]) (so := fun q => q) hC cw_SignalEngine_Parser_20 (fun q hq => hm_LX_init_ok l D G S4 S3.2.1 p1 q hq) (Nat.le_of_ble_eq_true rfl) (Nat.le_of_ble_eq_true rfl) rfl rfl (by simp only [List.map, va_rf_cat]; exact Nat.le_of_ble_eq_true rfl) (show decode prog_9_method_1_code 21 = .ok (.invokespecial 20, 3) by decide +kernel) h ?_
  intro q5 h
  refine hg_rputF (pc := 24) (r := (some o)) (v := va_rf (some S3.2.1)) hC hR fp_SignalEngine_Parser_23 (hg_nr _).1 (hg_nr _).2 (show decode prog_9_method_1_code 24 = .ok (.putfield 23, 3) by decide +kernel) h ?_
  intro S6 h
  refine hg_aloadn (pc := 27) (j := 0) (i := 0) (r := (some o)) hC 0 rfl rfl (show decode prog_9_method_1_code 27 = .ok (.aload_n 0, 1) by decide +kernel) ?_
  refine hg_rnew (pc := 28) hC nw_SignalEngine_Parser_27 (show decode prog_9_method_1_code 28 = .ok (.new 27, 3) by decide +kernel) h ?_
  intro S7 h
  refine hg_dup (pc := 31) hC (show decode prog_9_method_1_code 31 = .ok (.dup, 1) by decide +kernel) (va_rf_cat _) ?_
  refine hg_aloadn (pc := 32) (j := 1) (i := 1) (r := p1) hC 1 rfl rfl (show decode prog_9_method_1_code 32 = .ok (.aload_n 1, 1) by decide +kernel) ?_
  refine hg_kIv (pc := 33) (b := S6.2.1) (r := (some S6.2.1)) (As := [va_rf p1]) (rest := [va_rf (some S6.2.1), va_rf (some o)]) (so := fun q => q) hC cw_SignalEngine_Parser_29 (fun q hq => hm_NM_init_ok l D G S7 S6.2.1 p1 q hq) (Nat.le_of_ble_eq_true rfl) (Nat.le_of_ble_eq_true rfl) rfl rfl (by simp only [List.map, va_rf_cat]; exact Nat.le_of_ble_eq_true rfl) (show decode prog_9_method_1_code 33 = .ok (.invokespecial 29, 3) by decide +kernel) h ?_
  intro q8 h
  refine hg_rputF (pc := 36) (r := (some o)) (v := va_rf (some S6.2.1)) hC hR fp_SignalEngine_Parser_30 (hg_nr _).1 (hg_nr _).2 (show decode prog_9_method_1_code 36 = .ok (.putfield 30, 3) by decide +kernel) h ?_
  intro S9 h
  refine hg_aloadn (pc := 39) (j := 0) (i := 0) (r := (some o)) hC 0 rfl rfl (show decode prog_9_method_1_code 39 = .ok (.aload_n 0, 1) by decide +kernel) ?_
  refine hg_rnew (pc := 40) hC nw_SignalEngine_Parser_27 (show decode prog_9_method_1_code 40 = .ok (.new 27, 3) by decide +kernel) h ?_
  intro S10 h
  refine hg_dup (pc := 43) hC (show decode prog_9_method_1_code 43 = .ok (.dup, 1) by decide +kernel) (va_rf_cat _) ?_
  refine hg_aloadn (pc := 44) (j := 1) (i := 1) (r := p1) hC 1 rfl rfl (show decode prog_9_method_1_code 44 = .ok (.aload_n 1, 1) by decide +kernel) ?_
  refine hg_kIv (pc := 45) (b := S9.2.1) (r := (some S9.2.1)) (As := [va_rf p1]) (rest := [va_rf (some S9.2.1), va_rf (some o)]) (so := fun q => q) hC cw_SignalEngine_Parser_29 (fun q hq => hm_NM_init_ok l D G S10 S9.2.1 p1 q hq) (Nat.le_of_ble_eq_true rfl) (Nat.le_of_ble_eq_true rfl) rfl rfl (by simp only [List.map, va_rf_cat]; exact Nat.le_of_ble_eq_true rfl) (show decode prog_9_method_1_code 45 = .ok (.invokespecial 29, 3) by decide +kernel) h ?_
  intro q11 h
  refine hg_rputF (pc := 48) (r := (some o)) (v := va_rf (some S9.2.1)) hC hR fp_SignalEngine_Parser_34 (hg_nr _).1 (hg_nr _).2 (show decode prog_9_method_1_code 48 = .ok (.putfield 34, 3) by decide +kernel) h ?_
  intro S12 h
  exact hg_vret (pc := 51) hC hR (hF _ (dc_some h)) (show decode prog_9_method_1_code 51 = .ok (.return_, 1) by decide +kernel)
noncomputable def hm_LX_known_L107 (G : hg_E) (S : hg_S) (o : Nat) (x1 : Option Nat) : Option (Option Nat) :=
  some x1
noncomputable def hm_LX_known_L95 (G : hg_E) (S : hg_S) (o : Nat) (x2 : Int32) : Option (Option Nat) :=
  (dc_ix x2 33).bind fun j1 => some (some (G.2.1 j1))
noncomputable def hm_LX_known_L101 (G : hg_E) (S : hg_S) (o : Nat) (x1 : Option Nat) (x2 : Int32) : Option ((Int32) ⊕ ((Int32) ⊕ (Unit))) :=
  some (.inl (x2 + 1))
noncomputable def hm_LX_known_L72 (G : hg_E) (S : hg_S) (o : Nat) (x1 : Option Nat) (x2 : Int32) (x3 : Option Nat) (x4 : Int32) : Option ((Int32) ⊕ ((Int32) ⊕ (Unit))) :=
  (hg_sk G 10 x3).bind fun j2 => (hm_ST_length G S (G.2.2.2 (10 + j2))).bind fun q6 => if x4 = q6 then ((hg_gi S (some o) 2 2).bind fun e7 => (hg_gi S (some o) 2 3).bind fun e8 => if (e7 + x4) = e8 then (some (.inr (.inl x2))) else (hm_LX_known_L101 G S o x1 x2)) else (hm_LX_known_L101 G S o x1 x2)
noncomputable def hm_LX_known_b22 (G : hg_E) (S : hg_S) (o : Nat) (x1 : Option Nat) (x2 : Int32) (x3 : Option Nat) (x4 : Int32) : Option ((Int32) ⊕ ((Int32))) :=
  (hg_sk G 10 x3).bind fun j9 => (hm_ST_length G S (G.2.2.2 (10 + j9))).bind fun q13 => if x4 < q13 then ((hg_gi S (some o) 2 2).bind fun e14 => (hg_gi S (some o) 2 3).bind fun e15 => if (e14 + x4) < e15 then ((hg_sk G 10 x3).bind fun j16 => (hm_ST_charAt G S (G.2.2.2 (10 + j16)) x4).bind fun q20 => (hg_gr S (some o) 2 0).bind fun e21 => (hg_gi S (some o) 2 2).bind fun e22 => (hg_ld S e21 (G.1 1) (e22 + x4)).bind fun e23 => if q20 = e23 then (some (.inl (x4 + 1))) else (some (.inr x4))) else (some (.inr x4))) else (some (.inr x4))
noncomputable def hm_LX_known_s22 (G : hg_E) (S : hg_S) (o : Nat) (x1 : Option Nat) (x2 : Int32) (x3 : Option Nat) (q : Int32) : Option ((Int32) ⊕ ((Int32))) :=
  hm_LX_known_b22 G S o x1 x2 x3 q
noncomputable def hm_LX_known_L22 (G : hg_E) (S : hg_S) (o : Nat) (x1 : Option Nat) (x2 : Int32) (x3 : Option Nat) (x4 : Int32) : Option ((Int32) ⊕ ((Int32) ⊕ (Unit))) :=
  (dc_it (hm_LX_known_s22 G S o x1 x2 x3) x4).bind (fun (z : Int32) => hm_LX_known_L72 G S o x1 x2 x3 z)
noncomputable def hm_LX_known_b2 (G : hg_E) (S : hg_S) (o : Nat) (x1 : Option Nat) (x2 : Int32) : Option ((Int32) ⊕ ((Int32) ⊕ (Unit))) :=
  if x2 < 33 then ((dc_ix x2 33).bind fun j24 => (hg_tk G (some (G.2.1 j24))).bind fun j25 => dc_let ((some (G.2.2.2 (10 + j25))) : Option Nat) fun v29 => hm_LX_known_L22 G S o x1 x2 v29 0) else (some (.inr (.inr ())))
noncomputable def hm_LX_known_s2 (G : hg_E) (S : hg_S) (o : Nat) (x1 : Option Nat) (q : Int32) : Option ((Int32) ⊕ ((Int32) ⊕ (Unit))) :=
  hm_LX_known_b2 G S o x1 q
noncomputable def hm_LX_known_L2 (G : hg_E) (S : hg_S) (o : Nat) (x1 : Option Nat) (x2 : Int32) : Option (Option Nat) :=
  (dc_it (hm_LX_known_s2 G S o x1) x2).bind (Sum.elim (fun (z : Int32) => hm_LX_known_L95 G S o z) (fun (z : Unit) => hm_LX_known_L107 G S o x1))
noncomputable def hm_LX_known (G : hg_E) (S : hg_S) (o : Nat) (p1 : Option Nat) : Option (Option Nat) :=
  hm_LX_known_L2 G S o p1 0
set_option maxHeartbeats 4000000 in
set_option maxRecDepth 100000 in
/-- SignalEngine$Lexer.known(LSignalEngine$Token;)LSignalEngine$Token; -/
theorem hm_LX_known_ok (l : Launch) (D : va_G) (G : hg_E) (Z : hg_S) (o : Nat) (p1 : Option Nat) (q : Option Nat) (hq : hm_LX_known G Z o p1 = some q) : hg_C l ⟨"SignalEngine$Lexer", "known", "(LSignalEngine$Token;)LSignalEngine$Token;"⟩ prog_5_method_10_code 5 (some (.object "SignalEngine$Token")) 4 85 D G [.ref o, va_rf p1] Z (.inl (some (va_rf q), Z) : hg_O) := by
  refine hg_start (cv := fun q => (.inl (some (va_rf q), Z) : hg_O)) hq ?_
  intro F hF h
  refine hg_enter (lv := [(0, va_rf (some o)), (1, va_rf p1)]) (by decide +kernel) (by simp [lg_sl, va_rf_cat, hg_cti, hg_ctr]) (by simp [lv_args, va_rf_cat, va_rf_some, hg_cti, hg_ctr]) ?_
  intro X hC hR
  have lab_107 : ∀ (x1 : Option Nat), dc_wp (hm_LX_known_L107 G Z o x1) F → hg_G X l (hg_rm 4 85 Z) D 5 Z 107 [(0, va_rf (some o)), (1, va_rf x1)] [] := by
    intro x1 h
    delta hm_LX_known_L107 at h
    refine hg_aloadn (pc := 107) (j := 1) (i := 1) (r := x1) hC 1 rfl rfl (show decode prog_5_method_10_code 107 = .ok (.aload_n 1, 1) by decide +kernel) ?_
    exact hg_aret (pc := 108) (r := x1) hC hR (by first | exact Or.inl ⟨_, rfl⟩ | exact Or.inr ⟨_, rfl⟩) (hF _ (dc_some h)) (show decode prog_5_method_10_code 108 = .ok (.areturn, 1) by decide +kernel)
  have lab_95 : ∀ (x2 : Int32), dc_wp (hm_LX_known_L95 G Z o x2) F → hg_G X l (hg_rm 4 85 Z) D 5 Z 95 [(0, va_rf (some o)), (2, .int x2)] [] := by
    intro x2 h
    delta hm_LX_known_L95 at h
    refine hg_gsv (pc := 95) hC he_tokens w_420 (show decode prog_5_method_10_code 95 = .ok (.getstatic 70, 3) by decide +kernel) ?_
    refine hg_iloadn (pc := 98) (j := 2) (i := 2) hC 1 rfl rfl (show decode prog_5_method_10_code 98 = .ok (.iload_n 2, 1) by decide +kernel) ?_
    refine hg_tka (pc := 99) hC (show decode prog_5_method_10_code 99 = .ok (.aaload, 1) by decide +kernel) h ?_
    intro j1 h
    exact hg_aret (pc := 100) (r := (some (G.2.1 j1))) hC hR (by first | exact Or.inl ⟨_, rfl⟩ | exact Or.inr ⟨_, rfl⟩) (hF _ (dc_some h)) (show decode prog_5_method_10_code 100 = .ok (.areturn, 1) by decide +kernel)
  have loop_2 : ∀ (x1 : Option Nat) (q : Int32), dc_wp (dc_it (hm_LX_known_s2 G Z o x1) q) (fun z => dc_wp ((Sum.elim (fun (z : Int32) => hm_LX_known_L95 G Z o z) (fun (z : Unit) => hm_LX_known_L107 G Z o x1)) z) F) → hg_G X l (hg_rm 4 85 Z) D 5 Z 2 [(0, va_rf (some o)), (1, va_rf x1), (2, .int q)] [] := by
    intro x1
    refine dc_loopF ?_
    intro F_2 hl_2 hr_2
    have lab_101 : ∀ (x2 : Int32), dc_wp (hm_LX_known_L101 G Z o x1 x2) F_2 → hg_G X l (hg_rm 4 85 Z) D 5 Z 101 [(0, va_rf (some o)), (1, va_rf x1), (2, .int x2)] [] := by
      intro x2 h
      delta hm_LX_known_L101 at h
      refine hg_iinc (pc := 101) (i := 2) (v := (x2 + 1)) (lv' := [(2, .int (x2 + 1)), (0, va_rf (some o)), (1, va_rf x1)]) hC 2 rfl rfl (Nat.le_of_ble_eq_true rfl) (by simp [va_rf_cat, hg_cti]) (show decode prog_5_method_10_code 101 = .ok (.iinc 2 1, 3) by decide +kernel) ?_
      refine hg_goto (pc := 104) (tgt := 2) hC (show decode prog_5_method_10_code 104 = .ok (.goto (-102), 3) by decide +kernel) (by decide +kernel) ?_
      exact hg_sub [1, 2, 0] rfl (hl_2 (x2 + 1) (dc_some h))
    have lab_72 : ∀ (x2 : Int32) (x3 : Option Nat) (x4 : Int32), dc_wp (hm_LX_known_L72 G Z o x1 x2 x3 x4) F_2 → hg_G X l (hg_rm 4 85 Z) D 5 Z 72 [(0, va_rf (some o)), (1, va_rf x1), (2, .int x2), (3, va_rf x3), (4, .int x4)] [] := by
      intro x2 x3 x4 h
      delta hm_LX_known_L72 at h
      refine hg_iload (pc := 72) (i := 4) hC 4 rfl (show decode prog_5_method_10_code 72 = .ok (.iload 4, 2) by decide +kernel) ?_
      refine hg_aloadn (pc := 74) (j := 3) (i := 3) (r := x3) hC 3 rfl rfl (show decode prog_5_method_10_code 74 = .ok (.aload_n 3, 1) by decide +kernel) ?_
      obtain ⟨j2, hj3, h⟩ := dc_bind h
      obtain ⟨hj4, hj5⟩ := hg_sk_of hj3
      refine hg_kEi (pc := 75) (b := (G.2.2.2 (10 + j2))) (r := x3) (As := []) (rest := [.int x4]) (vo := fun q => q) (so := fun q => Z) hC cw_SignalEngine_Lexer_77 (fun q hq => hm_ST_length_ok l D G Z (G.2.2.2 (10 + j2)) q hq) (Nat.le_of_ble_eq_true rfl) (Nat.le_of_ble_eq_true rfl) hj5 (he_str hj4) rfl (Nat.le_of_ble_eq_true rfl) (show decode prog_5_method_10_code 75 = .ok (.invokevirtual 77, 3) by decide +kernel) h ?_
      intro q6 h
      refine hg_icmp_ne (pc := 78) (tgt := 101) hC (show decode prog_5_method_10_code 78 = .ok (.if_icmp .ne 23, 3) by decide +kernel) (by decide +kernel) h ?_ ?_
      · intro h
        refine hg_aloadn (pc := 81) (j := 0) (i := 0) (r := (some o)) hC 0 rfl rfl (show decode prog_5_method_10_code 81 = .ok (.aload_n 0, 1) by decide +kernel) ?_
        refine hg_rgi (pc := 82) (r := (some o)) hC fl_SignalEngine_Lexer_49 (show decode prog_5_method_10_code 82 = .ok (.getfield 49, 3) by decide +kernel) h ?_
        intro e7 h
        refine hg_iload (pc := 85) (i := 4) hC 4 rfl (show decode prog_5_method_10_code 85 = .ok (.iload 4, 2) by decide +kernel) ?_
        refine hg_iadd (pc := 87) hC (show decode prog_5_method_10_code 87 = .ok (.iadd, 1) by decide +kernel) ?_
        refine hg_aloadn (pc := 88) (j := 0) (i := 0) (r := (some o)) hC 0 rfl rfl (show decode prog_5_method_10_code 88 = .ok (.aload_n 0, 1) by decide +kernel) ?_
        refine hg_rgi (pc := 89) (r := (some o)) hC fl_SignalEngine_Lexer_46 (show decode prog_5_method_10_code 89 = .ok (.getfield 46, 3) by decide +kernel) h ?_
        intro e8 h
        refine hg_icmp_ne (pc := 92) (tgt := 101) hC (show decode prog_5_method_10_code 92 = .ok (.if_icmp .ne 9, 3) by decide +kernel) (by decide +kernel) h ?_ ?_
        · intro h
          have h : dc_wp (hm_LX_known_L95 G Z o x2) F := hr_2 (.inl x2) (dc_some h)
          exact hg_sub [0, 2] rfl (lab_95 x2 h)
        · intro h
          exact hg_sub [0, 1, 2] rfl (lab_101 x2 h)
      · intro h
        exact hg_sub [0, 1, 2] rfl (lab_101 x2 h)
    have loop_22 : ∀ (x2 : Int32) (x3 : Option Nat) (q : Int32), dc_wp (dc_it (hm_LX_known_s22 G Z o x1 x2 x3) q) (fun z => dc_wp ((fun (z : Int32) => hm_LX_known_L72 G Z o x1 x2 x3 z) z) F_2) → hg_G X l (hg_rm 4 85 Z) D 5 Z 22 [(0, va_rf (some o)), (1, va_rf x1), (2, .int x2), (3, va_rf x3), (4, .int q)] [] := by
      intro x2 x3
      refine dc_loopF ?_
      intro F_22 hl_22 hr_22
      rintro x4 h
      have h : dc_wp (hm_LX_known_b22 G Z o x1 x2 x3 x4) F_22 := h
      delta hm_LX_known_b22 at h
      refine hg_iload (pc := 22) (i := 4) hC 4 rfl (show decode prog_5_method_10_code 22 = .ok (.iload 4, 2) by decide +kernel) ?_
      refine hg_aloadn (pc := 24) (j := 3) (i := 3) (r := x3) hC 3 rfl rfl (show decode prog_5_method_10_code 24 = .ok (.aload_n 3, 1) by decide +kernel) ?_
      obtain ⟨j9, hj10, h⟩ := dc_bind h
      obtain ⟨hj11, hj12⟩ := hg_sk_of hj10
      refine hg_kEi (pc := 25) (b := (G.2.2.2 (10 + j9))) (r := x3) (As := []) (rest := [.int x4]) (vo := fun q => q) (so := fun q => Z) hC cw_SignalEngine_Lexer_77 (fun q hq => hm_ST_length_ok l D G Z (G.2.2.2 (10 + j9)) q hq) (Nat.le_of_ble_eq_true rfl) (Nat.le_of_ble_eq_true rfl) hj12 (he_str hj11) rfl (Nat.le_of_ble_eq_true rfl) (show decode prog_5_method_10_code 25 = .ok (.invokevirtual 77, 3) by decide +kernel) h ?_
      intro q13 h
      refine hg_icmp_ge (pc := 28) (tgt := 72) hC (show decode prog_5_method_10_code 28 = .ok (.if_icmp .ge 44, 3) by decide +kernel) (by decide +kernel) h ?_ ?_
      · intro h
        refine hg_aloadn (pc := 31) (j := 0) (i := 0) (r := (some o)) hC 0 rfl rfl (show decode prog_5_method_10_code 31 = .ok (.aload_n 0, 1) by decide +kernel) ?_
        refine hg_rgi (pc := 32) (r := (some o)) hC fl_SignalEngine_Lexer_49 (show decode prog_5_method_10_code 32 = .ok (.getfield 49, 3) by decide +kernel) h ?_
        intro e14 h
        refine hg_iload (pc := 35) (i := 4) hC 4 rfl (show decode prog_5_method_10_code 35 = .ok (.iload 4, 2) by decide +kernel) ?_
        refine hg_iadd (pc := 37) hC (show decode prog_5_method_10_code 37 = .ok (.iadd, 1) by decide +kernel) ?_
        refine hg_aloadn (pc := 38) (j := 0) (i := 0) (r := (some o)) hC 0 rfl rfl (show decode prog_5_method_10_code 38 = .ok (.aload_n 0, 1) by decide +kernel) ?_
        refine hg_rgi (pc := 39) (r := (some o)) hC fl_SignalEngine_Lexer_46 (show decode prog_5_method_10_code 39 = .ok (.getfield 46, 3) by decide +kernel) h ?_
        intro e15 h
        refine hg_icmp_ge (pc := 42) (tgt := 72) hC (show decode prog_5_method_10_code 42 = .ok (.if_icmp .ge 30, 3) by decide +kernel) (by decide +kernel) h ?_ ?_
        · intro h
          refine hg_aloadn (pc := 45) (j := 3) (i := 3) (r := x3) hC 3 rfl rfl (show decode prog_5_method_10_code 45 = .ok (.aload_n 3, 1) by decide +kernel) ?_
          refine hg_iload (pc := 46) (i := 4) hC 4 rfl (show decode prog_5_method_10_code 46 = .ok (.iload 4, 2) by decide +kernel) ?_
          obtain ⟨j16, hj17, h⟩ := dc_bind h
          obtain ⟨hj18, hj19⟩ := hg_sk_of hj17
          refine hg_kEi (pc := 48) (b := (G.2.2.2 (10 + j16))) (r := x3) (As := [.int x4]) (rest := []) (vo := fun q => q) (so := fun q => Z) hC cw_SignalEngine_Lexer_83 (fun q hq => hm_ST_charAt_ok l D G Z (G.2.2.2 (10 + j16)) x4 q hq) (Nat.le_of_ble_eq_true rfl) (Nat.le_of_ble_eq_true rfl) hj19 (he_str hj18) rfl (Nat.le_of_ble_eq_true rfl) (show decode prog_5_method_10_code 48 = .ok (.invokevirtual 83, 3) by decide +kernel) h ?_
          intro q20 h
          refine hg_aloadn (pc := 51) (j := 0) (i := 0) (r := (some o)) hC 0 rfl rfl (show decode prog_5_method_10_code 51 = .ok (.aload_n 0, 1) by decide +kernel) ?_
          refine hg_rgr (pc := 52) (r := (some o)) hC fl_SignalEngine_Lexer_22 (show decode prog_5_method_10_code 52 = .ok (.getfield 22, 3) by decide +kernel) h ?_
          intro e21 h
          refine hg_aloadn (pc := 55) (j := 0) (i := 0) (r := (some o)) hC 0 rfl rfl (show decode prog_5_method_10_code 55 = .ok (.aload_n 0, 1) by decide +kernel) ?_
          refine hg_rgi (pc := 56) (r := (some o)) hC fl_SignalEngine_Lexer_49 (show decode prog_5_method_10_code 56 = .ok (.getfield 49, 3) by decide +kernel) h ?_
          intro e22 h
          refine hg_iload (pc := 59) (i := 4) hC 4 rfl (show decode prog_5_method_10_code 59 = .ok (.iload 4, 2) by decide +kernel) ?_
          refine hg_iadd (pc := 61) hC (show decode prog_5_method_10_code 61 = .ok (.iadd, 1) by decide +kernel) ?_
          refine hg_rbald (pc := 62) (r := e21) hC (show decode prog_5_method_10_code 62 = .ok (.baload, 1) by decide +kernel) h ?_
          intro e23 h
          refine hg_icmp_ne (pc := 63) (tgt := 72) hC (show decode prog_5_method_10_code 63 = .ok (.if_icmp .ne 9, 3) by decide +kernel) (by decide +kernel) h ?_ ?_
          · intro h
            refine hg_iinc (pc := 66) (i := 4) (v := (x4 + 1)) (lv' := [(4, .int (x4 + 1)), (0, va_rf (some o)), (1, va_rf x1), (2, .int x2), (3, va_rf x3)]) hC 4 rfl rfl (Nat.le_of_ble_eq_true rfl) (by simp [va_rf_cat, hg_cti]) (show decode prog_5_method_10_code 66 = .ok (.iinc 4 1, 3) by decide +kernel) ?_
            refine hg_goto (pc := 69) (tgt := 22) hC (show decode prog_5_method_10_code 69 = .ok (.goto (-47), 3) by decide +kernel) (by decide +kernel) ?_
            exact hg_sub [1, 2, 3, 4, 0] rfl (hl_22 (x4 + 1) (dc_some h))
          · intro h
            have h : dc_wp (hm_LX_known_L72 G Z o x1 x2 x3 x4) F_2 := hr_22 x4 (dc_some h)
            exact lab_72 x2 x3 x4 h
        · intro h
          have h : dc_wp (hm_LX_known_L72 G Z o x1 x2 x3 x4) F_2 := hr_22 x4 (dc_some h)
          exact lab_72 x2 x3 x4 h
      · intro h
        have h : dc_wp (hm_LX_known_L72 G Z o x1 x2 x3 x4) F_2 := hr_22 x4 (dc_some h)
        exact lab_72 x2 x3 x4 h
    have lab_22 : ∀ (x2 : Int32) (x3 : Option Nat) (x4 : Int32), dc_wp (hm_LX_known_L22 G Z o x1 x2 x3 x4) F_2 → hg_G X l (hg_rm 4 85 Z) D 5 Z 22 [(0, va_rf (some o)), (1, va_rf x1), (2, .int x2), (3, va_rf x3), (4, .int x4)] [] := fun x2 x3 x4 h => loop_22 x2 x3 x4 (dc_bind h)
    rintro x2 h
    have h : dc_wp (hm_LX_known_b2 G Z o x1 x2) F_2 := h
    delta hm_LX_known_b2 at h
    refine hg_iloadn (pc := 2) (j := 2) (i := 2) hC 2 rfl rfl (show decode prog_5_method_10_code 2 = .ok (.iload_n 2, 1) by decide +kernel) ?_
    refine hg_gsv (pc := 3) hC he_tokens w_420 (show decode prog_5_method_10_code 3 = .ok (.getstatic 70, 3) by decide +kernel) ?_
    refine hg_tkl (pc := 6) hC (show decode prog_5_method_10_code 6 = .ok (.arraylength, 1) by decide +kernel) ?_
    refine hg_icmp_ge (pc := 7) (tgt := 107) hC (show decode prog_5_method_10_code 7 = .ok (.if_icmp .ge 100, 3) by decide +kernel) (by decide +kernel) h ?_ ?_
    · intro h
      refine hg_gsv (pc := 10) hC he_tokens w_420 (show decode prog_5_method_10_code 10 = .ok (.getstatic 70, 3) by decide +kernel) ?_
      refine hg_iloadn (pc := 13) (j := 2) (i := 2) hC 2 rfl rfl (show decode prog_5_method_10_code 13 = .ok (.iload_n 2, 1) by decide +kernel) ?_
      refine hg_tka (pc := 14) hC (show decode prog_5_method_10_code 14 = .ok (.aaload, 1) by decide +kernel) h ?_
      intro j24 h
      obtain ⟨j25, hj26, h⟩ := dc_bind h
      obtain ⟨hj27, hj28⟩ := hg_tk_of hj26
      refine hg_top hj28 ?_
      refine hg_of (pc := 15) hC (he_text hj27) (Or.inr ⟨_, wn_2368⟩) (show decode prog_5_method_10_code 15 = .ok (.getfield 74, 3) by decide +kernel) ?_
      refine hg_letR h ?_
      intro v29 h
      refine hg_astoren (pc := 18) (j := 3) (i := 3) (r := v29) (lv' := [(3, va_rf v29), (0, va_rf (some o)), (1, va_rf x1), (2, .int x2)]) hC rfl (Nat.le_of_ble_eq_true rfl) rfl (show decode prog_5_method_10_code 18 = .ok (.astore_n 3, 1) by decide +kernel) ?_
      refine hg_iconst (pc := 19) (v := 0) hC (show decode prog_5_method_10_code 19 = .ok (.iconst 0, 1) by decide +kernel) (by decide +kernel) ?_
      refine hg_istore (pc := 20) (i := 4) (lv' := [(4, .int 0), (3, va_rf v29), (0, va_rf (some o)), (1, va_rf x1), (2, .int x2)]) hC (Nat.le_of_ble_eq_true rfl) (by simp [va_rf_cat, hg_cti]) (show decode prog_5_method_10_code 20 = .ok (.istore 4, 2) by decide +kernel) ?_
      exact hg_sub [2, 3, 4, 1, 0] rfl (lab_22 x2 v29 0 h)
    · intro h
      have h : dc_wp (hm_LX_known_L107 G Z o x1) F := hr_2 (.inr ()) (dc_some h)
      exact hg_sub [0, 1] rfl (lab_107 x1 h)
  have lab_2 : ∀ (x1 : Option Nat) (x2 : Int32), dc_wp (hm_LX_known_L2 G Z o x1 x2) F → hg_G X l (hg_rm 4 85 Z) D 5 Z 2 [(0, va_rf (some o)), (1, va_rf x1), (2, .int x2)] [] := fun x1 x2 h => loop_2 x1 x2 (dc_bind h)
  show hg_G X l (hg_rm 4 85 Z) D 5 Z 0 [(0, va_rf (some o)), (1, va_rf p1)] []
  have h : dc_wp (hm_LX_known G Z o p1) F := h
  delta hm_LX_known at h
  refine hg_iconst (pc := 0) (v := 0) hC (show decode prog_5_method_10_code 0 = .ok (.iconst 0, 1) by decide +kernel) (by decide +kernel) ?_
  refine hg_istoren (pc := 1) (j := 2) (i := 2) (lv' := [(2, .int 0), (0, va_rf (some o)), (1, va_rf p1)]) hC rfl (Nat.le_of_ble_eq_true rfl) (by simp [va_rf_cat, hg_cti]) (show decode prog_5_method_10_code 1 = .ok (.istore_n 2, 1) by decide +kernel) ?_
  exact hg_sub [1, 2, 0] rfl (lab_2 p1 0 h)
noncomputable def hm_LX_advance_L157 (G : hg_E) (S : hg_S) (o : Nat) : Option ((hg_S) ⊕ hg_X) :=
  some (.inl S)
noncomputable def hm_LX_advance_L136 (G : hg_E) (S : hg_S) (o : Nat) (y0 : Option Nat) : Option ((hg_S) ⊕ hg_X) :=
  (hg_chk S (some o) 2).bind fun b1 => (hm_LX_known G S b1 y0).bind fun q4 => (hg_pf S (some o) 2 1 (va_rf q4)).bind fun S5 => (hg_gr S5 (some o) 2 1).bind fun e6 => if e6 = (some (G.2.1 32)) then ((hg_chk S5 (some o) 2).bind fun b7 => (hm_LX_refuse G S5 b7 (1 : Int32)).bind (Sum.elim (fun q10 => hm_LX_advance_L157 G q10 o) (fun z => some (Sum.inr z)))) else (hm_LX_advance_L157 G S5 o)
noncomputable def hm_LX_advance_L133 (G : hg_E) (S : hg_S) (o : Nat) : Option ((hg_S) ⊕ hg_X) :=
  hm_LX_advance_L136 G S o (some (G.2.1 32))
noncomputable def hm_LX_advance_L114 (G : hg_E) (S : hg_S) (o : Nat) (x1 : Int32) : Option ((hg_S) ⊕ hg_X) :=
  if x1 = 0 then (hm_LX_advance_L133 G S o) else ((hg_chk S (some o) 2).bind fun b11 => (hm_LX_isName G S b11).bind fun q14 => if q14 = 0 then (hm_LX_advance_L133 G S o) else (hm_LX_advance_L136 G S o (some (G.2.1 31))))
noncomputable def hm_LX_advance_L110 (G : hg_E) (S : hg_S) (o : Nat) (x1 : Int32) (y0 : Int32) (y1 : Int32) : Option ((hg_S) ⊕ hg_X) :=
  (hg_pf S (some o) 2 3 (.int (y1 + y0))).bind fun S15 => hm_LX_advance_L114 G S15 o x1
noncomputable def hm_LX_advance_L88 (G : hg_E) (S : hg_S) (o : Nat) (y0 : Int32) : Option ((hg_S) ⊕ hg_X) :=
  if y0 = 0 then ((hg_gi S (some o) 2 3).bind fun e16 => (hg_chk S (some o) 2).bind fun b17 => (hm_LX_startsBars G S b17).bind fun q20 => if q20 = 0 then (hm_LX_advance_L110 G S o y0 1 e16) else (hm_LX_advance_L110 G S o y0 2 e16)) else (hm_LX_advance_L114 G S o y0)
noncomputable def hm_LX_advance_L72 (G : hg_E) (S : hg_S) (o : Nat) : Option ((hg_S) ⊕ hg_X) :=
  (hg_gi S (some o) 2 3).bind fun e21 => (hg_gi S (some o) 2 2).bind fun e22 => if e22 < e21 then (hm_LX_advance_L88 G S o 1) else (hm_LX_advance_L88 G S o 0)
noncomputable def hm_LX_advance_b32 (G : hg_E) (S : hg_S) (o : Nat) : Option ((hg_S) ⊕ ((hg_S))) :=
  (hg_gi S (some o) 2 3).bind fun e23 => (hg_gr S (some o) 2 0).bind fun e24 => (hg_ln S e24 (G.1 1)).bind fun e25 => if e23 < e25 then ((hg_gr S (some o) 2 0).bind fun e26 => (hg_gi S (some o) 2 3).bind fun e27 => (hg_ld S e26 (G.1 1) e27).bind fun e28 => (hm_LX_isInWord G S e28).bind fun q29 => if q29 = 0 then (some (.inr S)) else ((hg_gi S (some o) 2 3).bind fun e30 => (hg_pf S (some o) 2 3 (.int (e30 + 1))).bind fun S31 => some (.inl S31))) else (some (.inr S))
noncomputable def hm_LX_advance_s32 (G : hg_E) (o : Nat) (q : hg_S) : Option ((hg_S) ⊕ ((hg_S))) :=
  hm_LX_advance_b32 G q o
noncomputable def hm_LX_advance_L32 (G : hg_E) (S : hg_S) (o : Nat) : Option ((hg_S) ⊕ hg_X) :=
  (dc_it (hm_LX_advance_s32 G o) S).bind (fun (z : hg_S) => hm_LX_advance_L72 G z o)
noncomputable def hm_LX_advance (G : hg_E) (S : hg_S) (o : Nat) : Option ((hg_S) ⊕ hg_X) :=
  (hg_chk S (some o) 2).bind fun b32 => (hm_LX_skipGaps G S b32).bind fun q35 => (hg_gi q35 (some o) 2 3).bind fun e36 => (hg_pf q35 (some o) 2 2 (.int e36)).bind fun S37 => (hg_gi S37 (some o) 2 2).bind fun e38 => (hg_gr S37 (some o) 2 0).bind fun e39 => (hg_ln S37 e39 (G.1 1)).bind fun e40 => if e38 < e40 then (hm_LX_advance_L32 G S37 o) else ((hg_pf S37 (some o) 2 1 (va_rf (some (G.2.1 32)))).bind fun S41 => some (.inl S41))
set_option maxHeartbeats 4000000 in
set_option maxRecDepth 100000 in
/-- SignalEngine$Lexer.advance()V -/
theorem hm_LX_advance_ok (l : Launch) (hlt : l.stackTraces = false) (D : va_G) (G : hg_E) (Z : hg_S) (o : Nat) (q : (hg_S) ⊕ hg_X) (hq : hm_LX_advance G Z o = some q) : hg_C l ⟨"SignalEngine$Lexer", "advance", "()V"⟩ prog_5_method_5_code 2 none 7 121 D G [.ref o] Z (Sum.elim (fun q => (.inl (none, q) : hg_O)) hg_ox q) := by
  refine hg_start (cv := fun q => (Sum.elim (fun q => (.inl (none, q) : hg_O)) hg_ox q)) hq ?_
  intro F hF h
  refine hg_enter (lv := [(0, va_rf (some o))]) (by decide +kernel) (by simp [lg_sl, va_rf_cat, hg_cti, hg_ctr]) (by simp [lv_args, va_rf_cat, va_rf_some, hg_cti, hg_ctr]) ?_
  intro X hC hR
  have lab_157 : ∀ (S : hg_S), dc_wp (hm_LX_advance_L157 G S o) F → hg_G X l (hg_rm 7 121 Z) D 2 S 157 [(0, va_rf (some o))] [] := by
    intro S  h
    delta hm_LX_advance_L157 at h
    exact hg_vret (pc := 157) hC hR (hF _ (dc_some h)) (show decode prog_5_method_5_code 157 = .ok (.return_, 1) by decide +kernel)
  have lab_136 : ∀ (S : hg_S) (y0 : Option Nat), dc_wp (hm_LX_advance_L136 G S o y0) F → hg_G X l (hg_rm 7 121 Z) D 2 S 136 [(0, va_rf (some o))] [va_rf y0, va_rf (some o), va_rf (some o)] := by
    intro S y0 h
    delta hm_LX_advance_L136 at h
    obtain ⟨b1, hb2, h⟩ := dc_bind h
    obtain ⟨hb2, hv3⟩ := hg_chk_of (C := R_LX) rfl hb2
    refine hg_kVr (pc := 136) (b := b1) (r := (some o)) (As := [va_rf y0]) (rest := [va_rf (some o)]) (vo := fun q => q) (so := fun q => S) hC cw_SignalEngine_Lexer_66 (fun q hq => hm_LX_known_ok l D G S b1 y0 q hq) (Nat.le_of_ble_eq_true rfl) (Nat.le_of_ble_eq_true rfl) hb2 hv3 rfl (Nat.le_of_ble_eq_true rfl) (show decode prog_5_method_5_code 136 = .ok (.invokevirtual 66, 3) by decide +kernel) h ?_
    intro q4 h
    refine hg_rput (pc := 139) (r := (some o)) (v := va_rf q4) hC fp_SignalEngine_Lexer_13 (hg_nr _).1 (hg_nr _).2 (show decode prog_5_method_5_code 139 = .ok (.putfield 13, 3) by decide +kernel) h ?_
    intro S5 h
    refine hg_aloadn (pc := 142) (j := 0) (i := 0) (r := (some o)) hC 0 rfl rfl (show decode prog_5_method_5_code 142 = .ok (.aload_n 0, 1) by decide +kernel) ?_
    refine hg_rgr (pc := 143) (r := (some o)) hC fl_SignalEngine_Lexer_13 (show decode prog_5_method_5_code 143 = .ok (.getfield 13, 3) by decide +kernel) h ?_
    intro e6 h
    refine hg_tok (pc := 146) (j := 32) hC (by decide) rfl w_230 (show decode prog_5_method_5_code 146 = .ok (.getstatic 7, 3) by decide +kernel) ?_
    refine hg_acmp_ne (pc := 149) (tgt := 157) (x := e6) (y := (some (G.2.1 32))) hC (show decode prog_5_method_5_code 149 = .ok (.if_acmp .ne 8, 3) by decide +kernel) (by decide +kernel) h ?_ ?_
    · intro h
      refine hg_aloadn (pc := 152) (j := 0) (i := 0) (r := (some o)) hC 0 rfl rfl (show decode prog_5_method_5_code 152 = .ok (.aload_n 0, 1) by decide +kernel) ?_
      refine hg_iconst (pc := 153) (v := 1) hC (show decode prog_5_method_5_code 153 = .ok (.iconst 1, 1) by decide +kernel) (by decide +kernel) ?_
      obtain ⟨b7, hb8, h⟩ := dc_bind h
      obtain ⟨hb8, hv9⟩ := hg_chk_of (C := R_LX) rfl hb8
      refine hg_kVTv (pc := 154) (b := b7) (r := (some o)) (As := [.int 1]) (rest := []) (so := fun q => q) hC hR cw_SignalEngine_Lexer_32 (fun q hq => hm_LX_refuse_ok l hlt D G S5 b7 (1 : Int32) q hq) (Nat.le_of_ble_eq_true rfl) (Nat.le_of_ble_eq_true rfl) hb8 hv9 rfl (Nat.le_of_ble_eq_true rfl) (show decode prog_5_method_5_code 154 = .ok (.invokevirtual 32, 3) by decide +kernel) h (fun z h => hF (.inr z) (dc_some h)) ?_
      intro q10 h
      exact lab_157 q10 h
    · intro h
      exact lab_157 S5 h
  have lab_133 : ∀ (S : hg_S), dc_wp (hm_LX_advance_L133 G S o) F → hg_G X l (hg_rm 7 121 Z) D 2 S 133 [(0, va_rf (some o))] [va_rf (some o), va_rf (some o)] := by
    intro S  h
    delta hm_LX_advance_L133 at h
    refine hg_tok (pc := 133) (j := 32) hC (by decide) rfl w_230 (show decode prog_5_method_5_code 133 = .ok (.getstatic 7, 3) by decide +kernel) ?_
    exact lab_136 S (some (G.2.1 32)) h
  have lab_114 : ∀ (S : hg_S) (x1 : Int32), dc_wp (hm_LX_advance_L114 G S o x1) F → hg_G X l (hg_rm 7 121 Z) D 2 S 114 [(0, va_rf (some o)), (1, .int x1)] [] := by
    intro S x1 h
    delta hm_LX_advance_L114 at h
    refine hg_aloadn (pc := 114) (j := 0) (i := 0) (r := (some o)) hC 0 rfl rfl (show decode prog_5_method_5_code 114 = .ok (.aload_n 0, 1) by decide +kernel) ?_
    refine hg_aloadn (pc := 115) (j := 0) (i := 0) (r := (some o)) hC 0 rfl rfl (show decode prog_5_method_5_code 115 = .ok (.aload_n 0, 1) by decide +kernel) ?_
    refine hg_iloadn (pc := 116) (j := 1) (i := 1) hC 1 rfl rfl (show decode prog_5_method_5_code 116 = .ok (.iload_n 1, 1) by decide +kernel) ?_
    refine hg_if_eq (pc := 117) (tgt := 133) hC (show decode prog_5_method_5_code 117 = .ok (.ifCond .eq 16, 3) by decide +kernel) (by decide +kernel) h ?_ ?_
    · intro h
      exact hg_sub [0] rfl (lab_133 S h)
    · intro h
      refine hg_aloadn (pc := 120) (j := 0) (i := 0) (r := (some o)) hC 0 rfl rfl (show decode prog_5_method_5_code 120 = .ok (.aload_n 0, 1) by decide +kernel) ?_
      obtain ⟨b11, hb12, h⟩ := dc_bind h
      obtain ⟨hb12, hv13⟩ := hg_chk_of (C := R_LX) rfl hb12
      refine hg_kVi (pc := 121) (b := b11) (r := (some o)) (As := []) (rest := [va_rf (some o), va_rf (some o)]) (vo := fun q => q) (so := fun q => S) hC cw_SignalEngine_Lexer_60 (fun q hq => hm_LX_isName_ok l D G S b11 q hq) (Nat.le_of_ble_eq_true rfl) (Nat.le_of_ble_eq_true rfl) hb12 hv13 rfl (Nat.le_of_ble_eq_true rfl) (show decode prog_5_method_5_code 121 = .ok (.invokevirtual 60, 3) by decide +kernel) h ?_
      intro q14 h
      refine hg_if_eq (pc := 124) (tgt := 133) hC (show decode prog_5_method_5_code 124 = .ok (.ifCond .eq 9, 3) by decide +kernel) (by decide +kernel) h ?_ ?_
      · intro h
        exact hg_sub [0] rfl (lab_133 S h)
      · intro h
        refine hg_tok (pc := 127) (j := 31) hC (by decide) rfl w_414 (show decode prog_5_method_5_code 127 = .ok (.getstatic 63, 3) by decide +kernel) ?_
        refine hg_goto (pc := 130) (tgt := 136) hC (show decode prog_5_method_5_code 130 = .ok (.goto 6, 3) by decide +kernel) (by decide +kernel) ?_
        exact hg_sub [0] rfl (lab_136 S (some (G.2.1 31)) h)
  have lab_110 : ∀ (S : hg_S) (x1 : Int32) (y0 : Int32) (y1 : Int32), dc_wp (hm_LX_advance_L110 G S o x1 y0 y1) F → hg_G X l (hg_rm 7 121 Z) D 2 S 110 [(0, va_rf (some o)), (1, .int x1)] [.int y0, .int y1, va_rf (some o)] := by
    intro S x1 y0 y1 h
    delta hm_LX_advance_L110 at h
    refine hg_iadd (pc := 110) hC (show decode prog_5_method_5_code 110 = .ok (.iadd, 1) by decide +kernel) ?_
    refine hg_rput (pc := 111) (r := (some o)) (v := .int (y1 + y0)) hC fp_SignalEngine_Lexer_46 rfl rfl (show decode prog_5_method_5_code 111 = .ok (.putfield 46, 3) by decide +kernel) h ?_
    intro S15 h
    exact lab_114 S15 x1 h
  have lab_88 : ∀ (S : hg_S) (y0 : Int32), dc_wp (hm_LX_advance_L88 G S o y0) F → hg_G X l (hg_rm 7 121 Z) D 2 S 88 [(0, va_rf (some o))] [.int y0] := by
    intro S y0 h
    delta hm_LX_advance_L88 at h
    refine hg_istoren (pc := 88) (j := 1) (i := 1) (lv' := [(1, .int y0), (0, va_rf (some o))]) hC rfl (Nat.le_of_ble_eq_true rfl) rfl (show decode prog_5_method_5_code 88 = .ok (.istore_n 1, 1) by decide +kernel) ?_
    refine hg_iloadn (pc := 89) (j := 1) (i := 1) hC 0 rfl rfl (show decode prog_5_method_5_code 89 = .ok (.iload_n 1, 1) by decide +kernel) ?_
    refine hg_if_ne (pc := 90) (tgt := 114) hC (show decode prog_5_method_5_code 90 = .ok (.ifCond .ne 24, 3) by decide +kernel) (by decide +kernel) h ?_ ?_
    · intro h
      refine hg_aloadn (pc := 93) (j := 0) (i := 0) (r := (some o)) hC 1 rfl rfl (show decode prog_5_method_5_code 93 = .ok (.aload_n 0, 1) by decide +kernel) ?_
      refine hg_dup (pc := 94) hC (show decode prog_5_method_5_code 94 = .ok (.dup, 1) by decide +kernel) rfl ?_
      refine hg_rgi (pc := 95) (r := (some o)) hC fl_SignalEngine_Lexer_46 (show decode prog_5_method_5_code 95 = .ok (.getfield 46, 3) by decide +kernel) h ?_
      intro e16 h
      refine hg_aloadn (pc := 98) (j := 0) (i := 0) (r := (some o)) hC 1 rfl rfl (show decode prog_5_method_5_code 98 = .ok (.aload_n 0, 1) by decide +kernel) ?_
      obtain ⟨b17, hb18, h⟩ := dc_bind h
      obtain ⟨hb18, hv19⟩ := hg_chk_of (C := R_LX) rfl hb18
      refine hg_kVi (pc := 99) (b := b17) (r := (some o)) (As := []) (rest := [.int e16, va_rf (some o)]) (vo := fun q => q) (so := fun q => S) hC cw_SignalEngine_Lexer_56 (fun q hq => hm_LX_startsBars_ok l D G S b17 q hq) (Nat.le_of_ble_eq_true rfl) (Nat.le_of_ble_eq_true rfl) hb18 hv19 rfl (Nat.le_of_ble_eq_true rfl) (show decode prog_5_method_5_code 99 = .ok (.invokevirtual 56, 3) by decide +kernel) h ?_
      intro q20 h
      refine hg_if_eq (pc := 102) (tgt := 109) hC (show decode prog_5_method_5_code 102 = .ok (.ifCond .eq 7, 3) by decide +kernel) (by decide +kernel) h ?_ ?_
      · intro h
        refine hg_iconst (pc := 109) (v := 1) hC (show decode prog_5_method_5_code 109 = .ok (.iconst 1, 1) by decide +kernel) (by decide +kernel) ?_
        exact hg_sub [1, 0] rfl (lab_110 S y0 1 e16 h)
      · intro h
        refine hg_iconst (pc := 105) (v := 2) hC (show decode prog_5_method_5_code 105 = .ok (.iconst 2, 1) by decide +kernel) (by decide +kernel) ?_
        refine hg_goto (pc := 106) (tgt := 110) hC (show decode prog_5_method_5_code 106 = .ok (.goto 4, 3) by decide +kernel) (by decide +kernel) ?_
        exact hg_sub [1, 0] rfl (lab_110 S y0 2 e16 h)
    · intro h
      exact hg_sub [1, 0] rfl (lab_114 S y0 h)
  have lab_72 : ∀ (S : hg_S), dc_wp (hm_LX_advance_L72 G S o) F → hg_G X l (hg_rm 7 121 Z) D 2 S 72 [(0, va_rf (some o))] [] := by
    intro S  h
    delta hm_LX_advance_L72 at h
    refine hg_aloadn (pc := 72) (j := 0) (i := 0) (r := (some o)) hC 0 rfl rfl (show decode prog_5_method_5_code 72 = .ok (.aload_n 0, 1) by decide +kernel) ?_
    refine hg_rgi (pc := 73) (r := (some o)) hC fl_SignalEngine_Lexer_46 (show decode prog_5_method_5_code 73 = .ok (.getfield 46, 3) by decide +kernel) h ?_
    intro e21 h
    refine hg_aloadn (pc := 76) (j := 0) (i := 0) (r := (some o)) hC 0 rfl rfl (show decode prog_5_method_5_code 76 = .ok (.aload_n 0, 1) by decide +kernel) ?_
    refine hg_rgi (pc := 77) (r := (some o)) hC fl_SignalEngine_Lexer_49 (show decode prog_5_method_5_code 77 = .ok (.getfield 49, 3) by decide +kernel) h ?_
    intro e22 h
    refine hg_icmp_le (pc := 80) (tgt := 87) hC (show decode prog_5_method_5_code 80 = .ok (.if_icmp .le 7, 3) by decide +kernel) (by decide +kernel) h ?_ ?_
    · intro h
      refine hg_iconst (pc := 83) (v := 1) hC (show decode prog_5_method_5_code 83 = .ok (.iconst 1, 1) by decide +kernel) (by decide +kernel) ?_
      refine hg_goto (pc := 84) (tgt := 88) hC (show decode prog_5_method_5_code 84 = .ok (.goto 4, 3) by decide +kernel) (by decide +kernel) ?_
      exact lab_88 S 1 h
    · intro h
      refine hg_iconst (pc := 87) (v := 0) hC (show decode prog_5_method_5_code 87 = .ok (.iconst 0, 1) by decide +kernel) (by decide +kernel) ?_
      exact lab_88 S 0 h
  have loop_32 : ∀ (q : hg_S), dc_wp (dc_it (hm_LX_advance_s32 G o) q) (fun z => dc_wp ((fun (z : hg_S) => hm_LX_advance_L72 G z o) z) F) → hg_G X l (hg_rm 7 121 Z) D 2 q 32 [(0, va_rf (some o))] [] := by
    refine dc_loopF ?_
    intro F_32 hl_32 hr_32
    rintro S h
    have h : dc_wp (hm_LX_advance_b32 G S o) F_32 := h
    delta hm_LX_advance_b32 at h
    refine hg_aloadn (pc := 32) (j := 0) (i := 0) (r := (some o)) hC 0 rfl rfl (show decode prog_5_method_5_code 32 = .ok (.aload_n 0, 1) by decide +kernel) ?_
    refine hg_rgi (pc := 33) (r := (some o)) hC fl_SignalEngine_Lexer_46 (show decode prog_5_method_5_code 33 = .ok (.getfield 46, 3) by decide +kernel) h ?_
    intro e23 h
    refine hg_aloadn (pc := 36) (j := 0) (i := 0) (r := (some o)) hC 0 rfl rfl (show decode prog_5_method_5_code 36 = .ok (.aload_n 0, 1) by decide +kernel) ?_
    refine hg_rgr (pc := 37) (r := (some o)) hC fl_SignalEngine_Lexer_22 (show decode prog_5_method_5_code 37 = .ok (.getfield 22, 3) by decide +kernel) h ?_
    intro e24 h
    refine hg_rlen (pc := 40) (r := e24) (t := 1) hC rfl (show decode prog_5_method_5_code 40 = .ok (.arraylength, 1) by decide +kernel) h ?_
    intro e25 h
    refine hg_icmp_ge (pc := 41) (tgt := 72) hC (show decode prog_5_method_5_code 41 = .ok (.if_icmp .ge 31, 3) by decide +kernel) (by decide +kernel) h ?_ ?_
    · intro h
      refine hg_aloadn (pc := 44) (j := 0) (i := 0) (r := (some o)) hC 0 rfl rfl (show decode prog_5_method_5_code 44 = .ok (.aload_n 0, 1) by decide +kernel) ?_
      refine hg_rgr (pc := 45) (r := (some o)) hC fl_SignalEngine_Lexer_22 (show decode prog_5_method_5_code 45 = .ok (.getfield 22, 3) by decide +kernel) h ?_
      intro e26 h
      refine hg_aloadn (pc := 48) (j := 0) (i := 0) (r := (some o)) hC 0 rfl rfl (show decode prog_5_method_5_code 48 = .ok (.aload_n 0, 1) by decide +kernel) ?_
      refine hg_rgi (pc := 49) (r := (some o)) hC fl_SignalEngine_Lexer_46 (show decode prog_5_method_5_code 49 = .ok (.getfield 46, 3) by decide +kernel) h ?_
      intro e27 h
      refine hg_rbald (pc := 52) (r := e26) hC (show decode prog_5_method_5_code 52 = .ok (.baload, 1) by decide +kernel) h ?_
      intro e28 h
      refine hg_kSi (pc := 53) (As := [.int e28]) (rest := []) (vo := fun q => q) (so := fun q => S) hC cw_SignalEngine_Lexer_52 (fun q hq => hm_LX_isInWord_ok l D G S e28 q hq) (Nat.le_of_ble_eq_true rfl) (Nat.le_of_ble_eq_true rfl) rfl (Nat.le_of_ble_eq_true rfl) (show decode prog_5_method_5_code 53 = .ok (.invokestatic 52, 3) by decide +kernel) h ?_
      intro q29 h
      refine hg_if_eq (pc := 56) (tgt := 72) hC (show decode prog_5_method_5_code 56 = .ok (.ifCond .eq 16, 3) by decide +kernel) (by decide +kernel) h ?_ ?_
      · intro h
        have h : dc_wp (hm_LX_advance_L72 G S o) F := hr_32 S (dc_some h)
        exact lab_72 S h
      · intro h
        refine hg_aloadn (pc := 59) (j := 0) (i := 0) (r := (some o)) hC 0 rfl rfl (show decode prog_5_method_5_code 59 = .ok (.aload_n 0, 1) by decide +kernel) ?_
        refine hg_dup (pc := 60) hC (show decode prog_5_method_5_code 60 = .ok (.dup, 1) by decide +kernel) rfl ?_
        refine hg_rgi (pc := 61) (r := (some o)) hC fl_SignalEngine_Lexer_46 (show decode prog_5_method_5_code 61 = .ok (.getfield 46, 3) by decide +kernel) h ?_
        intro e30 h
        refine hg_iconst (pc := 64) (v := 1) hC (show decode prog_5_method_5_code 64 = .ok (.iconst 1, 1) by decide +kernel) (by decide +kernel) ?_
        refine hg_iadd (pc := 65) hC (show decode prog_5_method_5_code 65 = .ok (.iadd, 1) by decide +kernel) ?_
        refine hg_rput (pc := 66) (r := (some o)) (v := .int (e30 + 1)) hC fp_SignalEngine_Lexer_46 rfl rfl (show decode prog_5_method_5_code 66 = .ok (.putfield 46, 3) by decide +kernel) h ?_
        intro S31 h
        refine hg_goto (pc := 69) (tgt := 32) hC (show decode prog_5_method_5_code 69 = .ok (.goto (-37), 3) by decide +kernel) (by decide +kernel) ?_
        exact hl_32 S31 (dc_some h)
    · intro h
      have h : dc_wp (hm_LX_advance_L72 G S o) F := hr_32 S (dc_some h)
      exact lab_72 S h
  have lab_32 : ∀ (S : hg_S), dc_wp (hm_LX_advance_L32 G S o) F → hg_G X l (hg_rm 7 121 Z) D 2 S 32 [(0, va_rf (some o))] [] := fun S  h => loop_32  S (dc_bind h)
  show hg_G X l (hg_rm 7 121 Z) D 2 Z 0 [(0, va_rf (some o))] []
  have h : dc_wp (hm_LX_advance G Z o) F := h
  delta hm_LX_advance at h
  refine hg_aloadn (pc := 0) (j := 0) (i := 0) (r := (some o)) hC 0 rfl rfl (show decode prog_5_method_5_code 0 = .ok (.aload_n 0, 1) by decide +kernel) ?_
  obtain ⟨b32, hb33, h⟩ := dc_bind h
  obtain ⟨hb33, hv34⟩ := hg_chk_of (C := R_LX) rfl hb33
  refine hg_kVv (pc := 1) (b := b32) (r := (some o)) (As := []) (rest := []) (so := fun q => q) hC cw_SignalEngine_Lexer_43 (fun q hq => hm_LX_skipGaps_ok l D G Z b32 q hq) (Nat.le_of_ble_eq_true rfl) (Nat.le_of_ble_eq_true rfl) hb33 hv34 rfl (Nat.le_of_ble_eq_true rfl) (show decode prog_5_method_5_code 1 = .ok (.invokevirtual 43, 3) by decide +kernel) h ?_
  intro q35 h
  refine hg_aloadn (pc := 4) (j := 0) (i := 0) (r := (some o)) hC 0 rfl rfl (show decode prog_5_method_5_code 4 = .ok (.aload_n 0, 1) by decide +kernel) ?_
  refine hg_aloadn (pc := 5) (j := 0) (i := 0) (r := (some o)) hC 0 rfl rfl (show decode prog_5_method_5_code 5 = .ok (.aload_n 0, 1) by decide +kernel) ?_
  refine hg_rgi (pc := 6) (r := (some o)) hC fl_SignalEngine_Lexer_46 (show decode prog_5_method_5_code 6 = .ok (.getfield 46, 3) by decide +kernel) h ?_
  intro e36 h
  refine hg_rput (pc := 9) (r := (some o)) (v := .int e36) hC fp_SignalEngine_Lexer_49 rfl rfl (show decode prog_5_method_5_code 9 = .ok (.putfield 49, 3) by decide +kernel) h ?_
  intro S37 h
  refine hg_aloadn (pc := 12) (j := 0) (i := 0) (r := (some o)) hC 0 rfl rfl (show decode prog_5_method_5_code 12 = .ok (.aload_n 0, 1) by decide +kernel) ?_
  refine hg_rgi (pc := 13) (r := (some o)) hC fl_SignalEngine_Lexer_49 (show decode prog_5_method_5_code 13 = .ok (.getfield 49, 3) by decide +kernel) h ?_
  intro e38 h
  refine hg_aloadn (pc := 16) (j := 0) (i := 0) (r := (some o)) hC 0 rfl rfl (show decode prog_5_method_5_code 16 = .ok (.aload_n 0, 1) by decide +kernel) ?_
  refine hg_rgr (pc := 17) (r := (some o)) hC fl_SignalEngine_Lexer_22 (show decode prog_5_method_5_code 17 = .ok (.getfield 22, 3) by decide +kernel) h ?_
  intro e39 h
  refine hg_rlen (pc := 20) (r := e39) (t := 1) hC rfl (show decode prog_5_method_5_code 20 = .ok (.arraylength, 1) by decide +kernel) h ?_
  intro e40 h
  refine hg_icmp_lt (pc := 21) (tgt := 32) hC (show decode prog_5_method_5_code 21 = .ok (.if_icmp .lt 11, 3) by decide +kernel) (by decide +kernel) h ?_ ?_
  · intro h
    exact lab_32 S37 h
  · intro h
    refine hg_aloadn (pc := 24) (j := 0) (i := 0) (r := (some o)) hC 0 rfl rfl (show decode prog_5_method_5_code 24 = .ok (.aload_n 0, 1) by decide +kernel) ?_
    refine hg_tok (pc := 25) (j := 32) hC (by decide) rfl w_230 (show decode prog_5_method_5_code 25 = .ok (.getstatic 7, 3) by decide +kernel) ?_
    refine hg_rput (pc := 28) (r := (some o)) (v := va_rf (some (G.2.1 32))) hC fp_SignalEngine_Lexer_13 (hg_nr _).1 (hg_nr _).2 (show decode prog_5_method_5_code 28 = .ok (.putfield 13, 3) by decide +kernel) h ?_
    intro S41 h
    exact hg_vret (pc := 31) hC hR (hF _ (dc_some h)) (show decode prog_5_method_5_code 31 = .ok (.return_, 1) by decide +kernel)
noncomputable def hm_LX_open_L73 (G : hg_E) (S : hg_S) (o : Nat) : Option ((hg_S) ⊕ hg_X) :=
  (hg_pf S (some o) 2 4 (.int 1)).bind fun S1 => (hg_chk S1 (some o) 2).bind fun b2 => (hm_LX_advance G S1 b2).bind (Sum.elim (fun q5 => some (.inl q5)) (fun z => some (Sum.inr z)))
noncomputable def hm_LX_open_L67 (G : hg_E) (S : hg_S) (o : Nat) (x1 : Int32) : Option ((hg_S × Int32) ⊕ ((hg_S) ⊕ (hg_X))) :=
  some (.inl (S, (x1 + 1)))
noncomputable def hm_LX_open_L48 (G : hg_E) (S : hg_S) (o : Nat) (x1 : Int32) (x2 : Int32) (y0 : Int32) : Option ((hg_S × Int32) ⊕ ((hg_S) ⊕ (hg_X))) :=
  (hg_chk S (some o) 2).bind fun b6 => (hm_LX_require G S b6 y0).bind (Sum.elim (fun q9 => if x2 = 10 then ((hg_gi q9 (some o) 2 4).bind fun e10 => (hg_pf q9 (some o) 2 4 (.int (e10 + 1))).bind fun S11 => hm_LX_open_L67 G S11 o x1) else (hm_LX_open_L67 G q9 o x1)) (fun z => some (Sum.inr (.inr z))))
noncomputable def hm_LX_open_L47 (G : hg_E) (S : hg_S) (o : Nat) (x1 : Int32) (x2 : Int32) : Option ((hg_S × Int32) ⊕ ((hg_S) ⊕ (hg_X))) :=
  hm_LX_open_L48 G S o x1 x2 0
noncomputable def hm_LX_open_L43 (G : hg_E) (S : hg_S) (o : Nat) (x1 : Int32) (x2 : Int32) : Option ((hg_S × Int32) ⊕ ((hg_S) ⊕ (hg_X))) :=
  hm_LX_open_L48 G S o x1 x2 1
noncomputable def hm_LX_open_b2 (G : hg_E) (S : hg_S) (o : Nat) (x1 : Int32) : Option ((hg_S × Int32) ⊕ ((hg_S) ⊕ (hg_X))) :=
  (hg_gr S (some o) 2 0).bind fun e12 => (hg_ln S e12 (G.1 1)).bind fun e13 => if x1 < e13 then ((hg_gr S (some o) 2 0).bind fun e14 => (hg_ld S e14 (G.1 1) x1).bind fun e15 => if e15 = 9 then (hm_LX_open_L43 G S o x1 e15) else (if e15 = 10 then (hm_LX_open_L43 G S o x1 e15) else (if e15 < 32 then (hm_LX_open_L47 G S o x1 e15) else (if (126 : Int32) < e15 then (hm_LX_open_L47 G S o x1 e15) else (hm_LX_open_L43 G S o x1 e15))))) else (some (.inr (.inl S)))
noncomputable def hm_LX_open_s2 (G : hg_E) (o : Nat) (q : hg_S × Int32) : Option ((hg_S × Int32) ⊕ ((hg_S) ⊕ (hg_X))) :=
  hm_LX_open_b2 G q.1 o q.2
noncomputable def hm_LX_open_L2 (G : hg_E) (S : hg_S) (o : Nat) (x1 : Int32) : Option ((hg_S) ⊕ hg_X) :=
  (dc_it (hm_LX_open_s2 G o) (S, x1)).bind (Sum.elim (fun (z : hg_S) => hm_LX_open_L73 G z o) (fun (z : hg_X) => some (Sum.inr z)))
noncomputable def hm_LX_open (G : hg_E) (S : hg_S) (o : Nat) : Option ((hg_S) ⊕ hg_X) :=
  hm_LX_open_L2 G S o 0
set_option maxHeartbeats 4000000 in
set_option maxRecDepth 100000 in
/-- SignalEngine$Lexer.open()V -/
theorem hm_LX_open_ok (l : Launch) (hlt : l.stackTraces = false) (D : va_G) (G : hg_E) (Z : hg_S) (o : Nat) (q : (hg_S) ⊕ hg_X) (hq : hm_LX_open G Z o = some q) : hg_C l ⟨"SignalEngine$Lexer", "open", "()V"⟩ prog_5_method_4_code 3 none 8 142 D G [.ref o] Z (Sum.elim (fun q => (.inl (none, q) : hg_O)) hg_ox q) := by
  refine hg_start (cv := fun q => (Sum.elim (fun q => (.inl (none, q) : hg_O)) hg_ox q)) hq ?_
  intro F hF h
  refine hg_enter (lv := [(0, va_rf (some o))]) (by decide +kernel) (by simp [lg_sl, va_rf_cat, hg_cti, hg_ctr]) (by simp [lv_args, va_rf_cat, va_rf_some, hg_cti, hg_ctr]) ?_
  intro X hC hR
  have lab_73 : ∀ (S : hg_S), dc_wp (hm_LX_open_L73 G S o) F → hg_G X l (hg_rm 8 142 Z) D 3 S 73 [(0, va_rf (some o))] [] := by
    intro S  h
    delta hm_LX_open_L73 at h
    refine hg_aloadn (pc := 73) (j := 0) (i := 0) (r := (some o)) hC 0 rfl rfl (show decode prog_5_method_4_code 73 = .ok (.aload_n 0, 1) by decide +kernel) ?_
    refine hg_iconst (pc := 74) (v := 1) hC (show decode prog_5_method_4_code 74 = .ok (.iconst 1, 1) by decide +kernel) (by decide +kernel) ?_
    refine hg_rput (pc := 75) (r := (some o)) (v := .int 1) hC fp_SignalEngine_Lexer_18 rfl rfl (show decode prog_5_method_4_code 75 = .ok (.putfield 18, 3) by decide +kernel) h ?_
    intro S1 h
    refine hg_aloadn (pc := 78) (j := 0) (i := 0) (r := (some o)) hC 0 rfl rfl (show decode prog_5_method_4_code 78 = .ok (.aload_n 0, 1) by decide +kernel) ?_
    obtain ⟨b2, hb3, h⟩ := dc_bind h
    obtain ⟨hb3, hv4⟩ := hg_chk_of (C := R_LX) rfl hb3
    refine hg_kVTv (pc := 79) (b := b2) (r := (some o)) (As := []) (rest := []) (so := fun q => q) hC hR cw_SignalEngine_Lexer_40 (fun q hq => hm_LX_advance_ok l hlt D G S1 b2 q hq) (Nat.le_of_ble_eq_true rfl) (Nat.le_of_ble_eq_true rfl) hb3 hv4 rfl (Nat.le_of_ble_eq_true rfl) (show decode prog_5_method_4_code 79 = .ok (.invokevirtual 40, 3) by decide +kernel) h (fun z h => hF (.inr z) (dc_some h)) ?_
    intro q5 h
    exact hg_vret (pc := 82) hC hR (hF _ (dc_some h)) (show decode prog_5_method_4_code 82 = .ok (.return_, 1) by decide +kernel)
  have loop_2 : ∀ (q : hg_S × Int32), dc_wp (dc_it (hm_LX_open_s2 G o) q) (fun z => dc_wp ((Sum.elim (fun (z : hg_S) => hm_LX_open_L73 G z o) (fun (z : hg_X) => some (Sum.inr z))) z) F) → hg_G X l (hg_rm 8 142 Z) D 3 q.1 2 [(0, va_rf (some o)), (1, .int q.2)] [] := by
    refine dc_loopF ?_
    intro F_2 hl_2 hr_2
    have lab_67 : ∀ (S : hg_S) (x1 : Int32), dc_wp (hm_LX_open_L67 G S o x1) F_2 → hg_G X l (hg_rm 8 142 Z) D 3 S 67 [(0, va_rf (some o)), (1, .int x1)] [] := by
      intro S x1 h
      delta hm_LX_open_L67 at h
      refine hg_iinc (pc := 67) (i := 1) (v := (x1 + 1)) (lv' := [(1, .int (x1 + 1)), (0, va_rf (some o))]) hC 1 rfl rfl (Nat.le_of_ble_eq_true rfl) rfl (show decode prog_5_method_4_code 67 = .ok (.iinc 1 1, 3) by decide +kernel) ?_
      refine hg_goto (pc := 70) (tgt := 2) hC (show decode prog_5_method_4_code 70 = .ok (.goto (-68), 3) by decide +kernel) (by decide +kernel) ?_
      exact hg_sub [1, 0] rfl (hl_2 (S, (x1 + 1)) (dc_some h))
    have lab_48 : ∀ (S : hg_S) (x1 : Int32) (x2 : Int32) (y0 : Int32), dc_wp (hm_LX_open_L48 G S o x1 x2 y0) F_2 → hg_G X l (hg_rm 8 142 Z) D 3 S 48 [(0, va_rf (some o)), (1, .int x1), (2, .int x2)] [.int y0, va_rf (some o)] := by
      intro S x1 x2 y0 h
      delta hm_LX_open_L48 at h
      obtain ⟨b6, hb7, h⟩ := dc_bind h
      obtain ⟨hb7, hv8⟩ := hg_chk_of (C := R_LX) rfl hb7
      refine hg_kVTv (pc := 48) (b := b6) (r := (some o)) (As := [.int y0]) (rest := []) (so := fun q => q) hC hR cw_SignalEngine_Lexer_36 (fun q hq => hm_LX_require_ok l hlt D G S b6 y0 q hq) (Nat.le_of_ble_eq_true rfl) (Nat.le_of_ble_eq_true rfl) hb7 hv8 rfl (Nat.le_of_ble_eq_true rfl) (show decode prog_5_method_4_code 48 = .ok (.invokevirtual 36, 3) by decide +kernel) h (fun z h => (fun (h : dc_wp (some (Sum.inr z)) F) => hF (.inr z) (dc_some h)) (hr_2 (.inr z) (dc_some h))) ?_
      intro q9 h
      refine hg_iloadn (pc := 51) (j := 2) (i := 2) hC 2 rfl rfl (show decode prog_5_method_4_code 51 = .ok (.iload_n 2, 1) by decide +kernel) ?_
      refine hg_bipush (pc := 52) (v := 10) hC (show decode prog_5_method_4_code 52 = .ok (.bipush 10, 2) by decide +kernel) (by decide +kernel) ?_
      refine hg_icmp_ne (pc := 54) (tgt := 67) hC (show decode prog_5_method_4_code 54 = .ok (.if_icmp .ne 13, 3) by decide +kernel) (by decide +kernel) h ?_ ?_
      · intro h
        refine hg_aloadn (pc := 57) (j := 0) (i := 0) (r := (some o)) hC 0 rfl rfl (show decode prog_5_method_4_code 57 = .ok (.aload_n 0, 1) by decide +kernel) ?_
        refine hg_dup (pc := 58) hC (show decode prog_5_method_4_code 58 = .ok (.dup, 1) by decide +kernel) rfl ?_
        refine hg_rgi (pc := 59) (r := (some o)) hC fl_SignalEngine_Lexer_18 (show decode prog_5_method_4_code 59 = .ok (.getfield 18, 3) by decide +kernel) h ?_
        intro e10 h
        refine hg_iconst (pc := 62) (v := 1) hC (show decode prog_5_method_4_code 62 = .ok (.iconst 1, 1) by decide +kernel) (by decide +kernel) ?_
        refine hg_iadd (pc := 63) hC (show decode prog_5_method_4_code 63 = .ok (.iadd, 1) by decide +kernel) ?_
        refine hg_rput (pc := 64) (r := (some o)) (v := .int (e10 + 1)) hC fp_SignalEngine_Lexer_18 rfl rfl (show decode prog_5_method_4_code 64 = .ok (.putfield 18, 3) by decide +kernel) h ?_
        intro S11 h
        exact hg_sub [0, 1] rfl (lab_67 S11 x1 h)
      · intro h
        exact hg_sub [0, 1] rfl (lab_67 q9 x1 h)
    have lab_47 : ∀ (S : hg_S) (x1 : Int32) (x2 : Int32), dc_wp (hm_LX_open_L47 G S o x1 x2) F_2 → hg_G X l (hg_rm 8 142 Z) D 3 S 47 [(0, va_rf (some o)), (1, .int x1), (2, .int x2)] [va_rf (some o)] := by
      intro S x1 x2 h
      delta hm_LX_open_L47 at h
      refine hg_iconst (pc := 47) (v := 0) hC (show decode prog_5_method_4_code 47 = .ok (.iconst 0, 1) by decide +kernel) (by decide +kernel) ?_
      exact lab_48 S x1 x2 0 h
    have lab_43 : ∀ (S : hg_S) (x1 : Int32) (x2 : Int32), dc_wp (hm_LX_open_L43 G S o x1 x2) F_2 → hg_G X l (hg_rm 8 142 Z) D 3 S 43 [(0, va_rf (some o)), (1, .int x1), (2, .int x2)] [va_rf (some o)] := by
      intro S x1 x2 h
      delta hm_LX_open_L43 at h
      refine hg_iconst (pc := 43) (v := 1) hC (show decode prog_5_method_4_code 43 = .ok (.iconst 1, 1) by decide +kernel) (by decide +kernel) ?_
      refine hg_goto (pc := 44) (tgt := 48) hC (show decode prog_5_method_4_code 44 = .ok (.goto 4, 3) by decide +kernel) (by decide +kernel) ?_
      exact lab_48 S x1 x2 1 h
    rintro ⟨S, x1⟩ h
    have h : dc_wp (hm_LX_open_b2 G S o x1) F_2 := h
    delta hm_LX_open_b2 at h
    refine hg_iloadn (pc := 2) (j := 1) (i := 1) hC 1 rfl rfl (show decode prog_5_method_4_code 2 = .ok (.iload_n 1, 1) by decide +kernel) ?_
    refine hg_aloadn (pc := 3) (j := 0) (i := 0) (r := (some o)) hC 0 rfl rfl (show decode prog_5_method_4_code 3 = .ok (.aload_n 0, 1) by decide +kernel) ?_
    refine hg_rgr (pc := 4) (r := (some o)) hC fl_SignalEngine_Lexer_22 (show decode prog_5_method_4_code 4 = .ok (.getfield 22, 3) by decide +kernel) h ?_
    intro e12 h
    refine hg_rlen (pc := 7) (r := e12) (t := 1) hC rfl (show decode prog_5_method_4_code 7 = .ok (.arraylength, 1) by decide +kernel) h ?_
    intro e13 h
    refine hg_icmp_ge (pc := 8) (tgt := 73) hC (show decode prog_5_method_4_code 8 = .ok (.if_icmp .ge 65, 3) by decide +kernel) (by decide +kernel) h ?_ ?_
    · intro h
      refine hg_aloadn (pc := 11) (j := 0) (i := 0) (r := (some o)) hC 0 rfl rfl (show decode prog_5_method_4_code 11 = .ok (.aload_n 0, 1) by decide +kernel) ?_
      refine hg_rgr (pc := 12) (r := (some o)) hC fl_SignalEngine_Lexer_22 (show decode prog_5_method_4_code 12 = .ok (.getfield 22, 3) by decide +kernel) h ?_
      intro e14 h
      refine hg_iloadn (pc := 15) (j := 1) (i := 1) hC 1 rfl rfl (show decode prog_5_method_4_code 15 = .ok (.iload_n 1, 1) by decide +kernel) ?_
      refine hg_rbald (pc := 16) (r := e14) hC (show decode prog_5_method_4_code 16 = .ok (.baload, 1) by decide +kernel) h ?_
      intro e15 h
      refine hg_istoren (pc := 17) (j := 2) (i := 2) (lv' := [(2, .int e15), (0, va_rf (some o)), (1, .int x1)]) hC rfl (Nat.le_of_ble_eq_true rfl) rfl (show decode prog_5_method_4_code 17 = .ok (.istore_n 2, 1) by decide +kernel) ?_
      refine hg_aloadn (pc := 18) (j := 0) (i := 0) (r := (some o)) hC 1 rfl rfl (show decode prog_5_method_4_code 18 = .ok (.aload_n 0, 1) by decide +kernel) ?_
      refine hg_iloadn (pc := 19) (j := 2) (i := 2) hC 0 rfl rfl (show decode prog_5_method_4_code 19 = .ok (.iload_n 2, 1) by decide +kernel) ?_
      refine hg_bipush (pc := 20) (v := 9) hC (show decode prog_5_method_4_code 20 = .ok (.bipush 9, 2) by decide +kernel) (by decide +kernel) ?_
      refine hg_icmp_eq (pc := 22) (tgt := 43) hC (show decode prog_5_method_4_code 22 = .ok (.if_icmp .eq 21, 3) by decide +kernel) (by decide +kernel) h ?_ ?_
      · intro h
        exact hg_sub [1, 2, 0] rfl (lab_43 S x1 e15 h)
      · intro h
        refine hg_iloadn (pc := 25) (j := 2) (i := 2) hC 0 rfl rfl (show decode prog_5_method_4_code 25 = .ok (.iload_n 2, 1) by decide +kernel) ?_
        refine hg_bipush (pc := 26) (v := 10) hC (show decode prog_5_method_4_code 26 = .ok (.bipush 10, 2) by decide +kernel) (by decide +kernel) ?_
        refine hg_icmp_eq (pc := 28) (tgt := 43) hC (show decode prog_5_method_4_code 28 = .ok (.if_icmp .eq 15, 3) by decide +kernel) (by decide +kernel) h ?_ ?_
        · intro h
          exact hg_sub [1, 2, 0] rfl (lab_43 S x1 e15 h)
        · intro h
          refine hg_iloadn (pc := 31) (j := 2) (i := 2) hC 0 rfl rfl (show decode prog_5_method_4_code 31 = .ok (.iload_n 2, 1) by decide +kernel) ?_
          refine hg_bipush (pc := 32) (v := 32) hC (show decode prog_5_method_4_code 32 = .ok (.bipush 32, 2) by decide +kernel) (by decide +kernel) ?_
          refine hg_icmp_lt (pc := 34) (tgt := 47) hC (show decode prog_5_method_4_code 34 = .ok (.if_icmp .lt 13, 3) by decide +kernel) (by decide +kernel) h ?_ ?_
          · intro h
            exact hg_sub [1, 2, 0] rfl (lab_47 S x1 e15 h)
          · intro h
            refine hg_iloadn (pc := 37) (j := 2) (i := 2) hC 0 rfl rfl (show decode prog_5_method_4_code 37 = .ok (.iload_n 2, 1) by decide +kernel) ?_
            refine hg_bipush (pc := 38) (v := 126) hC (show decode prog_5_method_4_code 38 = .ok (.bipush 126, 2) by decide +kernel) (by decide +kernel) ?_
            refine hg_icmp_gt (pc := 40) (tgt := 47) hC (show decode prog_5_method_4_code 40 = .ok (.if_icmp .gt 7, 3) by decide +kernel) (by decide +kernel) h ?_ ?_
            · intro h
              exact hg_sub [1, 2, 0] rfl (lab_47 S x1 e15 h)
            · intro h
              exact hg_sub [1, 2, 0] rfl (lab_43 S x1 e15 h)
    · intro h
      have h : dc_wp (hm_LX_open_L73 G S o) F := hr_2 (.inl S) (dc_some h)
      exact hg_sub [0] rfl (lab_73 S h)
  have lab_2 : ∀ (S : hg_S) (x1 : Int32), dc_wp (hm_LX_open_L2 G S o x1) F → hg_G X l (hg_rm 8 142 Z) D 3 S 2 [(0, va_rf (some o)), (1, .int x1)] [] := fun S x1 h => loop_2  (S, x1) (dc_bind h)
  show hg_G X l (hg_rm 8 142 Z) D 3 Z 0 [(0, va_rf (some o))] []
  have h : dc_wp (hm_LX_open G Z o) F := h
  delta hm_LX_open at h
  refine hg_iconst (pc := 0) (v := 0) hC (show decode prog_5_method_4_code 0 = .ok (.iconst 0, 1) by decide +kernel) (by decide +kernel) ?_
  refine hg_istoren (pc := 1) (j := 1) (i := 1) (lv' := [(1, .int 0), (0, va_rf (some o))]) hC rfl (Nat.le_of_ble_eq_true rfl) rfl (show decode prog_5_method_4_code 1 = .ok (.istore_n 1, 1) by decide +kernel) ?_
  exact hg_sub [1, 0] rfl (lab_2 Z 0 h)
