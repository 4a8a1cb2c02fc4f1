noncomputable def mm_restart_L13 (S : md_S) (y0 : Int32) : Option (md_S × Int32) :=
  (mm_fails S y0 0).bind fun q1 => if q1.2 = 0 then (dc_let ((q1.1.1 83) : Int32) fun v2 => (mm_rest q1.1).bind fun q3 => (mm_place q3 256).bind fun q4 => dc_let (md_i q4 82 1) fun S5 => some (S5, v2)) else (some (q1.1, 0))
noncomputable def mm_restart (S : md_S) : Option (md_S × Int32) :=
  if (S.1 41) = 0 then (mm_restart_L13 S 1) else (mm_restart_L13 S 0)
set_option maxHeartbeats 4000000 in
set_option maxRecDepth 100000 in
/-- restart()I -/
theorem mm_restart_ok (l : Launch) (D : va_G) (ad : Nat → Nat) (de : Nat) (o : Nat) (a : Nat → Nat) (ca : Nat → ClassId) (S : md_S) (F : (md_S × Int32) → Prop) (h : dc_wp (mm_restart S) F) : dc_Ci l ⟨"SignalEngineModel", "restart", "()I"⟩ prog_15_method_79_code 2 (some (.int)) 1 22 D (md_T ca) ad de [.ref o] (md_W o a ca S) (fun r w => ∃ q, F q ∧ r = q.2 ∧ w = md_W o a ca q.1) 0 0 := by
  refine dc_enteri (by decide +kernel) (Nat.le_of_ble_eq_true rfl) ?_
  intro X hC hR
  have lab_13 : ∀ (S : md_S) (y0 : Int32), dc_wp (mm_restart_L13 S y0) F → dc_G X l { frames := 1, cells := 0, slots := 0, locals := 22 } D 2 0 0 (md_W o a ca S) 13 [(0, .ref o)] [.int y0, .ref o] := by
    intro S y0 h
    delta mm_restart_L13 at h
    refine dc_iconst (pc := 13) (v := 0) hC (show decode prog_15_method_79_code 13 = .ok (.iconst 0, 1) by decide +kernel) (by decide +kernel) ?_
    refine mc_Vmi (pc := 14) (As := [.int y0, .int 0]) (rest := []) hC vw_fails_615 (mm_fails_ok l D ad de o a ca S y0 0) (Nat.le_of_ble_eq_true rfl) (Nat.le_of_ble_eq_true rfl) rfl (Nat.le_of_ble_eq_true rfl) (show decode prog_15_method_79_code 14 = .ok (.invokevirtual 615, 3) by decide +kernel) h ?_
    intro q1 h
    refine dc_if_eq (pc := 17) (tgt := 22) hC (show decode prog_15_method_79_code 17 = .ok (.ifCond .eq 5, 3) by decide +kernel) (by decide +kernel) h ?_ ?_
    · intro h
      refine dc_aloadn (pc := 22) (j := 0) (i := 0) hC 0 rfl rfl (show decode prog_15_method_79_code 22 = .ok (.aload_n 0, 1) by decide +kernel) ?_
      refine md_g83 (pc := 23) hC (show decode prog_15_method_79_code 23 = .ok (.getfield 542, 3) by decide +kernel) ?_
      refine dc_letI h ?_
      intro v2 h
      refine dc_istoren (pc := 26) (j := 1) (i := 1) (lv' := [(1, .int v2), (0, .ref o)]) hC rfl (Nat.le_of_ble_eq_true rfl) rfl (show decode prog_15_method_79_code 26 = .ok (.istore_n 1, 1) by decide +kernel) ?_
      refine dc_aloadn (pc := 27) (j := 0) (i := 0) hC 1 rfl rfl (show decode prog_15_method_79_code 27 = .ok (.aload_n 0, 1) by decide +kernel) ?_
      refine mc_Vmv (pc := 28) (As := []) (rest := []) hC vw_rest_619 (mm_rest_ok l D ad de o a ca q1.1) (Nat.le_of_ble_eq_true rfl) (Nat.le_of_ble_eq_true rfl) rfl (Nat.le_of_ble_eq_true rfl) (show decode prog_15_method_79_code 28 = .ok (.invokevirtual 619, 3) by decide +kernel) h ?_
      intro q3 h
      refine dc_aloadn (pc := 31) (j := 0) (i := 0) hC 1 rfl rfl (show decode prog_15_method_79_code 31 = .ok (.aload_n 0, 1) by decide +kernel) ?_
      refine dc_sipush (pc := 32) (v := 256) hC (show decode prog_15_method_79_code 32 = .ok (.sipush 256, 3) by decide +kernel) (by decide +kernel) ?_
      refine mc_Vmv (pc := 35) (As := [.int 256]) (rest := []) hC vw_place_622 (mm_place_ok l D ad de o a ca q3 256) (Nat.le_of_ble_eq_true rfl) (Nat.le_of_ble_eq_true rfl) rfl (Nat.le_of_ble_eq_true rfl) (show decode prog_15_method_79_code 35 = .ok (.invokevirtual 622, 3) by decide +kernel) h ?_
      intro q4 h
      refine dc_aloadn (pc := 38) (j := 0) (i := 0) hC 1 rfl rfl (show decode prog_15_method_79_code 38 = .ok (.aload_n 0, 1) by decide +kernel) ?_
      refine dc_iconst (pc := 39) (v := 1) hC (show decode prog_15_method_79_code 39 = .ok (.iconst 1, 1) by decide +kernel) (by decide +kernel) ?_
      refine md_p82 (pc := 40) hC (show decode prog_15_method_79_code 40 = .ok (.putfield 545, 3) by decide +kernel) ?_
      refine dc_letS h ?_
      intro S5 h
      refine dc_iloadn (pc := 43) (j := 1) (i := 1) hC 0 rfl rfl (show decode prog_15_method_79_code 43 = .ok (.iload_n 1, 1) by decide +kernel) ?_
      exact dc_iret (pc := 44) hC hR ⟨_, dc_some h, rfl, rfl⟩ (show decode prog_15_method_79_code 44 = .ok (.ireturn, 1) by decide +kernel)
    · intro h
      refine dc_iconst (pc := 20) (v := 0) hC (show decode prog_15_method_79_code 20 = .ok (.iconst 0, 1) by decide +kernel) (by decide +kernel) ?_
      exact dc_iret (pc := 21) hC hR ⟨_, dc_some h, rfl, rfl⟩ (show decode prog_15_method_79_code 21 = .ok (.ireturn, 1) by decide +kernel)
  show dc_G X l { frames := 1, cells := 0, slots := 0, locals := 22 } D 2 0 0 (md_W o a ca S) 0 [(0, .ref o)] []
  delta mm_restart at h
  refine dc_aloadn (pc := 0) (j := 0) (i := 0) hC 0 rfl rfl (show decode prog_15_method_79_code 0 = .ok (.aload_n 0, 1) by decide +kernel) ?_
  refine dc_aloadn (pc := 1) (j := 0) (i := 0) hC 0 rfl rfl (show decode prog_15_method_79_code 1 = .ok (.aload_n 0, 1) by decide +kernel) ?_
  refine md_g41 (pc := 2) hC (show decode prog_15_method_79_code 2 = .ok (.getfield 521, 3) by decide +kernel) ?_
  refine dc_if_ne (pc := 5) (tgt := 12) hC (show decode prog_15_method_79_code 5 = .ok (.ifCond .ne 7, 3) by decide +kernel) (by decide +kernel) h ?_ ?_
  · intro h
    refine dc_iconst (pc := 8) (v := 1) hC (show decode prog_15_method_79_code 8 = .ok (.iconst 1, 1) by decide +kernel) (by decide +kernel) ?_
    refine dc_goto (pc := 9) (tgt := 13) hC (show decode prog_15_method_79_code 9 = .ok (.goto 4, 3) by decide +kernel) (by decide +kernel) ?_
    exact lab_13 S 1 h
  · intro h
    refine dc_iconst (pc := 12) (v := 0) hC (show decode prog_15_method_79_code 12 = .ok (.iconst 0, 1) by decide +kernel) (by decide +kernel) ?_
    exact lab_13 S 0 h
noncomputable def mm_isInput_L31 (S : md_S) (y0 : Int32) : Option (Int32) :=
  (dc_zb y0).bind fun _ => some y0
noncomputable def mm_isInput_L30 (S : md_S) : Option (Int32) :=
  mm_isInput_L31 S 0
noncomputable def mm_isInput_L26 (S : md_S) : Option (Int32) :=
  mm_isInput_L31 S 1
noncomputable def mm_isInput (S : md_S) (p1 : Int32) : Option (Int32) :=
  if p1 < 0 then (mm_isInput_L30 S) else (if (S.1 45) = 31 then (mm_isInput_L26 S) else (if p1 < ((1 : Int32) <<< ((S.1 45) &&& (31 : Int32))) then (mm_isInput_L26 S) else (mm_isInput_L30 S)))
set_option maxHeartbeats 4000000 in
set_option maxRecDepth 100000 in
/-- isInput(I)Z -/
theorem mm_isInput_ok (l : Launch) (D : va_G) (ad : Nat → Nat) (de : Nat) (o : Nat) (a : Nat → Nat) (ca : Nat → ClassId) (S : md_S) (p1 : Int32) (F : Int32 → Prop) (h : dc_wp (mm_isInput S p1) F) : dc_Ci l ⟨"SignalEngineModel", "isInput", "(I)Z"⟩ prog_15_method_80_code 2 (some (.boolean)) 0 0 D (md_T ca) ad de [.ref o, .int p1] (md_W o a ca S) (fun r w => ∃ q, F q ∧ r = q ∧ w = (md_W o a ca S)) 0 0 := by
  refine dc_enteri (by decide +kernel) (Nat.le_of_ble_eq_true rfl) ?_
  intro X hC hR
  have lab_31 : ∀ (y0 : Int32), dc_wp (mm_isInput_L31 S y0) F → dc_G X l { frames := 0, cells := 0, slots := 0, locals := 0 } D 2 0 0 (md_W o a ca S) 31 [(0, .ref o)] [.int y0] := by
    intro y0 h
    delta mm_isInput_L31 at h
    obtain ⟨hz1, h⟩ := dc_zb_wp (dc_bind h)
    exact dc_zret (pc := 31) hC hR hz1 ⟨_, dc_some h, rfl, rfl⟩ (show decode prog_15_method_80_code 31 = .ok (.ireturn, 1) by decide +kernel)
  have lab_30 : dc_wp (mm_isInput_L30 S) F → dc_G X l { frames := 0, cells := 0, slots := 0, locals := 0 } D 2 0 0 (md_W o a ca S) 30 [(0, .ref o)] [] := by
    intro  h
    delta mm_isInput_L30 at h
    refine dc_iconst (pc := 30) (v := 0) hC (show decode prog_15_method_80_code 30 = .ok (.iconst 0, 1) by decide +kernel) (by decide +kernel) ?_
    exact lab_31 0 h
  have lab_26 : dc_wp (mm_isInput_L26 S) F → dc_G X l { frames := 0, cells := 0, slots := 0, locals := 0 } D 2 0 0 (md_W o a ca S) 26 [(0, .ref o)] [] := by
    intro  h
    delta mm_isInput_L26 at h
    refine dc_iconst (pc := 26) (v := 1) hC (show decode prog_15_method_80_code 26 = .ok (.iconst 1, 1) by decide +kernel) (by decide +kernel) ?_
    refine dc_goto (pc := 27) (tgt := 31) hC (show decode prog_15_method_80_code 27 = .ok (.goto 4, 3) by decide +kernel) (by decide +kernel) ?_
    exact lab_31 1 h
  show dc_G X l { frames := 0, cells := 0, slots := 0, locals := 0 } D 2 0 0 (md_W o a ca S) 0 [(0, .ref o), (1, .int p1)] []
  delta mm_isInput at h
  refine dc_iloadn (pc := 0) (j := 1) (i := 1) hC 1 rfl rfl (show decode prog_15_method_80_code 0 = .ok (.iload_n 1, 1) by decide +kernel) ?_
  refine dc_if_lt (pc := 1) (tgt := 30) hC (show decode prog_15_method_80_code 1 = .ok (.ifCond .lt 29, 3) by decide +kernel) (by decide +kernel) h ?_ ?_
  · intro h
    exact dc_sub [0] rfl (lab_30 h)
  · intro h
    refine dc_aloadn (pc := 4) (j := 0) (i := 0) hC 0 rfl rfl (show decode prog_15_method_80_code 4 = .ok (.aload_n 0, 1) by decide +kernel) ?_
    refine md_g45 (pc := 5) hC (show decode prog_15_method_80_code 5 = .ok (.getfield 533, 3) by decide +kernel) ?_
    refine dc_bipush (pc := 8) (v := 31) hC (show decode prog_15_method_80_code 8 = .ok (.bipush 31, 2) by decide +kernel) (by decide +kernel) ?_
    refine dc_icmp_ne (pc := 10) (tgt := 16) hC (show decode prog_15_method_80_code 10 = .ok (.if_icmp .ne 6, 3) by decide +kernel) (by decide +kernel) h ?_ ?_
    · intro h
      refine dc_goto (pc := 13) (tgt := 26) hC (show decode prog_15_method_80_code 13 = .ok (.goto 13, 3) by decide +kernel) (by decide +kernel) ?_
      exact dc_sub [0] rfl (lab_26 h)
    · intro h
      refine dc_iloadn (pc := 16) (j := 1) (i := 1) hC 1 rfl rfl (show decode prog_15_method_80_code 16 = .ok (.iload_n 1, 1) by decide +kernel) ?_
      refine dc_iconst (pc := 17) (v := 1) hC (show decode prog_15_method_80_code 17 = .ok (.iconst 1, 1) by decide +kernel) (by decide +kernel) ?_
      refine dc_aloadn (pc := 18) (j := 0) (i := 0) hC 0 rfl rfl (show decode prog_15_method_80_code 18 = .ok (.aload_n 0, 1) by decide +kernel) ?_
      refine md_g45 (pc := 19) hC (show decode prog_15_method_80_code 19 = .ok (.getfield 533, 3) by decide +kernel) ?_
      refine dc_ishl (pc := 22) hC (show decode prog_15_method_80_code 22 = .ok (.ishl, 1) by decide +kernel) ?_
      refine dc_icmp_ge (pc := 23) (tgt := 30) hC (show decode prog_15_method_80_code 23 = .ok (.if_icmp .ge 7, 3) by decide +kernel) (by decide +kernel) h ?_ ?_
      · intro h
        exact dc_sub [0] rfl (lab_26 h)
      · intro h
        exact dc_sub [0] rfl (lab_30 h)
noncomputable def mm_outcome (S : md_S) (p1 : Int32) (p2 : Int32) : Option (md_S) :=
  dc_let (md_i S 81 p1) fun S1 => dc_let (md_i S1 80 p2) fun S2 => some S2
set_option maxHeartbeats 4000000 in
set_option maxRecDepth 100000 in
/-- outcome(II)V -/
theorem mm_outcome_ok (l : Launch) (D : va_G) (ad : Nat → Nat) (de : Nat) (o : Nat) (a : Nat → Nat) (ca : Nat → ClassId) (S : md_S) (p1 : Int32) (p2 : Int32) (F : md_S → Prop) (h : dc_wp (mm_outcome S p1 p2) F) : dc_Cv l ⟨"SignalEngineModel", "outcome", "(II)V"⟩ prog_15_method_63_code 3 none 0 0 D (md_T ca) ad de [.ref o, .int p1, .int p2] (md_W o a ca S) (fun w => ∃ q, F q ∧ w = md_W o a ca q) 0 0 := by
  refine dc_enterv (by decide +kernel) (Nat.le_of_ble_eq_true rfl) ?_
  intro X hC hR
  show dc_G X l { frames := 0, cells := 0, slots := 0, locals := 0 } D 3 0 0 (md_W o a ca S) 0 [(0, .ref o), (1, .int p1), (2, .int p2)] []
  delta mm_outcome at h
  refine dc_aloadn (pc := 0) (j := 0) (i := 0) hC 0 rfl rfl (show decode prog_15_method_63_code 0 = .ok (.aload_n 0, 1) by decide +kernel) ?_
  refine dc_iloadn (pc := 1) (j := 1) (i := 1) hC 1 rfl rfl (show decode prog_15_method_63_code 1 = .ok (.iload_n 1, 1) by decide +kernel) ?_
  refine md_p81 (pc := 2) hC (show decode prog_15_method_63_code 2 = .ok (.putfield 564, 3) by decide +kernel) ?_
  refine dc_letS h ?_
  intro S1 h
  refine dc_aloadn (pc := 5) (j := 0) (i := 0) hC 0 rfl rfl (show decode prog_15_method_63_code 5 = .ok (.aload_n 0, 1) by decide +kernel) ?_
  refine dc_iloadn (pc := 6) (j := 2) (i := 2) hC 2 rfl rfl (show decode prog_15_method_63_code 6 = .ok (.iload_n 2, 1) by decide +kernel) ?_
  refine md_p80 (pc := 7) hC (show decode prog_15_method_63_code 7 = .ok (.putfield 567, 3) by decide +kernel) ?_
  refine dc_letS h ?_
  intro S2 h
  exact dc_vret (pc := 10) hC hR ⟨_, dc_some h, rfl⟩ (show decode prog_15_method_63_code 10 = .ok (.return_, 1) by decide +kernel)
noncomputable def mm_simple_IZ_L122 (S : md_S) (y0 : Int32) (y1 : Int32) : Option (md_S) :=
  (mm_outcome S y1 y0).bind fun q1 => some q1
noncomputable def mm_simple_IZ_L109 (S : md_S) (x2 : Int32) (x3 : Int32) : Option (md_S) :=
  if x2 = 0 then (mm_simple_IZ_L122 S (-1) ((1 : Int32) <<< (x3 &&& (31 : Int32)))) else (mm_simple_IZ_L122 S x3 ((1 : Int32) <<< (x3 &&& (31 : Int32))))
noncomputable def mm_simple_IZ_L83 (S : md_S) (x1 : Int32) (x2 : Int32) (x3 : Int32) : Option (md_S) :=
  (dc_ix x1 1200).bind fun j2 => if (S.2.1 51 j2) = 1 then (if x2 = 0 then (mm_simple_IZ_L109 S x2 x3) else ((dc_ix x1 1200).bind fun j3 => (dc_ix (S.2.1 54 j3) 200).bind fun j4 => dc_let (md_a S 75 j4 1) fun S5 => mm_simple_IZ_L109 S5 x2 x3)) else (mm_simple_IZ_L109 S x2 x3)
noncomputable def mm_simple_IZ_L35 (S : md_S) (x1 : Int32) (x2 : Int32) (y0 : Int32) : Option (md_S) :=
  (dc_ix x1 1200).bind fun j6 => if (S.2.1 51 j6) = 2 then ((dc_ix x1 1200).bind fun j7 => (dc_ix (S.2.1 54 j7) 400).bind fun j8 => (dc_ix (S.2.1 73 j8) 1662).bind fun j9 => dc_let (md_a S 72 j9 1) fun S10 => (dc_ix x1 1200).bind fun j11 => (dc_ix (S10.2.1 54 j11) 400).bind fun j12 => (dc_ix (S10.2.1 73 j12) 1662).bind fun j13 => (dc_zb ((S10.2.1 71 j13) ||| x2)).bind fun _ => (dc_ix (S10.2.1 73 j12) 1662).bind fun j15 => dc_let (md_a S10 71 j15 ((S10.2.1 71 j13) ||| x2)) fun S16 => mm_simple_IZ_L83 S16 x1 x2 y0) else (mm_simple_IZ_L83 S x1 x2 y0)
noncomputable def mm_simple_IZ (S : md_S) (p1 : Int32) (p2 : Int32) : Option (md_S) :=
  (dc_ix p1 1200).bind fun j17 => if (S.2.1 51 j17) = 1 then (mm_simple_IZ_L35 S p1 p2 1) else ((dc_ix p1 1200).bind fun j18 => if (S.2.1 51 j18) = 9 then ((dc_ix p1 1200).bind fun j19 => mm_simple_IZ_L35 S p1 p2 (S.2.1 54 j19)) else (mm_simple_IZ_L35 S p1 p2 0))
set_option maxHeartbeats 4000000 in
set_option maxRecDepth 100000 in
/-- simple(IZ)V -/
theorem mm_simple_IZ_ok (l : Launch) (D : va_G) (ad : Nat → Nat) (de : Nat) (o : Nat) (a : Nat → Nat) (ca : Nat → ClassId) (S : md_S) (p1 : Int32) (p2 : Int32) (F : md_S → Prop) (h : dc_wp (mm_simple_IZ S p1 p2) F) : dc_Cv l ⟨"SignalEngineModel", "simple", "(IZ)V"⟩ prog_15_method_67_code 4 none 1 22 D (md_T ca) ad de [.ref o, .int p1, .int p2] (md_W o a ca S) (fun w => ∃ q, F q ∧ w = md_W o a ca q) 0 0 := by
  refine dc_enterv (by decide +kernel) (Nat.le_of_ble_eq_true rfl) ?_
  intro X hC hR
  have lab_122 : ∀ (S : md_S) (y0 : Int32) (y1 : Int32), dc_wp (mm_simple_IZ_L122 S y0 y1) F → dc_G X l { frames := 1, cells := 0, slots := 0, locals := 22 } D 4 0 0 (md_W o a ca S) 122 [(0, .ref o)] [.int y0, .int y1, .ref o] := by
    intro S y0 y1 h
    delta mm_simple_IZ_L122 at h
    refine mc_Vmv (pc := 122) (As := [.int y1, .int y0]) (rest := []) hC vw_outcome_579 (mm_outcome_ok l D ad de o a ca S y1 y0) (Nat.le_of_ble_eq_true rfl) (Nat.le_of_ble_eq_true rfl) rfl (Nat.le_of_ble_eq_true rfl) (show decode prog_15_method_67_code 122 = .ok (.invokevirtual 579, 3) by decide +kernel) h ?_
    intro q1 h
    exact dc_vret (pc := 125) hC hR ⟨_, dc_some h, rfl⟩ (show decode prog_15_method_67_code 125 = .ok (.return_, 1) by decide +kernel)
  have lab_109 : ∀ (S : md_S) (x2 : Int32) (x3 : Int32), dc_wp (mm_simple_IZ_L109 S x2 x3) F → dc_G X l { frames := 1, cells := 0, slots := 0, locals := 22 } D 4 0 0 (md_W o a ca S) 109 [(0, .ref o), (2, .int x2), (3, .int x3)] [] := by
    intro S x2 x3 h
    delta mm_simple_IZ_L109 at h
    refine dc_aloadn (pc := 109) (j := 0) (i := 0) hC 0 rfl rfl (show decode prog_15_method_67_code 109 = .ok (.aload_n 0, 1) by decide +kernel) ?_
    refine dc_iconst (pc := 110) (v := 1) hC (show decode prog_15_method_67_code 110 = .ok (.iconst 1, 1) by decide +kernel) (by decide +kernel) ?_
    refine dc_iloadn (pc := 111) (j := 3) (i := 3) hC 2 rfl rfl (show decode prog_15_method_67_code 111 = .ok (.iload_n 3, 1) by decide +kernel) ?_
    refine dc_ishl (pc := 112) hC (show decode prog_15_method_67_code 112 = .ok (.ishl, 1) by decide +kernel) ?_
    refine dc_iloadn (pc := 113) (j := 2) (i := 2) hC 1 rfl rfl (show decode prog_15_method_67_code 113 = .ok (.iload_n 2, 1) by decide +kernel) ?_
    refine dc_if_eq (pc := 114) (tgt := 121) hC (show decode prog_15_method_67_code 114 = .ok (.ifCond .eq 7, 3) by decide +kernel) (by decide +kernel) h ?_ ?_
    · intro h
      refine dc_iconst (pc := 121) (v := (-1)) hC (show decode prog_15_method_67_code 121 = .ok (.iconst (-1), 1) by decide +kernel) (by decide +kernel) ?_
      exact dc_sub [0] rfl (lab_122 S (-1) ((1 : Int32) <<< (x3 &&& (31 : Int32))) h)
    · intro h
      refine dc_iloadn (pc := 117) (j := 3) (i := 3) hC 2 rfl rfl (show decode prog_15_method_67_code 117 = .ok (.iload_n 3, 1) by decide +kernel) ?_
      refine dc_goto (pc := 118) (tgt := 122) hC (show decode prog_15_method_67_code 118 = .ok (.goto 4, 3) by decide +kernel) (by decide +kernel) ?_
      exact dc_sub [0] rfl (lab_122 S x3 ((1 : Int32) <<< (x3 &&& (31 : Int32))) h)
  have lab_83 : ∀ (S : md_S) (x1 : Int32) (x2 : Int32) (x3 : Int32), dc_wp (mm_simple_IZ_L83 S x1 x2 x3) F → dc_G X l { frames := 1, cells := 0, slots := 0, locals := 22 } D 4 0 0 (md_W o a ca S) 83 [(0, .ref o), (1, .int x1), (2, .int x2), (3, .int x3)] [] := by
    intro S x1 x2 x3 h
    delta mm_simple_IZ_L83 at h
    refine dc_aloadn (pc := 83) (j := 0) (i := 0) hC 0 rfl rfl (show decode prog_15_method_67_code 83 = .ok (.aload_n 0, 1) by decide +kernel) ?_
    refine md_g51 (pc := 84) hC (show decode prog_15_method_67_code 84 = .ok (.getfield 66, 3) by decide +kernel) ?_
    refine dc_iloadn (pc := 87) (j := 1) (i := 1) hC 1 rfl rfl (show decode prog_15_method_67_code 87 = .ok (.iload_n 1, 1) by decide +kernel) ?_
    refine md_l51 (pc := 88) hC (show decode prog_15_method_67_code 88 = .ok (.iaload, 1) by decide +kernel) h ?_
    intro j2 h
    refine dc_iconst (pc := 89) (v := 1) hC (show decode prog_15_method_67_code 89 = .ok (.iconst 1, 1) by decide +kernel) (by decide +kernel) ?_
    refine dc_icmp_ne (pc := 90) (tgt := 109) hC (show decode prog_15_method_67_code 90 = .ok (.if_icmp .ne 19, 3) by decide +kernel) (by decide +kernel) h ?_ ?_
    · intro h
      refine dc_iloadn (pc := 93) (j := 2) (i := 2) hC 2 rfl rfl (show decode prog_15_method_67_code 93 = .ok (.iload_n 2, 1) by decide +kernel) ?_
      refine dc_if_eq (pc := 94) (tgt := 109) hC (show decode prog_15_method_67_code 94 = .ok (.ifCond .eq 15, 3) by decide +kernel) (by decide +kernel) h ?_ ?_
      · intro h
        exact dc_sub [0, 2, 3] rfl (lab_109 S x2 x3 h)
      · intro h
        refine dc_aloadn (pc := 97) (j := 0) (i := 0) hC 0 rfl rfl (show decode prog_15_method_67_code 97 = .ok (.aload_n 0, 1) by decide +kernel) ?_
        refine md_g75 (pc := 98) hC (show decode prog_15_method_67_code 98 = .ok (.getfield 139, 3) by decide +kernel) ?_
        refine dc_aloadn (pc := 101) (j := 0) (i := 0) hC 0 rfl rfl (show decode prog_15_method_67_code 101 = .ok (.aload_n 0, 1) by decide +kernel) ?_
        refine md_g54 (pc := 102) hC (show decode prog_15_method_67_code 102 = .ok (.getfield 75, 3) by decide +kernel) ?_
        refine dc_iloadn (pc := 105) (j := 1) (i := 1) hC 1 rfl rfl (show decode prog_15_method_67_code 105 = .ok (.iload_n 1, 1) by decide +kernel) ?_
        refine md_l54 (pc := 106) hC (show decode prog_15_method_67_code 106 = .ok (.iaload, 1) by decide +kernel) h ?_
        intro j3 h
        refine dc_iconst (pc := 107) (v := 1) hC (show decode prog_15_method_67_code 107 = .ok (.iconst 1, 1) by decide +kernel) (by decide +kernel) ?_
        refine md_s75 (pc := 108) hC (Or.inr rfl) (show decode prog_15_method_67_code 108 = .ok (.bastore, 1) by decide +kernel) h ?_
        intro j4 h
        refine dc_letS h ?_
        intro S5 h
        exact dc_sub [0, 2, 3] rfl (lab_109 S5 x2 x3 h)
    · intro h
      exact dc_sub [0, 2, 3] rfl (lab_109 S x2 x3 h)
  have lab_35 : ∀ (S : md_S) (x1 : Int32) (x2 : Int32) (y0 : Int32), dc_wp (mm_simple_IZ_L35 S x1 x2 y0) F → dc_G X l { frames := 1, cells := 0, slots := 0, locals := 22 } D 4 0 0 (md_W o a ca S) 35 [(0, .ref o), (1, .int x1), (2, .int x2)] [.int y0] := by
    intro S x1 x2 y0 h
    delta mm_simple_IZ_L35 at h
    refine dc_istoren (pc := 35) (j := 3) (i := 3) (lv' := [(3, .int y0), (0, .ref o), (1, .int x1), (2, .int x2)]) hC rfl (Nat.le_of_ble_eq_true rfl) rfl (show decode prog_15_method_67_code 35 = .ok (.istore_n 3, 1) by decide +kernel) ?_
    refine dc_aloadn (pc := 36) (j := 0) (i := 0) hC 1 rfl rfl (show decode prog_15_method_67_code 36 = .ok (.aload_n 0, 1) by decide +kernel) ?_
    refine md_g51 (pc := 37) hC (show decode prog_15_method_67_code 37 = .ok (.getfield 66, 3) by decide +kernel) ?_
    refine dc_iloadn (pc := 40) (j := 1) (i := 1) hC 2 rfl rfl (show decode prog_15_method_67_code 40 = .ok (.iload_n 1, 1) by decide +kernel) ?_
    refine md_l51 (pc := 41) hC (show decode prog_15_method_67_code 41 = .ok (.iaload, 1) by decide +kernel) h ?_
    intro j6 h
    refine dc_iconst (pc := 42) (v := 2) hC (show decode prog_15_method_67_code 42 = .ok (.iconst 2, 1) by decide +kernel) (by decide +kernel) ?_
    refine dc_icmp_ne (pc := 43) (tgt := 83) hC (show decode prog_15_method_67_code 43 = .ok (.if_icmp .ne 40, 3) by decide +kernel) (by decide +kernel) h ?_ ?_
    · intro h
      refine dc_aloadn (pc := 46) (j := 0) (i := 0) hC 1 rfl rfl (show decode prog_15_method_67_code 46 = .ok (.aload_n 0, 1) by decide +kernel) ?_
      refine md_g72 (pc := 47) hC (show decode prog_15_method_67_code 47 = .ok (.getfield 130, 3) by decide +kernel) ?_
      refine dc_aloadn (pc := 50) (j := 0) (i := 0) hC 1 rfl rfl (show decode prog_15_method_67_code 50 = .ok (.aload_n 0, 1) by decide +kernel) ?_
      refine md_g73 (pc := 51) hC (show decode prog_15_method_67_code 51 = .ok (.getfield 133, 3) by decide +kernel) ?_
      refine dc_aloadn (pc := 54) (j := 0) (i := 0) hC 1 rfl rfl (show decode prog_15_method_67_code 54 = .ok (.aload_n 0, 1) by decide +kernel) ?_
      refine md_g54 (pc := 55) hC (show decode prog_15_method_67_code 55 = .ok (.getfield 75, 3) by decide +kernel) ?_
      refine dc_iloadn (pc := 58) (j := 1) (i := 1) hC 2 rfl rfl (show decode prog_15_method_67_code 58 = .ok (.iload_n 1, 1) by decide +kernel) ?_
      refine md_l54 (pc := 59) hC (show decode prog_15_method_67_code 59 = .ok (.iaload, 1) by decide +kernel) h ?_
      intro j7 h
      refine md_l73 (pc := 60) hC (show decode prog_15_method_67_code 60 = .ok (.iaload, 1) by decide +kernel) h ?_
      intro j8 h
      refine dc_iconst (pc := 61) (v := 1) hC (show decode prog_15_method_67_code 61 = .ok (.iconst 1, 1) by decide +kernel) (by decide +kernel) ?_
      refine md_s72 (pc := 62) hC (Or.inr rfl) (show decode prog_15_method_67_code 62 = .ok (.bastore, 1) by decide +kernel) h ?_
      intro j9 h
      refine dc_letS h ?_
      intro S10 h
      refine dc_aloadn (pc := 63) (j := 0) (i := 0) hC 1 rfl rfl (show decode prog_15_method_67_code 63 = .ok (.aload_n 0, 1) by decide +kernel) ?_
      refine md_g71 (pc := 64) hC (show decode prog_15_method_67_code 64 = .ok (.getfield 126, 3) by decide +kernel) ?_
      refine dc_aloadn (pc := 67) (j := 0) (i := 0) hC 1 rfl rfl (show decode prog_15_method_67_code 67 = .ok (.aload_n 0, 1) by decide +kernel) ?_
      refine md_g73 (pc := 68) hC (show decode prog_15_method_67_code 68 = .ok (.getfield 133, 3) by decide +kernel) ?_
      refine dc_aloadn (pc := 71) (j := 0) (i := 0) hC 1 rfl rfl (show decode prog_15_method_67_code 71 = .ok (.aload_n 0, 1) by decide +kernel) ?_
      refine md_g54 (pc := 72) hC (show decode prog_15_method_67_code 72 = .ok (.getfield 75, 3) by decide +kernel) ?_
      refine dc_iloadn (pc := 75) (j := 1) (i := 1) hC 2 rfl rfl (show decode prog_15_method_67_code 75 = .ok (.iload_n 1, 1) by decide +kernel) ?_
      refine md_l54 (pc := 76) hC (show decode prog_15_method_67_code 76 = .ok (.iaload, 1) by decide +kernel) h ?_
      intro j11 h
      refine md_l73 (pc := 77) hC (show decode prog_15_method_67_code 77 = .ok (.iaload, 1) by decide +kernel) h ?_
      intro j12 h
      refine dc_dup2 (pc := 78) hC (show decode prog_15_method_67_code 78 = .ok (.dup2, 1) by decide +kernel) rfl rfl ?_
      refine md_l71 (pc := 79) hC (show decode prog_15_method_67_code 79 = .ok (.baload, 1) by decide +kernel) h ?_
      intro j13 h
      refine dc_iloadn (pc := 80) (j := 2) (i := 2) hC 3 rfl rfl (show decode prog_15_method_67_code 80 = .ok (.iload_n 2, 1) by decide +kernel) ?_
      refine dc_ior (pc := 81) hC (show decode prog_15_method_67_code 81 = .ok (.ior, 1) by decide +kernel) ?_
      obtain ⟨hz14, h⟩ := dc_zb_wp (dc_bind h)
      refine md_s71 (pc := 82) hC hz14 (show decode prog_15_method_67_code 82 = .ok (.bastore, 1) by decide +kernel) h ?_
      intro j15 h
      refine dc_letS h ?_
      intro S16 h
      exact dc_sub [1, 2, 3, 0] rfl (lab_83 S16 x1 x2 y0 h)
    · intro h
      exact dc_sub [1, 2, 3, 0] rfl (lab_83 S x1 x2 y0 h)
  show dc_G X l { frames := 1, cells := 0, slots := 0, locals := 22 } D 4 0 0 (md_W o a ca S) 0 [(0, .ref o), (1, .int p1), (2, .int p2)] []
  delta mm_simple_IZ at h
  refine dc_aloadn (pc := 0) (j := 0) (i := 0) hC 0 rfl rfl (show decode prog_15_method_67_code 0 = .ok (.aload_n 0, 1) by decide +kernel) ?_
  refine md_g51 (pc := 1) hC (show decode prog_15_method_67_code 1 = .ok (.getfield 66, 3) by decide +kernel) ?_
  refine dc_iloadn (pc := 4) (j := 1) (i := 1) hC 1 rfl rfl (show decode prog_15_method_67_code 4 = .ok (.iload_n 1, 1) by decide +kernel) ?_
  refine md_l51 (pc := 5) hC (show decode prog_15_method_67_code 5 = .ok (.iaload, 1) by decide +kernel) h ?_
  intro j17 h
  refine dc_iconst (pc := 6) (v := 1) hC (show decode prog_15_method_67_code 6 = .ok (.iconst 1, 1) by decide +kernel) (by decide +kernel) ?_
  refine dc_icmp_ne (pc := 7) (tgt := 14) hC (show decode prog_15_method_67_code 7 = .ok (.if_icmp .ne 7, 3) by decide +kernel) (by decide +kernel) h ?_ ?_
  · intro h
    refine dc_iconst (pc := 10) (v := 1) hC (show decode prog_15_method_67_code 10 = .ok (.iconst 1, 1) by decide +kernel) (by decide +kernel) ?_
    refine dc_goto (pc := 11) (tgt := 35) hC (show decode prog_15_method_67_code 11 = .ok (.goto 24, 3) by decide +kernel) (by decide +kernel) ?_
    exact lab_35 S p1 p2 1 h
  · intro h
    refine dc_aloadn (pc := 14) (j := 0) (i := 0) hC 0 rfl rfl (show decode prog_15_method_67_code 14 = .ok (.aload_n 0, 1) by decide +kernel) ?_
    refine md_g51 (pc := 15) hC (show decode prog_15_method_67_code 15 = .ok (.getfield 66, 3) by decide +kernel) ?_
    refine dc_iloadn (pc := 18) (j := 1) (i := 1) hC 1 rfl rfl (show decode prog_15_method_67_code 18 = .ok (.iload_n 1, 1) by decide +kernel) ?_
    refine md_l51 (pc := 19) hC (show decode prog_15_method_67_code 19 = .ok (.iaload, 1) by decide +kernel) h ?_
    intro j18 h
    refine dc_bipush (pc := 20) (v := 9) hC (show decode prog_15_method_67_code 20 = .ok (.bipush 9, 2) by decide +kernel) (by decide +kernel) ?_
    refine dc_icmp_ne (pc := 22) (tgt := 34) hC (show decode prog_15_method_67_code 22 = .ok (.if_icmp .ne 12, 3) by decide +kernel) (by decide +kernel) h ?_ ?_
    · intro h
      refine dc_aloadn (pc := 25) (j := 0) (i := 0) hC 0 rfl rfl (show decode prog_15_method_67_code 25 = .ok (.aload_n 0, 1) by decide +kernel) ?_
      refine md_g54 (pc := 26) hC (show decode prog_15_method_67_code 26 = .ok (.getfield 75, 3) by decide +kernel) ?_
      refine dc_iloadn (pc := 29) (j := 1) (i := 1) hC 1 rfl rfl (show decode prog_15_method_67_code 29 = .ok (.iload_n 1, 1) by decide +kernel) ?_
      refine md_l54 (pc := 30) hC (show decode prog_15_method_67_code 30 = .ok (.iaload, 1) by decide +kernel) h ?_
      intro j19 h
      refine dc_goto (pc := 31) (tgt := 35) hC (show decode prog_15_method_67_code 31 = .ok (.goto 4, 3) by decide +kernel) (by decide +kernel) ?_
      exact lab_35 S p1 p2 (S.2.1 54 j19) h
    · intro h
      refine dc_iconst (pc := 34) (v := 0) hC (show decode prog_15_method_67_code 34 = .ok (.iconst 0, 1) by decide +kernel) (by decide +kernel) ?_
      exact lab_35 S p1 p2 0 h
noncomputable def mm_has_L35 (S : md_S) (y0 : Int32) : Option (Int32) :=
  (dc_zb y0).bind fun _ => some y0
noncomputable def mm_has (S : md_S) (p1 : Int32) : Option (Int32) :=
  (dc_ix p1 1200).bind fun j2 => (dc_ix (S.2.1 59 j2) 1201).bind fun j3 => (dc_ix (S.2.1 62 j3) 201).bind fun j4 => (dc_ix p1 1201).bind fun j5 => (dc_ix (S.2.1 62 j5) 201).bind fun j6 => if (S.2.1 76 j6) < (S.2.1 76 j4) then (mm_has_L35 S 1) else (mm_has_L35 S 0)
set_option maxHeartbeats 4000000 in
set_option maxRecDepth 100000 in
/-- has(I)Z -/
theorem mm_has_ok (l : Launch) (D : va_G) (ad : Nat → Nat) (de : Nat) (o : Nat) (a : Nat → Nat) (ca : Nat → ClassId) (S : md_S) (p1 : Int32) (F : Int32 → Prop) (h : dc_wp (mm_has S p1) F) : dc_Ci l ⟨"SignalEngineModel", "has", "(I)Z"⟩ prog_15_method_64_code 2 (some (.boolean)) 0 0 D (md_T ca) ad de [.ref o, .int p1] (md_W o a ca S) (fun r w => ∃ q, F q ∧ r = q ∧ w = (md_W o a ca S)) 0 0 := by
  refine dc_enteri (by decide +kernel) (Nat.le_of_ble_eq_true rfl) ?_
  intro X hC hR
  have lab_35 : ∀ (y0 : Int32), dc_wp (mm_has_L35 S y0) F → dc_G X l { frames := 0, cells := 0, slots := 0, locals := 0 } D 2 0 0 (md_W o a ca S) 35 [(0, .ref o)] [.int y0] := by
    intro y0 h
    delta mm_has_L35 at h
    obtain ⟨hz1, h⟩ := dc_zb_wp (dc_bind h)
    exact dc_zret (pc := 35) hC hR hz1 ⟨_, dc_some h, rfl, rfl⟩ (show decode prog_15_method_64_code 35 = .ok (.ireturn, 1) by decide +kernel)
  show dc_G X l { frames := 0, cells := 0, slots := 0, locals := 0 } D 2 0 0 (md_W o a ca S) 0 [(0, .ref o), (1, .int p1)] []
  delta mm_has at h
  refine dc_aloadn (pc := 0) (j := 0) (i := 0) hC 0 rfl rfl (show decode prog_15_method_64_code 0 = .ok (.aload_n 0, 1) by decide +kernel) ?_
  refine md_g76 (pc := 1) hC (show decode prog_15_method_64_code 1 = .ok (.getfield 142, 3) by decide +kernel) ?_
  refine dc_aloadn (pc := 4) (j := 0) (i := 0) hC 0 rfl rfl (show decode prog_15_method_64_code 4 = .ok (.aload_n 0, 1) by decide +kernel) ?_
  refine md_g62 (pc := 5) hC (show decode prog_15_method_64_code 5 = .ok (.getfield 99, 3) by decide +kernel) ?_
  refine dc_aloadn (pc := 8) (j := 0) (i := 0) hC 0 rfl rfl (show decode prog_15_method_64_code 8 = .ok (.aload_n 0, 1) by decide +kernel) ?_
  refine md_g59 (pc := 9) hC (show decode prog_15_method_64_code 9 = .ok (.getfield 90, 3) by decide +kernel) ?_
  refine dc_iloadn (pc := 12) (j := 1) (i := 1) hC 1 rfl rfl (show decode prog_15_method_64_code 12 = .ok (.iload_n 1, 1) by decide +kernel) ?_
  refine md_l59 (pc := 13) hC (show decode prog_15_method_64_code 13 = .ok (.iaload, 1) by decide +kernel) h ?_
  intro j2 h
  refine md_l62 (pc := 14) hC (show decode prog_15_method_64_code 14 = .ok (.iaload, 1) by decide +kernel) h ?_
  intro j3 h
  refine md_l76 (pc := 15) hC (show decode prog_15_method_64_code 15 = .ok (.iaload, 1) by decide +kernel) h ?_
  intro j4 h
  refine dc_aloadn (pc := 16) (j := 0) (i := 0) hC 0 rfl rfl (show decode prog_15_method_64_code 16 = .ok (.aload_n 0, 1) by decide +kernel) ?_
  refine md_g76 (pc := 17) hC (show decode prog_15_method_64_code 17 = .ok (.getfield 142, 3) by decide +kernel) ?_
  refine dc_aloadn (pc := 20) (j := 0) (i := 0) hC 0 rfl rfl (show decode prog_15_method_64_code 20 = .ok (.aload_n 0, 1) by decide +kernel) ?_
  refine md_g62 (pc := 21) hC (show decode prog_15_method_64_code 21 = .ok (.getfield 99, 3) by decide +kernel) ?_
  refine dc_iloadn (pc := 24) (j := 1) (i := 1) hC 1 rfl rfl (show decode prog_15_method_64_code 24 = .ok (.iload_n 1, 1) by decide +kernel) ?_
  refine md_l62 (pc := 25) hC (show decode prog_15_method_64_code 25 = .ok (.iaload, 1) by decide +kernel) h ?_
  intro j5 h
  refine md_l76 (pc := 26) hC (show decode prog_15_method_64_code 26 = .ok (.iaload, 1) by decide +kernel) h ?_
  intro j6 h
  refine dc_icmp_le (pc := 27) (tgt := 34) hC (show decode prog_15_method_64_code 27 = .ok (.if_icmp .le 7, 3) by decide +kernel) (by decide +kernel) h ?_ ?_
  · intro h
    refine dc_iconst (pc := 30) (v := 1) hC (show decode prog_15_method_64_code 30 = .ok (.iconst 1, 1) by decide +kernel) (by decide +kernel) ?_
    refine dc_goto (pc := 31) (tgt := 35) hC (show decode prog_15_method_64_code 31 = .ok (.goto 4, 3) by decide +kernel) (by decide +kernel) ?_
    exact dc_sub [0] rfl (lab_35 1 h)
  · intro h
    refine dc_iconst (pc := 34) (v := 0) hC (show decode prog_15_method_64_code 34 = .ok (.iconst 0, 1) by decide +kernel) (by decide +kernel) ?_
    exact dc_sub [0] rfl (lab_35 0 h)
noncomputable def mm_truth_L197 (S : md_S) (x1 : Int32) : Option (md_S × Int32) :=
  (dc_ix x1 1000).bind fun j1 => some (S, (S.2.1 67 j1))
noncomputable def mm_truth_L190 (S : md_S) (x1 : Int32) (x2 : Int32) (y0 : Int32) (y1 : Int32) : Option ((md_S × Int32) ⊕ ((md_S))) :=
  (dc_ix y1 1000).bind fun j2 => dc_let (md_a S 67 j2 y0) fun S3 => some (.inl (S3, (x2 + (-1))))
noncomputable def mm_truth_L182 (S : md_S) (x1 : Int32) (x2 : Int32) (y0 : Int32) : Option ((md_S × Int32) ⊕ ((md_S))) :=
  mm_truth_L190 S x1 x2 2 y0
noncomputable def mm_truth_L166 (S : md_S) (x1 : Int32) (x2 : Int32) (x5 : Int32) (y0 : Int32) : Option ((md_S × Int32) ⊕ ((md_S))) :=
  mm_truth_L190 S x1 x2 x5 y0
noncomputable def mm_truth_L113 (S : md_S) (x1 : Int32) (x2 : Int32) (x3 : Int32) (x4 : Int32) (x5 : Int32) (y0 : Int32) : Option ((md_S × Int32) ⊕ ((md_S))) :=
  (dc_ix x2 1000).bind fun j4 => if (S.2.1 63 j4) = 0 then (mm_truth_L190 S x1 x2 x3 x2) else (if y0 = 0 then (if x3 = 2 then (mm_truth_L190 S x1 x2 x3 x2) else (mm_truth_L190 S x1 x2 (1 - x3) x2)) else (if x3 = x5 then (mm_truth_L166 S x1 x2 x5 x2) else (if x4 = x5 then (mm_truth_L166 S x1 x2 x5 x2) else (if x3 = 2 then (mm_truth_L182 S x1 x2 x2) else (if x4 = 2 then (mm_truth_L182 S x1 x2 x2) else (mm_truth_L190 S x1 x2 (1 - x5) x2))))))
noncomputable def mm_truth_L96 (S : md_S) (x1 : Int32) (x2 : Int32) (x3 : Int32) (x4 : Int32) (y0 : Int32) : Option ((md_S × Int32) ⊕ ((md_S))) :=
  (dc_ix x2 1000).bind fun j5 => if (1 : Int32) < (S.2.1 63 j5) then (mm_truth_L113 S x1 x2 x3 x4 y0 1) else (mm_truth_L113 S x1 x2 x3 x4 y0 0)
noncomputable def mm_truth_L79 (S : md_S) (x1 : Int32) (x2 : Int32) (x3 : Int32) (y0 : Int32) : Option ((md_S × Int32) ⊕ ((md_S))) :=
  (dc_ix x2 1000).bind fun j6 => if (S.2.1 63 j6) = 2 then (mm_truth_L96 S x1 x2 x3 y0 0) else (mm_truth_L96 S x1 x2 x3 y0 1)
noncomputable def mm_truth_L53 (S : md_S) (x1 : Int32) (x2 : Int32) (y0 : Int32) : Option ((md_S × Int32) ⊕ ((md_S))) :=
  (dc_ix x2 1000).bind fun j7 => if (1 : Int32) < (S.2.1 63 j7) then ((dc_ix x2 1000).bind fun j8 => (dc_ix (S.2.1 65 j8) 1000).bind fun j9 => mm_truth_L79 S x1 x2 y0 (S.2.1 67 j9)) else (mm_truth_L79 S x1 x2 y0 0)
noncomputable def mm_truth_b9 (S : md_S) (x1 : Int32) (x2 : Int32) : Option ((md_S × Int32) ⊕ ((md_S))) :=
  if x2 < x1 then (some (.inr S)) else ((dc_ix x2 1000).bind fun j10 => if (S.2.1 63 j10) = 0 then ((dc_ix x2 1000).bind fun j11 => (dc_ix (S.2.1 64 j11) 400).bind fun j12 => (dc_ix (S.2.1 73 j12) 1662).bind fun j13 => mm_truth_L53 S x1 x2 (S.2.1 70 j13)) else ((dc_ix x2 1000).bind fun j14 => (dc_ix (S.2.1 64 j14) 1000).bind fun j15 => mm_truth_L53 S x1 x2 (S.2.1 67 j15)))
noncomputable def mm_truth_s9 (x1 : Int32) (q : md_S × Int32) : Option ((md_S × Int32) ⊕ ((md_S))) :=
  mm_truth_b9 q.1 x1 q.2
noncomputable def mm_truth_L9 (S : md_S) (x1 : Int32) (x2 : Int32) : Option (md_S × Int32) :=
  (dc_it (mm_truth_s9 x1) (S, x2)).bind (fun (z : md_S) => mm_truth_L197 z x1)
noncomputable def mm_truth (S : md_S) (p1 : Int32) : Option (md_S × Int32) :=
  (dc_ix p1 1000).bind fun j16 => dc_let (((S.2.1 66 j16) - 1) : Int32) fun v17 => mm_truth_L9 S p1 v17
set_option maxHeartbeats 4000000 in
set_option maxRecDepth 100000 in
/-- truth(I)I -/
theorem mm_truth_ok (l : Launch) (D : va_G) (ad : Nat → Nat) (de : Nat) (o : Nat) (a : Nat → Nat) (ca : Nat → ClassId) (S : md_S) (p1 : Int32) (F : (md_S × Int32) → Prop) (h : dc_wp (mm_truth S p1) F) : dc_Ci l ⟨"SignalEngineModel", "truth", "(I)I"⟩ prog_15_method_65_code 7 (some (.int)) 0 0 D (md_T ca) ad de [.ref o, .int p1] (md_W o a ca S) (fun r w => ∃ q, F q ∧ r = q.2 ∧ w = md_W o a ca q.1) 0 0 := by
  refine dc_enteri (by decide +kernel) (Nat.le_of_ble_eq_true rfl) ?_
  intro X hC hR
  have lab_197 : ∀ (S : md_S) (x1 : Int32), dc_wp (mm_truth_L197 S x1) F → dc_G X l { frames := 0, cells := 0, slots := 0, locals := 0 } D 7 0 0 (md_W o a ca S) 197 [(0, .ref o), (1, .int x1)] [] := by
    intro S x1 h
    delta mm_truth_L197 at h
    refine dc_aloadn (pc := 197) (j := 0) (i := 0) hC 0 rfl rfl (show decode prog_15_method_65_code 197 = .ok (.aload_n 0, 1) by decide +kernel) ?_
    refine md_g67 (pc := 198) hC (show decode prog_15_method_65_code 198 = .ok (.getfield 114, 3) by decide +kernel) ?_
    refine dc_iloadn (pc := 201) (j := 1) (i := 1) hC 1 rfl rfl (show decode prog_15_method_65_code 201 = .ok (.iload_n 1, 1) by decide +kernel) ?_
    refine md_l67 (pc := 202) hC (show decode prog_15_method_65_code 202 = .ok (.iaload, 1) by decide +kernel) h ?_
    intro j1 h
    exact dc_iret (pc := 203) hC hR ⟨_, dc_some h, rfl, rfl⟩ (show decode prog_15_method_65_code 203 = .ok (.ireturn, 1) by decide +kernel)
  have loop_9 : ∀ (x1 : Int32) (q : md_S × Int32), dc_wp (dc_it (mm_truth_s9 x1) q) (fun z => dc_wp ((fun (z : md_S) => mm_truth_L197 z x1) z) F) → dc_G X l { frames := 0, cells := 0, slots := 0, locals := 0 } D 7 0 0 (md_W o a ca q.1) 9 [(0, .ref o), (1, .int x1), (2, .int q.2)] [] := by
    intro x1
    refine dc_loopF ?_
    intro F_9 hl_9 hr_9
    have lab_190 : ∀ (S : md_S) (x2 : Int32) (y0 : Int32) (y1 : Int32), dc_wp (mm_truth_L190 S x1 x2 y0 y1) F_9 → dc_G X l { frames := 0, cells := 0, slots := 0, locals := 0 } D 7 0 0 (md_W o a ca S) 190 [(0, .ref o), (1, .int x1), (2, .int x2)] [.int y0, .int y1, .ref (a 67)] := by
      intro S x2 y0 y1 h
      delta mm_truth_L190 at h
      refine md_s67 (pc := 190) hC (show decode prog_15_method_65_code 190 = .ok (.iastore, 1) by decide +kernel) h ?_
      intro j2 h
      refine dc_letS h ?_
      intro S3 h
      refine dc_iinc (pc := 191) (i := 2) (v := (x2 + (-1))) (lv' := [(2, .int (x2 + (-1))), (0, .ref o), (1, .int x1)]) hC 2 rfl (congrArg (fun z => x2 + z) (show Int32.ofInt (-1) = (-1 : Int32) by decide +kernel)) (Nat.le_of_ble_eq_true rfl) rfl (show decode prog_15_method_65_code 191 = .ok (.iinc 2 (-1), 3) by decide +kernel) ?_
      refine dc_goto (pc := 194) (tgt := 9) hC (show decode prog_15_method_65_code 194 = .ok (.goto (-185), 3) by decide +kernel) (by decide +kernel) ?_
      exact dc_sub [1, 2, 0] rfl (hl_9 (S3, (x2 + (-1))) (dc_some h))
    have lab_182 : ∀ (S : md_S) (x2 : Int32) (y0 : Int32), dc_wp (mm_truth_L182 S x1 x2 y0) F_9 → dc_G X l { frames := 0, cells := 0, slots := 0, locals := 0 } D 7 0 0 (md_W o a ca S) 182 [(0, .ref o), (1, .int x1), (2, .int x2)] [.int y0, .ref (a 67)] := by
      intro S x2 y0 h
      delta mm_truth_L182 at h
      refine dc_iconst (pc := 182) (v := 2) hC (show decode prog_15_method_65_code 182 = .ok (.iconst 2, 1) by decide +kernel) (by decide +kernel) ?_
      refine dc_goto (pc := 183) (tgt := 190) hC (show decode prog_15_method_65_code 183 = .ok (.goto 7, 3) by decide +kernel) (by decide +kernel) ?_
      exact lab_190 S x2 2 y0 h
    have lab_166 : ∀ (S : md_S) (x2 : Int32) (x5 : Int32) (y0 : Int32), dc_wp (mm_truth_L166 S x1 x2 x5 y0) F_9 → dc_G X l { frames := 0, cells := 0, slots := 0, locals := 0 } D 7 0 0 (md_W o a ca S) 166 [(0, .ref o), (1, .int x1), (2, .int x2), (5, .int x5)] [.int y0, .ref (a 67)] := by
      intro S x2 x5 y0 h
      delta mm_truth_L166 at h
      refine dc_iload (pc := 166) (i := 5) hC 3 rfl (show decode prog_15_method_65_code 166 = .ok (.iload 5, 2) by decide +kernel) ?_
      refine dc_goto (pc := 168) (tgt := 190) hC (show decode prog_15_method_65_code 168 = .ok (.goto 22, 3) by decide +kernel) (by decide +kernel) ?_
      exact dc_sub [0, 1, 2] rfl (lab_190 S x2 x5 y0 h)
    have lab_113 : ∀ (S : md_S) (x2 : Int32) (x3 : Int32) (x4 : Int32) (x5 : Int32) (y0 : Int32), dc_wp (mm_truth_L113 S x1 x2 x3 x4 x5 y0) F_9 → dc_G X l { frames := 0, cells := 0, slots := 0, locals := 0 } D 7 0 0 (md_W o a ca S) 113 [(0, .ref o), (1, .int x1), (2, .int x2), (3, .int x3), (4, .int x4), (5, .int x5)] [.int y0] := by
      intro S x2 x3 x4 x5 y0 h
      delta mm_truth_L113 at h
      refine dc_istore (pc := 113) (i := 6) (lv' := [(6, .int y0), (0, .ref o), (1, .int x1), (2, .int x2), (3, .int x3), (4, .int x4), (5, .int x5)]) hC (Nat.le_of_ble_eq_true rfl) rfl (show decode prog_15_method_65_code 113 = .ok (.istore 6, 2) by decide +kernel) ?_
      refine dc_aloadn (pc := 115) (j := 0) (i := 0) hC 1 rfl rfl (show decode prog_15_method_65_code 115 = .ok (.aload_n 0, 1) by decide +kernel) ?_
      refine md_g67 (pc := 116) hC (show decode prog_15_method_65_code 116 = .ok (.getfield 114, 3) by decide +kernel) ?_
      refine dc_iloadn (pc := 119) (j := 2) (i := 2) hC 3 rfl rfl (show decode prog_15_method_65_code 119 = .ok (.iload_n 2, 1) by decide +kernel) ?_
      refine dc_aloadn (pc := 120) (j := 0) (i := 0) hC 1 rfl rfl (show decode prog_15_method_65_code 120 = .ok (.aload_n 0, 1) by decide +kernel) ?_
      refine md_g63 (pc := 121) hC (show decode prog_15_method_65_code 121 = .ok (.getfield 102, 3) by decide +kernel) ?_
      refine dc_iloadn (pc := 124) (j := 2) (i := 2) hC 3 rfl rfl (show decode prog_15_method_65_code 124 = .ok (.iload_n 2, 1) by decide +kernel) ?_
      refine md_l63 (pc := 125) hC (show decode prog_15_method_65_code 125 = .ok (.iaload, 1) by decide +kernel) h ?_
      intro j4 h
      refine dc_if_ne (pc := 126) (tgt := 133) hC (show decode prog_15_method_65_code 126 = .ok (.ifCond .ne 7, 3) by decide +kernel) (by decide +kernel) h ?_ ?_
      · intro h
        refine dc_iloadn (pc := 129) (j := 3) (i := 3) hC 4 rfl rfl (show decode prog_15_method_65_code 129 = .ok (.iload_n 3, 1) by decide +kernel) ?_
        refine dc_goto (pc := 130) (tgt := 190) hC (show decode prog_15_method_65_code 130 = .ok (.goto 60, 3) by decide +kernel) (by decide +kernel) ?_
        exact dc_sub [1, 2, 3] rfl (lab_190 S x2 x3 x2 h)
      · intro h
        refine dc_iload (pc := 133) (i := 6) hC 0 rfl (show decode prog_15_method_65_code 133 = .ok (.iload 6, 2) by decide +kernel) ?_
        refine dc_if_ne (pc := 135) (tgt := 153) hC (show decode prog_15_method_65_code 135 = .ok (.ifCond .ne 18, 3) by decide +kernel) (by decide +kernel) h ?_ ?_
        · intro h
          refine dc_iloadn (pc := 138) (j := 3) (i := 3) hC 4 rfl rfl (show decode prog_15_method_65_code 138 = .ok (.iload_n 3, 1) by decide +kernel) ?_
          refine dc_iconst (pc := 139) (v := 2) hC (show decode prog_15_method_65_code 139 = .ok (.iconst 2, 1) by decide +kernel) (by decide +kernel) ?_
          refine dc_icmp_ne (pc := 140) (tgt := 147) hC (show decode prog_15_method_65_code 140 = .ok (.if_icmp .ne 7, 3) by decide +kernel) (by decide +kernel) h ?_ ?_
          · intro h
            refine dc_iloadn (pc := 143) (j := 3) (i := 3) hC 4 rfl rfl (show decode prog_15_method_65_code 143 = .ok (.iload_n 3, 1) by decide +kernel) ?_
            refine dc_goto (pc := 144) (tgt := 190) hC (show decode prog_15_method_65_code 144 = .ok (.goto 46, 3) by decide +kernel) (by decide +kernel) ?_
            exact dc_sub [1, 2, 3] rfl (lab_190 S x2 x3 x2 h)
          · intro h
            refine dc_iconst (pc := 147) (v := 1) hC (show decode prog_15_method_65_code 147 = .ok (.iconst 1, 1) by decide +kernel) (by decide +kernel) ?_
            refine dc_iloadn (pc := 148) (j := 3) (i := 3) hC 4 rfl rfl (show decode prog_15_method_65_code 148 = .ok (.iload_n 3, 1) by decide +kernel) ?_
            refine dc_isub (pc := 149) hC (show decode prog_15_method_65_code 149 = .ok (.isub, 1) by decide +kernel) ?_
            refine dc_goto (pc := 150) (tgt := 190) hC (show decode prog_15_method_65_code 150 = .ok (.goto 40, 3) by decide +kernel) (by decide +kernel) ?_
            exact dc_sub [1, 2, 3] rfl (lab_190 S x2 (1 - x3) x2 h)
        · intro h
          refine dc_iloadn (pc := 153) (j := 3) (i := 3) hC 4 rfl rfl (show decode prog_15_method_65_code 153 = .ok (.iload_n 3, 1) by decide +kernel) ?_
          refine dc_iload (pc := 154) (i := 5) hC 6 rfl (show decode prog_15_method_65_code 154 = .ok (.iload 5, 2) by decide +kernel) ?_
          refine dc_icmp_eq (pc := 156) (tgt := 166) hC (show decode prog_15_method_65_code 156 = .ok (.if_icmp .eq 10, 3) by decide +kernel) (by decide +kernel) h ?_ ?_
          · intro h
            exact dc_sub [1, 2, 3, 6] rfl (lab_166 S x2 x5 x2 h)
          · intro h
            refine dc_iload (pc := 159) (i := 4) hC 5 rfl (show decode prog_15_method_65_code 159 = .ok (.iload 4, 2) by decide +kernel) ?_
            refine dc_iload (pc := 161) (i := 5) hC 6 rfl (show decode prog_15_method_65_code 161 = .ok (.iload 5, 2) by decide +kernel) ?_
            refine dc_icmp_ne (pc := 163) (tgt := 171) hC (show decode prog_15_method_65_code 163 = .ok (.if_icmp .ne 8, 3) by decide +kernel) (by decide +kernel) h ?_ ?_
            · intro h
              exact dc_sub [1, 2, 3, 6] rfl (lab_166 S x2 x5 x2 h)
            · intro h
              refine dc_iloadn (pc := 171) (j := 3) (i := 3) hC 4 rfl rfl (show decode prog_15_method_65_code 171 = .ok (.iload_n 3, 1) by decide +kernel) ?_
              refine dc_iconst (pc := 172) (v := 2) hC (show decode prog_15_method_65_code 172 = .ok (.iconst 2, 1) by decide +kernel) (by decide +kernel) ?_
              refine dc_icmp_eq (pc := 173) (tgt := 182) hC (show decode prog_15_method_65_code 173 = .ok (.if_icmp .eq 9, 3) by decide +kernel) (by decide +kernel) h ?_ ?_
              · intro h
                exact dc_sub [1, 2, 3] rfl (lab_182 S x2 x2 h)
              · intro h
                refine dc_iload (pc := 176) (i := 4) hC 5 rfl (show decode prog_15_method_65_code 176 = .ok (.iload 4, 2) by decide +kernel) ?_
                refine dc_iconst (pc := 178) (v := 2) hC (show decode prog_15_method_65_code 178 = .ok (.iconst 2, 1) by decide +kernel) (by decide +kernel) ?_
                refine dc_icmp_ne (pc := 179) (tgt := 186) hC (show decode prog_15_method_65_code 179 = .ok (.if_icmp .ne 7, 3) by decide +kernel) (by decide +kernel) h ?_ ?_
                · intro h
                  exact dc_sub [1, 2, 3] rfl (lab_182 S x2 x2 h)
                · intro h
                  refine dc_iconst (pc := 186) (v := 1) hC (show decode prog_15_method_65_code 186 = .ok (.iconst 1, 1) by decide +kernel) (by decide +kernel) ?_
                  refine dc_iload (pc := 187) (i := 5) hC 6 rfl (show decode prog_15_method_65_code 187 = .ok (.iload 5, 2) by decide +kernel) ?_
                  refine dc_isub (pc := 189) hC (show decode prog_15_method_65_code 189 = .ok (.isub, 1) by decide +kernel) ?_
                  exact dc_sub [1, 2, 3] rfl (lab_190 S x2 (1 - x5) x2 h)
    have lab_96 : ∀ (S : md_S) (x2 : Int32) (x3 : Int32) (x4 : Int32) (y0 : Int32), dc_wp (mm_truth_L96 S x1 x2 x3 x4 y0) F_9 → dc_G X l { frames := 0, cells := 0, slots := 0, locals := 0 } D 7 0 0 (md_W o a ca S) 96 [(0, .ref o), (1, .int x1), (2, .int x2), (3, .int x3), (4, .int x4)] [.int y0] := by
      intro S x2 x3 x4 y0 h
      delta mm_truth_L96 at h
      refine dc_istore (pc := 96) (i := 5) (lv' := [(5, .int y0), (0, .ref o), (1, .int x1), (2, .int x2), (3, .int x3), (4, .int x4)]) hC (Nat.le_of_ble_eq_true rfl) rfl (show decode prog_15_method_65_code 96 = .ok (.istore 5, 2) by decide +kernel) ?_
      refine dc_aloadn (pc := 98) (j := 0) (i := 0) hC 1 rfl rfl (show decode prog_15_method_65_code 98 = .ok (.aload_n 0, 1) by decide +kernel) ?_
      refine md_g63 (pc := 99) hC (show decode prog_15_method_65_code 99 = .ok (.getfield 102, 3) by decide +kernel) ?_
      refine dc_iloadn (pc := 102) (j := 2) (i := 2) hC 3 rfl rfl (show decode prog_15_method_65_code 102 = .ok (.iload_n 2, 1) by decide +kernel) ?_
      refine md_l63 (pc := 103) hC (show decode prog_15_method_65_code 103 = .ok (.iaload, 1) by decide +kernel) h ?_
      intro j5 h
      refine dc_iconst (pc := 104) (v := 1) hC (show decode prog_15_method_65_code 104 = .ok (.iconst 1, 1) by decide +kernel) (by decide +kernel) ?_
      refine dc_icmp_le (pc := 105) (tgt := 112) hC (show decode prog_15_method_65_code 105 = .ok (.if_icmp .le 7, 3) by decide +kernel) (by decide +kernel) h ?_ ?_
      · intro h
        refine dc_iconst (pc := 108) (v := 1) hC (show decode prog_15_method_65_code 108 = .ok (.iconst 1, 1) by decide +kernel) (by decide +kernel) ?_
        refine dc_goto (pc := 109) (tgt := 113) hC (show decode prog_15_method_65_code 109 = .ok (.goto 4, 3) by decide +kernel) (by decide +kernel) ?_
        exact dc_sub [1, 2, 3, 4, 5, 0] rfl (lab_113 S x2 x3 x4 y0 1 h)
      · intro h
        refine dc_iconst (pc := 112) (v := 0) hC (show decode prog_15_method_65_code 112 = .ok (.iconst 0, 1) by decide +kernel) (by decide +kernel) ?_
        exact dc_sub [1, 2, 3, 4, 5, 0] rfl (lab_113 S x2 x3 x4 y0 0 h)
    have lab_79 : ∀ (S : md_S) (x2 : Int32) (x3 : Int32) (y0 : Int32), dc_wp (mm_truth_L79 S x1 x2 x3 y0) F_9 → dc_G X l { frames := 0, cells := 0, slots := 0, locals := 0 } D 7 0 0 (md_W o a ca S) 79 [(0, .ref o), (1, .int x1), (2, .int x2), (3, .int x3)] [.int y0] := by
      intro S x2 x3 y0 h
      delta mm_truth_L79 at h
      refine dc_istore (pc := 79) (i := 4) (lv' := [(4, .int y0), (0, .ref o), (1, .int x1), (2, .int x2), (3, .int x3)]) hC (Nat.le_of_ble_eq_true rfl) rfl (show decode prog_15_method_65_code 79 = .ok (.istore 4, 2) by decide +kernel) ?_
      refine dc_aloadn (pc := 81) (j := 0) (i := 0) hC 1 rfl rfl (show decode prog_15_method_65_code 81 = .ok (.aload_n 0, 1) by decide +kernel) ?_
      refine md_g63 (pc := 82) hC (show decode prog_15_method_65_code 82 = .ok (.getfield 102, 3) by decide +kernel) ?_
      refine dc_iloadn (pc := 85) (j := 2) (i := 2) hC 3 rfl rfl (show decode prog_15_method_65_code 85 = .ok (.iload_n 2, 1) by decide +kernel) ?_
      refine md_l63 (pc := 86) hC (show decode prog_15_method_65_code 86 = .ok (.iaload, 1) by decide +kernel) h ?_
      intro j6 h
      refine dc_iconst (pc := 87) (v := 2) hC (show decode prog_15_method_65_code 87 = .ok (.iconst 2, 1) by decide +kernel) (by decide +kernel) ?_
      refine dc_icmp_ne (pc := 88) (tgt := 95) hC (show decode prog_15_method_65_code 88 = .ok (.if_icmp .ne 7, 3) by decide +kernel) (by decide +kernel) h ?_ ?_
      · intro h
        refine dc_iconst (pc := 91) (v := 0) hC (show decode prog_15_method_65_code 91 = .ok (.iconst 0, 1) by decide +kernel) (by decide +kernel) ?_
        refine dc_goto (pc := 92) (tgt := 96) hC (show decode prog_15_method_65_code 92 = .ok (.goto 4, 3) by decide +kernel) (by decide +kernel) ?_
        exact dc_sub [1, 2, 3, 4, 0] rfl (lab_96 S x2 x3 y0 0 h)
      · intro h
        refine dc_iconst (pc := 95) (v := 1) hC (show decode prog_15_method_65_code 95 = .ok (.iconst 1, 1) by decide +kernel) (by decide +kernel) ?_
        exact dc_sub [1, 2, 3, 4, 0] rfl (lab_96 S x2 x3 y0 1 h)
    have lab_53 : ∀ (S : md_S) (x2 : Int32) (y0 : Int32), dc_wp (mm_truth_L53 S x1 x2 y0) F_9 → dc_G X l { frames := 0, cells := 0, slots := 0, locals := 0 } D 7 0 0 (md_W o a ca S) 53 [(0, .ref o), (1, .int x1), (2, .int x2)] [.int y0] := by
      intro S x2 y0 h
      delta mm_truth_L53 at h
      refine dc_istoren (pc := 53) (j := 3) (i := 3) (lv' := [(3, .int y0), (0, .ref o), (1, .int x1), (2, .int x2)]) hC rfl (Nat.le_of_ble_eq_true rfl) rfl (show decode prog_15_method_65_code 53 = .ok (.istore_n 3, 1) by decide +kernel) ?_
      refine dc_aloadn (pc := 54) (j := 0) (i := 0) hC 1 rfl rfl (show decode prog_15_method_65_code 54 = .ok (.aload_n 0, 1) by decide +kernel) ?_
      refine md_g63 (pc := 55) hC (show decode prog_15_method_65_code 55 = .ok (.getfield 102, 3) by decide +kernel) ?_
      refine dc_iloadn (pc := 58) (j := 2) (i := 2) hC 3 rfl rfl (show decode prog_15_method_65_code 58 = .ok (.iload_n 2, 1) by decide +kernel) ?_
      refine md_l63 (pc := 59) hC (show decode prog_15_method_65_code 59 = .ok (.iaload, 1) by decide +kernel) h ?_
      intro j7 h
      refine dc_iconst (pc := 60) (v := 1) hC (show decode prog_15_method_65_code 60 = .ok (.iconst 1, 1) by decide +kernel) (by decide +kernel) ?_
      refine dc_icmp_le (pc := 61) (tgt := 78) hC (show decode prog_15_method_65_code 61 = .ok (.if_icmp .le 17, 3) by decide +kernel) (by decide +kernel) h ?_ ?_
      · intro h
        refine dc_aloadn (pc := 64) (j := 0) (i := 0) hC 1 rfl rfl (show decode prog_15_method_65_code 64 = .ok (.aload_n 0, 1) by decide +kernel) ?_
        refine md_g67 (pc := 65) hC (show decode prog_15_method_65_code 65 = .ok (.getfield 114, 3) by decide +kernel) ?_
        refine dc_aloadn (pc := 68) (j := 0) (i := 0) hC 1 rfl rfl (show decode prog_15_method_65_code 68 = .ok (.aload_n 0, 1) by decide +kernel) ?_
        refine md_g65 (pc := 69) hC (show decode prog_15_method_65_code 69 = .ok (.getfield 108, 3) by decide +kernel) ?_
        refine dc_iloadn (pc := 72) (j := 2) (i := 2) hC 3 rfl rfl (show decode prog_15_method_65_code 72 = .ok (.iload_n 2, 1) by decide +kernel) ?_
        refine md_l65 (pc := 73) hC (show decode prog_15_method_65_code 73 = .ok (.iaload, 1) by decide +kernel) h ?_
        intro j8 h
        refine md_l67 (pc := 74) hC (show decode prog_15_method_65_code 74 = .ok (.iaload, 1) by decide +kernel) h ?_
        intro j9 h
        refine dc_goto (pc := 75) (tgt := 79) hC (show decode prog_15_method_65_code 75 = .ok (.goto 4, 3) by decide +kernel) (by decide +kernel) ?_
        exact dc_sub [1, 2, 3, 0] rfl (lab_79 S x2 y0 (S.2.1 67 j9) h)
      · intro h
        refine dc_iconst (pc := 78) (v := 0) hC (show decode prog_15_method_65_code 78 = .ok (.iconst 0, 1) by decide +kernel) (by decide +kernel) ?_
        exact dc_sub [1, 2, 3, 0] rfl (lab_79 S x2 y0 0 h)
    rintro ⟨S, x2⟩ h
    have h : dc_wp (mm_truth_b9 S x1 x2) F_9 := h
    delta mm_truth_b9 at h
    refine dc_iloadn (pc := 9) (j := 2) (i := 2) hC 2 rfl rfl (show decode prog_15_method_65_code 9 = .ok (.iload_n 2, 1) by decide +kernel) ?_
    refine dc_iloadn (pc := 10) (j := 1) (i := 1) hC 1 rfl rfl (show decode prog_15_method_65_code 10 = .ok (.iload_n 1, 1) by decide +kernel) ?_
    refine dc_icmp_lt (pc := 11) (tgt := 197) hC (show decode prog_15_method_65_code 11 = .ok (.if_icmp .lt 186, 3) by decide +kernel) (by decide +kernel) h ?_ ?_
    · intro h
      have h : dc_wp (mm_truth_L197 S x1) F := hr_9 S (dc_some h)
      exact dc_sub [0, 1] rfl (lab_197 S x1 h)
    · intro h
      refine dc_aloadn (pc := 14) (j := 0) (i := 0) hC 0 rfl rfl (show decode prog_15_method_65_code 14 = .ok (.aload_n 0, 1) by decide +kernel) ?_
      refine md_g63 (pc := 15) hC (show decode prog_15_method_65_code 15 = .ok (.getfield 102, 3) by decide +kernel) ?_
      refine dc_iloadn (pc := 18) (j := 2) (i := 2) hC 2 rfl rfl (show decode prog_15_method_65_code 18 = .ok (.iload_n 2, 1) by decide +kernel) ?_
      refine md_l63 (pc := 19) hC (show decode prog_15_method_65_code 19 = .ok (.iaload, 1) by decide +kernel) h ?_
      intro j10 h
      refine dc_if_ne (pc := 20) (tgt := 42) hC (show decode prog_15_method_65_code 20 = .ok (.ifCond .ne 22, 3) by decide +kernel) (by decide +kernel) h ?_ ?_
      · intro h
        refine dc_aloadn (pc := 23) (j := 0) (i := 0) hC 0 rfl rfl (show decode prog_15_method_65_code 23 = .ok (.aload_n 0, 1) by decide +kernel) ?_
        refine md_g70 (pc := 24) hC (show decode prog_15_method_65_code 24 = .ok (.getfield 123, 3) by decide +kernel) ?_
        refine dc_aloadn (pc := 27) (j := 0) (i := 0) hC 0 rfl rfl (show decode prog_15_method_65_code 27 = .ok (.aload_n 0, 1) by decide +kernel) ?_
        refine md_g73 (pc := 28) hC (show decode prog_15_method_65_code 28 = .ok (.getfield 133, 3) by decide +kernel) ?_
        refine dc_aloadn (pc := 31) (j := 0) (i := 0) hC 0 rfl rfl (show decode prog_15_method_65_code 31 = .ok (.aload_n 0, 1) by decide +kernel) ?_
        refine md_g64 (pc := 32) hC (show decode prog_15_method_65_code 32 = .ok (.getfield 105, 3) by decide +kernel) ?_
        refine dc_iloadn (pc := 35) (j := 2) (i := 2) hC 2 rfl rfl (show decode prog_15_method_65_code 35 = .ok (.iload_n 2, 1) by decide +kernel) ?_
        refine md_l64 (pc := 36) hC (show decode prog_15_method_65_code 36 = .ok (.iaload, 1) by decide +kernel) h ?_
        intro j11 h
        refine md_l73 (pc := 37) hC (show decode prog_15_method_65_code 37 = .ok (.iaload, 1) by decide +kernel) h ?_
        intro j12 h
        refine md_l70 (pc := 38) hC (show decode prog_15_method_65_code 38 = .ok (.iaload, 1) by decide +kernel) h ?_
        intro j13 h
        refine dc_goto (pc := 39) (tgt := 53) hC (show decode prog_15_method_65_code 39 = .ok (.goto 14, 3) by decide +kernel) (by decide +kernel) ?_
        exact lab_53 S x2 (S.2.1 70 j13) h
      · intro h
        refine dc_aloadn (pc := 42) (j := 0) (i := 0) hC 0 rfl rfl (show decode prog_15_method_65_code 42 = .ok (.aload_n 0, 1) by decide +kernel) ?_
        refine md_g67 (pc := 43) hC (show decode prog_15_method_65_code 43 = .ok (.getfield 114, 3) by decide +kernel) ?_
        refine dc_aloadn (pc := 46) (j := 0) (i := 0) hC 0 rfl rfl (show decode prog_15_method_65_code 46 = .ok (.aload_n 0, 1) by decide +kernel) ?_
        refine md_g64 (pc := 47) hC (show decode prog_15_method_65_code 47 = .ok (.getfield 105, 3) by decide +kernel) ?_
        refine dc_iloadn (pc := 50) (j := 2) (i := 2) hC 2 rfl rfl (show decode prog_15_method_65_code 50 = .ok (.iload_n 2, 1) by decide +kernel) ?_
        refine md_l64 (pc := 51) hC (show decode prog_15_method_65_code 51 = .ok (.iaload, 1) by decide +kernel) h ?_
        intro j14 h
        refine md_l67 (pc := 52) hC (show decode prog_15_method_65_code 52 = .ok (.iaload, 1) by decide +kernel) h ?_
        intro j15 h
        exact lab_53 S x2 (S.2.1 67 j15) h
  have lab_9 : ∀ (S : md_S) (x1 : Int32) (x2 : Int32), dc_wp (mm_truth_L9 S x1 x2) F → dc_G X l { frames := 0, cells := 0, slots := 0, locals := 0 } D 7 0 0 (md_W o a ca S) 9 [(0, .ref o), (1, .int x1), (2, .int x2)] [] := fun S x1 x2 h => loop_9 x1 (S, x2) (dc_bind h)
  show dc_G X l { frames := 0, cells := 0, slots := 0, locals := 0 } D 7 0 0 (md_W o a ca S) 0 [(0, .ref o), (1, .int p1)] []
  delta mm_truth at h
  refine dc_aloadn (pc := 0) (j := 0) (i := 0) hC 0 rfl rfl (show decode prog_15_method_65_code 0 = .ok (.aload_n 0, 1) by decide +kernel) ?_
  refine md_g66 (pc := 1) hC (show decode prog_15_method_65_code 1 = .ok (.getfield 111, 3) by decide +kernel) ?_
  refine dc_iloadn (pc := 4) (j := 1) (i := 1) hC 1 rfl rfl (show decode prog_15_method_65_code 4 = .ok (.iload_n 1, 1) by decide +kernel) ?_
  refine md_l66 (pc := 5) hC (show decode prog_15_method_65_code 5 = .ok (.iaload, 1) by decide +kernel) h ?_
  intro j16 h
  refine dc_iconst (pc := 6) (v := 1) hC (show decode prog_15_method_65_code 6 = .ok (.iconst 1, 1) by decide +kernel) (by decide +kernel) ?_
  refine dc_isub (pc := 7) hC (show decode prog_15_method_65_code 7 = .ok (.isub, 1) by decide +kernel) ?_
  refine dc_letI h ?_
  intro v17 h
  refine dc_istoren (pc := 8) (j := 2) (i := 2) (lv' := [(2, .int v17), (0, .ref o), (1, .int p1)]) hC rfl (Nat.le_of_ble_eq_true rfl) rfl (show decode prog_15_method_65_code 8 = .ok (.istore_n 2, 1) by decide +kernel) ?_
  exact dc_sub [1, 2, 0] rfl (lab_9 S p1 v17 h)
abbrev mm_T3 : Type := (md_S → Int32 → Int32 → Int32 → Option (md_S)) × (md_S → Int32 → Int32 → Int32 → Option (md_S)) × (md_S → Int32 → Int32 → Int32 → Option (md_S)) × (md_S → Int32 → Int32 → Int32 → Option (md_S)) × (md_S → Int32 → Int32 → Int32 → Int32 → Option (md_S)) × (md_S → Int32 → Int32 → Int32 → Option (md_S)) × (md_S → Int32 → Int32 → Int32 → Option (md_S)) × (md_S → Int32 → Int32 → Int32 → Option (md_S))
def mm_OK3 (l : Launch) (D : va_G) (ad : Nat → Nat) (de : Nat) (o : Nat) (a : Nat → Nat) (ca : Nat → ClassId) (T : mm_T3) (d : Nat) : Prop :=
  (∀ (S : md_S) (p1 : Int32) (p2 : Int32) (p3 : Int32) (F : md_S → Prop), dc_wp (T.1 S p1 p2 p3) F → dc_Cv l ⟨"SignalEngineModel", "run", "(IZZ)V"⟩ prog_15_method_66_code 5 none (d + 2) (28 * d + 45) D (md_T ca) ad de [.ref o, .int p1, .int p2, .int p3] (md_W o a ca S) (fun w => ∃ q, F q ∧ w = md_W o a ca q) 0 0) ∧
  (∀ (S : md_S) (p1 : Int32) (p2 : Int32) (p3 : Int32) (F : md_S → Prop), dc_wp (T.2.1 S p1 p2 p3) F → dc_Cv l ⟨"SignalEngineModel", "present", "(IZZ)V"⟩ prog_15_method_68_code 6 none (d + 2) (28 * d + 45) D (md_T ca) ad de [.ref o, .int p1, .int p2, .int p3] (md_W o a ca S) (fun w => ∃ q, F q ∧ w = md_W o a ca q) 0 0) ∧
  (∀ (S : md_S) (p1 : Int32) (p2 : Int32) (p3 : Int32) (F : md_S → Prop), dc_wp (T.2.2.1 S p1 p2 p3) F → dc_Cv l ⟨"SignalEngineModel", "suspended", "(IZZ)V"⟩ prog_15_method_69_code 6 none (d + 2) (28 * d + 45) D (md_T ca) ad de [.ref o, .int p1, .int p2, .int p3] (md_W o a ca S) (fun w => ∃ q, F q ∧ w = md_W o a ca q) 0 0) ∧
  (∀ (S : md_S) (p1 : Int32) (p2 : Int32) (p3 : Int32) (F : md_S → Prop), dc_wp (T.2.2.2.1 S p1 p2 p3) F → dc_Cv l ⟨"SignalEngineModel", "sequence", "(IZZ)V"⟩ prog_15_method_71_code 5 none (d + 2) (28 * d + 45) D (md_T ca) ad de [.ref o, .int p1, .int p2, .int p3] (md_W o a ca S) (fun w => ∃ q, F q ∧ w = md_W o a ca q) 0 0) ∧
  (∀ (S : md_S) (p1 : Int32) (p2 : Int32) (p3 : Int32) (p4 : Int32) (F : md_S → Prop), dc_wp (T.2.2.2.2.1 S p1 p2 p3 p4) F → dc_Cv l ⟨"SignalEngineModel", "behind", "(IIZZ)V"⟩ prog_15_method_70_code 9 none (d + 2) (28 * d + 45) D (md_T ca) ad de [.ref o, .int p1, .int p2, .int p3, .int p4] (md_W o a ca S) (fun w => ∃ q, F q ∧ w = md_W o a ca q) 0 0) ∧
  (∀ (S : md_S) (p1 : Int32) (p2 : Int32) (p3 : Int32) (F : md_S → Prop), dc_wp (T.2.2.2.2.2.1 S p1 p2 p3) F → dc_Cv l ⟨"SignalEngineModel", "both", "(IZZ)V"⟩ prog_15_method_73_code 7 none (d + 2) (28 * d + 45) D (md_T ca) ad de [.ref o, .int p1, .int p2, .int p3] (md_W o a ca S) (fun w => ∃ q, F q ∧ w = md_W o a ca q) 0 0) ∧
  (∀ (S : md_S) (p1 : Int32) (p2 : Int32) (p3 : Int32) (F : md_S → Prop), dc_wp (T.2.2.2.2.2.2.1 S p1 p2 p3) F → dc_Cv l ⟨"SignalEngineModel", "side", "(IZZ)V"⟩ prog_15_method_72_code 4 none (d + 2) (28 * d + 45) D (md_T ca) ad de [.ref o, .int p1, .int p2, .int p3] (md_W o a ca S) (fun w => ∃ q, F q ∧ w = md_W o a ca q) 0 0) ∧
  (∀ (S : md_S) (p1 : Int32) (p2 : Int32) (p3 : Int32) (F : md_S → Prop), dc_wp (T.2.2.2.2.2.2.2 S p1 p2 p3) F → dc_Cv l ⟨"SignalEngineModel", "trapped", "(IZZ)V"⟩ prog_15_method_74_code 5 none (d + 2) (28 * d + 45) D (md_T ca) ad de [.ref o, .int p1, .int p2, .int p3] (md_W o a ca S) (fun w => ∃ q, F q ∧ w = md_W o a ca q) 0 0)
noncomputable def mm_run_L296 (T : mm_T3) (S : md_S) : Option (md_S) :=
  some S
noncomputable def mm_run_L203 (T : mm_T3) (S : md_S) (y0 : Int32) (y1 : Int32) : Option (md_S) :=
  (mm_outcome S y1 y0).bind fun q1 => mm_run_L296 T q1
noncomputable def mm_run_L108 (T : mm_T3) (S : md_S) (x2 : Int32) (x3 : Int32) (x4 : Int32) : Option (md_S) :=
  (dc_ix x4 1200).bind fun j2 => dc_let ((S.2.1 51 j2) : Int32) fun v3 => if v3 = 0 then ((mm_simple_IZ S x4 x3).bind fun q4 => mm_run_L296 T q4) else if v3 = 1 then (if x2 = 0 then (if x3 = 0 then (mm_run_L203 T S (-1) 1) else (mm_run_L203 T S 0 1)) else ((mm_simple_IZ S x4 x3).bind fun q6 => mm_run_L296 T q6)) else if v3 = 2 then ((mm_simple_IZ S x4 x3).bind fun q8 => mm_run_L296 T q8) else if v3 = 3 then ((T.2.1 S x4 x2 x3).bind fun q10 => mm_run_L296 T q10) else if v3 = 4 then ((T.2.2.1 S x4 x2 x3).bind fun q12 => mm_run_L296 T q12) else if v3 = 5 then ((T.2.2.2.1 S x4 x2 x3).bind fun q14 => mm_run_L296 T q14) else if v3 = 6 then ((dc_ix x4 1200).bind fun j16 => (T.1 S (S.2.1 52 j16) x2 x3).bind fun q17 => if x2 = 0 then ((dc_ix x4 1200).bind fun j18 => (T.2.2.2.2.1 q17 x4 (q17.2.1 52 j18) 0 x3).bind fun q19 => mm_run_L296 T q19) else (mm_run_L296 T q17)) else if v3 = 7 then ((T.2.2.2.2.2.1 S x4 x2 x3).bind fun q21 => mm_run_L296 T q21) else if v3 = 8 then ((T.2.2.2.2.2.2.2 S x4 x2 x3).bind fun q23 => mm_run_L296 T q23) else if v3 = 9 then ((mm_simple_IZ S x4 x3).bind fun q25 => mm_run_L296 T q25) else ((T.2.2.2.2.2.2.2 S x4 x2 x3).bind fun q27 => mm_run_L296 T q27)
noncomputable def mm_run_L93 (T : mm_T3) (S : md_S) (x2 : Int32) (x3 : Int32) (x4 : Int32) (y0 : Int32) : Option ((md_S × Int32) ⊕ ((md_S × Int32))) :=
  (dc_zb y0).bind fun _ => dc_let (md_i S 78 y0) fun S29 => (dc_ix x4 1200).bind fun j30 => dc_let ((S29.2.1 52 j30) : Int32) fun v31 => some (.inl (S29, v31))
noncomputable def mm_run_L92 (T : mm_T3) (S : md_S) (x2 : Int32) (x3 : Int32) (x4 : Int32) : Option ((md_S × Int32) ⊕ ((md_S × Int32))) :=
  mm_run_L93 T S x2 x3 x4 0
noncomputable def mm_run_L88 (T : mm_T3) (S : md_S) (x2 : Int32) (x3 : Int32) (x4 : Int32) : Option ((md_S × Int32) ⊕ ((md_S × Int32))) :=
  mm_run_L93 T S x2 x3 x4 1
noncomputable def mm_run_L53 (T : mm_T3) (S : md_S) (x2 : Int32) (x3 : Int32) (x4 : Int32) (y0 : Int32) (y1 : Int32) (y2 : Int32) : Option ((md_S × Int32) ⊕ ((md_S × Int32))) :=
  (dc_ix y2 400).bind fun j32 => dc_let (md_a S 73 j32 (y1 + y0)) fun S33 => if (S33.1 78) = 0 then (if x3 = 0 then (mm_run_L92 T S33 x2 x3 x4) else ((dc_ix x4 1200).bind fun j34 => (dc_ix (S33.2.1 54 j34) 400).bind fun j35 => (dc_ix (S33.2.1 73 j35) 1662).bind fun j36 => if (S33.2.1 70 j36) = 2 then (mm_run_L88 T S33 x2 x3 x4) else (mm_run_L92 T S33 x2 x3 x4))) else (mm_run_L88 T S33 x2 x3 x4)
noncomputable def mm_run_b3 (T : mm_T3) (S : md_S) (x2 : Int32) (x3 : Int32) (x4 : Int32) : Option ((md_S × Int32) ⊕ ((md_S × Int32))) :=
  (dc_ix x4 1200).bind fun j37 => if (S.2.1 51 j37) = 10 then ((dc_ix x4 1200).bind fun j38 => (dc_ix x4 1200).bind fun j39 => if x2 = 0 then ((dc_ix x4 1200).bind fun j40 => mm_run_L53 T S x2 x3 x4 (S.2.1 57 j40) (S.2.1 61 j39) (S.2.1 54 j38)) else (mm_run_L53 T S x2 x3 x4 ((S.1 79) - 1) (S.2.1 61 j39) (S.2.1 54 j38))) else (some (.inr (S, x4)))
noncomputable def mm_run_s3 (T : mm_T3) (x2 : Int32) (x3 : Int32) (q : md_S × Int32) : Option ((md_S × Int32) ⊕ ((md_S × Int32))) :=
  mm_run_b3 T q.1 x2 x3 q.2
noncomputable def mm_run_L3 (T : mm_T3) (S : md_S) (x2 : Int32) (x3 : Int32) (x4 : Int32) : Option (md_S) :=
  (dc_it (mm_run_s3 T x2 x3) (S, x4)).bind (fun (z : md_S × Int32) => mm_run_L108 T z.1 x2 x3 z.2)
noncomputable def mm_run (T : mm_T3) (S : md_S) (p1 : Int32) (p2 : Int32) (p3 : Int32) : Option (md_S) :=
  mm_run_L3 T S p2 p3 p1
set_option maxHeartbeats 4000000 in
set_option maxRecDepth 100000 in
/-- run(IZZ)V -/
theorem mm_run_ok (l : Launch) (D : va_G) (ad : Nat → Nat) (de : Nat) (o : Nat) (a : Nat → Nat) (ca : Nat → ClassId) (T : mm_T3) (d : Nat) (hT : mm_OK3 l D ad de o a ca T d) (S : md_S) (p1 : Int32) (p2 : Int32) (p3 : Int32) (F : md_S → Prop) (h : dc_wp (mm_run T S p1 p2 p3) F) : dc_Cv l ⟨"SignalEngineModel", "run", "(IZZ)V"⟩ prog_15_method_66_code 5 none (d + 1 + 2) (28 * (d + 1) + 45) D (md_T ca) ad de [.ref o, .int p1, .int p2, .int p3] (md_W o a ca S) (fun w => ∃ q, F q ∧ w = md_W o a ca q) 0 0 := by
  refine dc_enterv (by decide +kernel) (Nat.le_of_ble_eq_true rfl) ?_
  intro X hC hR
  have lab_296 : ∀ (S : md_S), dc_wp (mm_run_L296 T S) F → dc_G X l { frames := d + 1 + 2, cells := 0, slots := 0, locals := 28 * (d + 1) + 45 } D 5 0 0 (md_W o a ca S) 296 [(0, .ref o)] [] := by
    intro S  h
    delta mm_run_L296 at h
    exact dc_vret (pc := 296) hC hR ⟨_, dc_some h, rfl⟩ (show decode prog_15_method_66_code 296 = .ok (.return_, 1) by decide +kernel)
  have lab_203 : ∀ (S : md_S) (y0 : Int32) (y1 : Int32), dc_wp (mm_run_L203 T S y0 y1) F → dc_G X l { frames := d + 1 + 2, cells := 0, slots := 0, locals := 28 * (d + 1) + 45 } D 5 0 0 (md_W o a ca S) 203 [(0, .ref o)] [.int y0, .int y1, .ref o] := by
    intro S y0 y1 h
    delta mm_run_L203 at h
    refine mc_Vmv (pc := 203) (As := [.int y1, .int y0]) (rest := []) hC vw_outcome_579 (mm_outcome_ok l D ad de o a ca S y1 y0) (by omega) (by omega) rfl (Nat.le_of_ble_eq_true rfl) (show decode prog_15_method_66_code 203 = .ok (.invokevirtual 579, 3) by decide +kernel) h ?_
    intro q1 h
    refine dc_goto (pc := 206) (tgt := 296) hC (show decode prog_15_method_66_code 206 = .ok (.goto 90, 3) by decide +kernel) (by decide +kernel) ?_
    exact lab_296 q1 h
  have lab_108 : ∀ (S : md_S) (x2 : Int32) (x3 : Int32) (x4 : Int32), dc_wp (mm_run_L108 T S x2 x3 x4) F → dc_G X l { frames := d + 1 + 2, cells := 0, slots := 0, locals := 28 * (d + 1) + 45 } D 5 0 0 (md_W o a ca S) 108 [(0, .ref o), (2, .int x2), (3, .int x3), (4, .int x4)] [] := by
    intro S x2 x3 x4 h
    delta mm_run_L108 at h
    refine dc_aloadn (pc := 108) (j := 0) (i := 0) hC 0 rfl rfl (show decode prog_15_method_66_code 108 = .ok (.aload_n 0, 1) by decide +kernel) ?_
    refine md_g51 (pc := 109) hC (show decode prog_15_method_66_code 109 = .ok (.getfield 66, 3) by decide +kernel) ?_
    refine dc_iload (pc := 112) (i := 4) hC 3 rfl (show decode prog_15_method_66_code 112 = .ok (.iload 4, 2) by decide +kernel) ?_
    refine md_l51 (pc := 114) hC (show decode prog_15_method_66_code 114 = .ok (.iaload, 1) by decide +kernel) h ?_
    intro j2 h
    refine dc_letI h ?_
    intro v3 h
    rcases dc_ite h with ⟨hk5, h2⟩ | ⟨hk5, h2⟩
    · subst hk5; clear h; have h := h2; clear h2
      refine dc_tabIn (pc := 115) (off := 53) (tgt := 168) hC dsw_prog_15_method_66_code_115 (by decide +kernel) (by decide +kernel) (by decide +kernel) (by decide +kernel) ?_
      refine dc_aloadn (pc := 168) (j := 0) (i := 0) hC 0 rfl rfl (show decode prog_15_method_66_code 168 = .ok (.aload_n 0, 1) by decide +kernel) ?_
      refine dc_iload (pc := 169) (i := 4) hC 3 rfl (show decode prog_15_method_66_code 169 = .ok (.iload 4, 2) by decide +kernel) ?_
      refine dc_iloadn (pc := 171) (j := 3) (i := 3) hC 2 rfl rfl (show decode prog_15_method_66_code 171 = .ok (.iload_n 3, 1) by decide +kernel) ?_
      refine mc_Vmv (pc := 172) (As := [.int x4, .int x3]) (rest := []) hC vw_simple_IZ_576 (mm_simple_IZ_ok l D ad de o a ca S x4 x3) (by omega) (by omega) rfl (Nat.le_of_ble_eq_true rfl) (show decode prog_15_method_66_code 172 = .ok (.invokevirtual 576, 3) by decide +kernel) h ?_
      intro q4 h
      refine dc_goto (pc := 175) (tgt := 296) hC (show decode prog_15_method_66_code 175 = .ok (.goto 121, 3) by decide +kernel) (by decide +kernel) ?_
      exact dc_sub [0] rfl (lab_296 q4 h)
    clear h; have h := h2; clear h2
    rcases dc_ite h with ⟨hk7, h2⟩ | ⟨hk7, h2⟩
    · subst hk7; clear h; have h := h2; clear h2
      refine dc_tabIn (pc := 115) (off := 63) (tgt := 178) hC dsw_prog_15_method_66_code_115 (by decide +kernel) (by decide +kernel) (by decide +kernel) (by decide +kernel) ?_
      refine dc_iloadn (pc := 178) (j := 2) (i := 2) hC 1 rfl rfl (show decode prog_15_method_66_code 178 = .ok (.iload_n 2, 1) by decide +kernel) ?_
      refine dc_if_eq (pc := 179) (tgt := 192) hC (show decode prog_15_method_66_code 179 = .ok (.ifCond .eq 13, 3) by decide +kernel) (by decide +kernel) h ?_ ?_
      · intro h
        refine dc_aloadn (pc := 192) (j := 0) (i := 0) hC 0 rfl rfl (show decode prog_15_method_66_code 192 = .ok (.aload_n 0, 1) by decide +kernel) ?_
        refine dc_iconst (pc := 193) (v := 1) hC (show decode prog_15_method_66_code 193 = .ok (.iconst 1, 1) by decide +kernel) (by decide +kernel) ?_
        refine dc_iloadn (pc := 194) (j := 3) (i := 3) hC 2 rfl rfl (show decode prog_15_method_66_code 194 = .ok (.iload_n 3, 1) by decide +kernel) ?_
        refine dc_if_eq (pc := 195) (tgt := 202) hC (show decode prog_15_method_66_code 195 = .ok (.ifCond .eq 7, 3) by decide +kernel) (by decide +kernel) h ?_ ?_
        · intro h
          refine dc_iconst (pc := 202) (v := (-1)) hC (show decode prog_15_method_66_code 202 = .ok (.iconst (-1), 1) by decide +kernel) (by decide +kernel) ?_
          exact dc_sub [0] rfl (lab_203 S (-1) 1 h)
        · intro h
          refine dc_iconst (pc := 198) (v := 0) hC (show decode prog_15_method_66_code 198 = .ok (.iconst 0, 1) by decide +kernel) (by decide +kernel) ?_
          refine dc_goto (pc := 199) (tgt := 203) hC (show decode prog_15_method_66_code 199 = .ok (.goto 4, 3) by decide +kernel) (by decide +kernel) ?_
          exact dc_sub [0] rfl (lab_203 S 0 1 h)
      · intro h
        refine dc_aloadn (pc := 182) (j := 0) (i := 0) hC 0 rfl rfl (show decode prog_15_method_66_code 182 = .ok (.aload_n 0, 1) by decide +kernel) ?_
        refine dc_iload (pc := 183) (i := 4) hC 3 rfl (show decode prog_15_method_66_code 183 = .ok (.iload 4, 2) by decide +kernel) ?_
        refine dc_iloadn (pc := 185) (j := 3) (i := 3) hC 2 rfl rfl (show decode prog_15_method_66_code 185 = .ok (.iload_n 3, 1) by decide +kernel) ?_
        refine mc_Vmv (pc := 186) (As := [.int x4, .int x3]) (rest := []) hC vw_simple_IZ_576 (mm_simple_IZ_ok l D ad de o a ca S x4 x3) (by omega) (by omega) rfl (Nat.le_of_ble_eq_true rfl) (show decode prog_15_method_66_code 186 = .ok (.invokevirtual 576, 3) by decide +kernel) h ?_
        intro q6 h
        refine dc_goto (pc := 189) (tgt := 296) hC (show decode prog_15_method_66_code 189 = .ok (.goto 107, 3) by decide +kernel) (by decide +kernel) ?_
        exact dc_sub [0] rfl (lab_296 q6 h)
    clear h; have h := h2; clear h2
    rcases dc_ite h with ⟨hk9, h2⟩ | ⟨hk9, h2⟩
    · subst hk9; clear h; have h := h2; clear h2
      refine dc_tabIn (pc := 115) (off := 53) (tgt := 168) hC dsw_prog_15_method_66_code_115 (by decide +kernel) (by decide +kernel) (by decide +kernel) (by decide +kernel) ?_
      refine dc_aloadn (pc := 168) (j := 0) (i := 0) hC 0 rfl rfl (show decode prog_15_method_66_code 168 = .ok (.aload_n 0, 1) by decide +kernel) ?_
      refine dc_iload (pc := 169) (i := 4) hC 3 rfl (show decode prog_15_method_66_code 169 = .ok (.iload 4, 2) by decide +kernel) ?_
      refine dc_iloadn (pc := 171) (j := 3) (i := 3) hC 2 rfl rfl (show decode prog_15_method_66_code 171 = .ok (.iload_n 3, 1) by decide +kernel) ?_
      refine mc_Vmv (pc := 172) (As := [.int x4, .int x3]) (rest := []) hC vw_simple_IZ_576 (mm_simple_IZ_ok l D ad de o a ca S x4 x3) (by omega) (by omega) rfl (Nat.le_of_ble_eq_true rfl) (show decode prog_15_method_66_code 172 = .ok (.invokevirtual 576, 3) by decide +kernel) h ?_
      intro q8 h
      refine dc_goto (pc := 175) (tgt := 296) hC (show decode prog_15_method_66_code 175 = .ok (.goto 121, 3) by decide +kernel) (by decide +kernel) ?_
      exact dc_sub [0] rfl (lab_296 q8 h)
    clear h; have h := h2; clear h2
    rcases dc_ite h with ⟨hk11, h2⟩ | ⟨hk11, h2⟩
    · subst hk11; clear h; have h := h2; clear h2
      refine dc_tabIn (pc := 115) (off := 94) (tgt := 209) hC dsw_prog_15_method_66_code_115 (by decide +kernel) (by decide +kernel) (by decide +kernel) (by decide +kernel) ?_
      refine dc_aloadn (pc := 209) (j := 0) (i := 0) hC 0 rfl rfl (show decode prog_15_method_66_code 209 = .ok (.aload_n 0, 1) by decide +kernel) ?_
      refine dc_iload (pc := 210) (i := 4) hC 3 rfl (show decode prog_15_method_66_code 210 = .ok (.iload 4, 2) by decide +kernel) ?_
      refine dc_iloadn (pc := 212) (j := 2) (i := 2) hC 1 rfl rfl (show decode prog_15_method_66_code 212 = .ok (.iload_n 2, 1) by decide +kernel) ?_
      refine dc_iloadn (pc := 213) (j := 3) (i := 3) hC 2 rfl rfl (show decode prog_15_method_66_code 213 = .ok (.iload_n 3, 1) by decide +kernel) ?_
      refine mc_Vmv (pc := 214) (As := [.int x4, .int x2, .int x3]) (rest := []) hC vw_present_IZZ_582 (hT.2.1 S x4 x2 x3) (by omega) (by omega) rfl (Nat.le_of_ble_eq_true rfl) (show decode prog_15_method_66_code 214 = .ok (.invokevirtual 582, 3) by decide +kernel) h ?_
      intro q10 h
      refine dc_goto (pc := 217) (tgt := 296) hC (show decode prog_15_method_66_code 217 = .ok (.goto 79, 3) by decide +kernel) (by decide +kernel) ?_
      exact dc_sub [0] rfl (lab_296 q10 h)
    clear h; have h := h2; clear h2
    rcases dc_ite h with ⟨hk13, h2⟩ | ⟨hk13, h2⟩
    · subst hk13; clear h; have h := h2; clear h2
      refine dc_tabIn (pc := 115) (off := 105) (tgt := 220) hC dsw_prog_15_method_66_code_115 (by decide +kernel) (by decide +kernel) (by decide +kernel) (by decide +kernel) ?_
      refine dc_aloadn (pc := 220) (j := 0) (i := 0) hC 0 rfl rfl (show decode prog_15_method_66_code 220 = .ok (.aload_n 0, 1) by decide +kernel) ?_
      refine dc_iload (pc := 221) (i := 4) hC 3 rfl (show decode prog_15_method_66_code 221 = .ok (.iload 4, 2) by decide +kernel) ?_
      refine dc_iloadn (pc := 223) (j := 2) (i := 2) hC 1 rfl rfl (show decode prog_15_method_66_code 223 = .ok (.iload_n 2, 1) by decide +kernel) ?_
      refine dc_iloadn (pc := 224) (j := 3) (i := 3) hC 2 rfl rfl (show decode prog_15_method_66_code 224 = .ok (.iload_n 3, 1) by decide +kernel) ?_
      refine mc_Vmv (pc := 225) (As := [.int x4, .int x2, .int x3]) (rest := []) hC vw_suspended_585 (hT.2.2.1 S x4 x2 x3) (by omega) (by omega) rfl (Nat.le_of_ble_eq_true rfl) (show decode prog_15_method_66_code 225 = .ok (.invokevirtual 585, 3) by decide +kernel) h ?_
      intro q12 h
      refine dc_goto (pc := 228) (tgt := 296) hC (show decode prog_15_method_66_code 228 = .ok (.goto 68, 3) by decide +kernel) (by decide +kernel) ?_
      exact dc_sub [0] rfl (lab_296 q12 h)
    clear h; have h := h2; clear h2
    rcases dc_ite h with ⟨hk15, h2⟩ | ⟨hk15, h2⟩
    · subst hk15; clear h; have h := h2; clear h2
      refine dc_tabIn (pc := 115) (off := 116) (tgt := 231) hC dsw_prog_15_method_66_code_115 (by decide +kernel) (by decide +kernel) (by decide +kernel) (by decide +kernel) ?_
      refine dc_aloadn (pc := 231) (j := 0) (i := 0) hC 0 rfl rfl (show decode prog_15_method_66_code 231 = .ok (.aload_n 0, 1) by decide +kernel) ?_
      refine dc_iload (pc := 232) (i := 4) hC 3 rfl (show decode prog_15_method_66_code 232 = .ok (.iload 4, 2) by decide +kernel) ?_
      refine dc_iloadn (pc := 234) (j := 2) (i := 2) hC 1 rfl rfl (show decode prog_15_method_66_code 234 = .ok (.iload_n 2, 1) by decide +kernel) ?_
      refine dc_iloadn (pc := 235) (j := 3) (i := 3) hC 2 rfl rfl (show decode prog_15_method_66_code 235 = .ok (.iload_n 3, 1) by decide +kernel) ?_
      refine mc_Vmv (pc := 236) (As := [.int x4, .int x2, .int x3]) (rest := []) hC vw_sequence_588 (hT.2.2.2.1 S x4 x2 x3) (by omega) (by omega) rfl (Nat.le_of_ble_eq_true rfl) (show decode prog_15_method_66_code 236 = .ok (.invokevirtual 588, 3) by decide +kernel) h ?_
      intro q14 h
      refine dc_goto (pc := 239) (tgt := 296) hC (show decode prog_15_method_66_code 239 = .ok (.goto 57, 3) by decide +kernel) (by decide +kernel) ?_
      exact dc_sub [0] rfl (lab_296 q14 h)
    clear h; have h := h2; clear h2
    rcases dc_ite h with ⟨hk20, h2⟩ | ⟨hk20, h2⟩
    · subst hk20; clear h; have h := h2; clear h2
      refine dc_tabIn (pc := 115) (off := 127) (tgt := 242) hC dsw_prog_15_method_66_code_115 (by decide +kernel) (by decide +kernel) (by decide +kernel) (by decide +kernel) ?_
      refine dc_aloadn (pc := 242) (j := 0) (i := 0) hC 0 rfl rfl (show decode prog_15_method_66_code 242 = .ok (.aload_n 0, 1) by decide +kernel) ?_
      refine dc_aloadn (pc := 243) (j := 0) (i := 0) hC 0 rfl rfl (show decode prog_15_method_66_code 243 = .ok (.aload_n 0, 1) by decide +kernel) ?_
      refine md_g52 (pc := 244) hC (show decode prog_15_method_66_code 244 = .ok (.getfield 69, 3) by decide +kernel) ?_
      refine dc_iload (pc := 247) (i := 4) hC 3 rfl (show decode prog_15_method_66_code 247 = .ok (.iload 4, 2) by decide +kernel) ?_
      refine md_l52 (pc := 249) hC (show decode prog_15_method_66_code 249 = .ok (.iaload, 1) by decide +kernel) h ?_
      intro j16 h
      refine dc_iloadn (pc := 250) (j := 2) (i := 2) hC 1 rfl rfl (show decode prog_15_method_66_code 250 = .ok (.iload_n 2, 1) by decide +kernel) ?_
      refine dc_iloadn (pc := 251) (j := 3) (i := 3) hC 2 rfl rfl (show decode prog_15_method_66_code 251 = .ok (.iload_n 3, 1) by decide +kernel) ?_
      refine mc_Vmv (pc := 252) (As := [.int (S.2.1 52 j16), .int x2, .int x3]) (rest := []) hC vw_run_591 (hT.1 S (S.2.1 52 j16) x2 x3) (by omega) (by omega) rfl (Nat.le_of_ble_eq_true rfl) (show decode prog_15_method_66_code 252 = .ok (.invokevirtual 591, 3) by decide +kernel) h ?_
      intro q17 h
      refine dc_iloadn (pc := 255) (j := 2) (i := 2) hC 1 rfl rfl (show decode prog_15_method_66_code 255 = .ok (.iload_n 2, 1) by decide +kernel) ?_
      refine dc_if_ne (pc := 256) (tgt := 296) hC (show decode prog_15_method_66_code 256 = .ok (.ifCond .ne 40, 3) by decide +kernel) (by decide +kernel) h ?_ ?_
      · intro h
        refine dc_aloadn (pc := 259) (j := 0) (i := 0) hC 0 rfl rfl (show decode prog_15_method_66_code 259 = .ok (.aload_n 0, 1) by decide +kernel) ?_
        refine dc_iload (pc := 260) (i := 4) hC 3 rfl (show decode prog_15_method_66_code 260 = .ok (.iload 4, 2) by decide +kernel) ?_
        refine dc_aloadn (pc := 262) (j := 0) (i := 0) hC 0 rfl rfl (show decode prog_15_method_66_code 262 = .ok (.aload_n 0, 1) by decide +kernel) ?_
        refine md_g52 (pc := 263) hC (show decode prog_15_method_66_code 263 = .ok (.getfield 69, 3) by decide +kernel) ?_
        refine dc_iload (pc := 266) (i := 4) hC 3 rfl (show decode prog_15_method_66_code 266 = .ok (.iload 4, 2) by decide +kernel) ?_
        refine md_l52 (pc := 268) hC (show decode prog_15_method_66_code 268 = .ok (.iaload, 1) by decide +kernel) h ?_
        intro j18 h
        refine dc_iconst (pc := 269) (v := 0) hC (show decode prog_15_method_66_code 269 = .ok (.iconst 0, 1) by decide +kernel) (by decide +kernel) ?_
        refine dc_iloadn (pc := 270) (j := 3) (i := 3) hC 2 rfl rfl (show decode prog_15_method_66_code 270 = .ok (.iload_n 3, 1) by decide +kernel) ?_
        refine mc_Vmv (pc := 271) (As := [.int x4, .int (q17.2.1 52 j18), .int 0, .int x3]) (rest := []) hC vw_behind_594 (hT.2.2.2.2.1 q17 x4 (q17.2.1 52 j18) 0 x3) (by omega) (by omega) rfl (Nat.le_of_ble_eq_true rfl) (show decode prog_15_method_66_code 271 = .ok (.invokevirtual 594, 3) by decide +kernel) h ?_
        intro q19 h
        refine dc_goto (pc := 274) (tgt := 296) hC (show decode prog_15_method_66_code 274 = .ok (.goto 22, 3) by decide +kernel) (by decide +kernel) ?_
        exact dc_sub [0] rfl (lab_296 q19 h)
      · intro h
        exact dc_sub [0] rfl (lab_296 q17 h)
    clear h; have h := h2; clear h2
    rcases dc_ite h with ⟨hk22, h2⟩ | ⟨hk22, h2⟩
    · subst hk22; clear h; have h := h2; clear h2
      refine dc_tabIn (pc := 115) (off := 162) (tgt := 277) hC dsw_prog_15_method_66_code_115 (by decide +kernel) (by decide +kernel) (by decide +kernel) (by decide +kernel) ?_
      refine dc_aloadn (pc := 277) (j := 0) (i := 0) hC 0 rfl rfl (show decode prog_15_method_66_code 277 = .ok (.aload_n 0, 1) by decide +kernel) ?_
      refine dc_iload (pc := 278) (i := 4) hC 3 rfl (show decode prog_15_method_66_code 278 = .ok (.iload 4, 2) by decide +kernel) ?_
      refine dc_iloadn (pc := 280) (j := 2) (i := 2) hC 1 rfl rfl (show decode prog_15_method_66_code 280 = .ok (.iload_n 2, 1) by decide +kernel) ?_
      refine dc_iloadn (pc := 281) (j := 3) (i := 3) hC 2 rfl rfl (show decode prog_15_method_66_code 281 = .ok (.iload_n 3, 1) by decide +kernel) ?_
      refine mc_Vmv (pc := 282) (As := [.int x4, .int x2, .int x3]) (rest := []) hC vw_both_598 (hT.2.2.2.2.2.1 S x4 x2 x3) (by omega) (by omega) rfl (Nat.le_of_ble_eq_true rfl) (show decode prog_15_method_66_code 282 = .ok (.invokevirtual 598, 3) by decide +kernel) h ?_
      intro q21 h
      refine dc_goto (pc := 285) (tgt := 296) hC (show decode prog_15_method_66_code 285 = .ok (.goto 11, 3) by decide +kernel) (by decide +kernel) ?_
      exact dc_sub [0] rfl (lab_296 q21 h)
    clear h; have h := h2; clear h2
    rcases dc_ite h with ⟨hk24, h2⟩ | ⟨hk24, h2⟩
    · subst hk24; clear h; have h := h2; clear h2
      refine dc_tabIn (pc := 115) (off := 173) (tgt := 288) hC dsw_prog_15_method_66_code_115 (by decide +kernel) (by decide +kernel) (by decide +kernel) (by decide +kernel) ?_
      refine dc_aloadn (pc := 288) (j := 0) (i := 0) hC 0 rfl rfl (show decode prog_15_method_66_code 288 = .ok (.aload_n 0, 1) by decide +kernel) ?_
      refine dc_iload (pc := 289) (i := 4) hC 3 rfl (show decode prog_15_method_66_code 289 = .ok (.iload 4, 2) by decide +kernel) ?_
      refine dc_iloadn (pc := 291) (j := 2) (i := 2) hC 1 rfl rfl (show decode prog_15_method_66_code 291 = .ok (.iload_n 2, 1) by decide +kernel) ?_
      refine dc_iloadn (pc := 292) (j := 3) (i := 3) hC 2 rfl rfl (show decode prog_15_method_66_code 292 = .ok (.iload_n 3, 1) by decide +kernel) ?_
      refine mc_Vmv (pc := 293) (As := [.int x4, .int x2, .int x3]) (rest := []) hC vw_trapped_601 (hT.2.2.2.2.2.2.2 S x4 x2 x3) (by omega) (by omega) rfl (Nat.le_of_ble_eq_true rfl) (show decode prog_15_method_66_code 293 = .ok (.invokevirtual 601, 3) by decide +kernel) h ?_
      intro q23 h
      exact dc_sub [0] rfl (lab_296 q23 h)
    clear h; have h := h2; clear h2
    rcases dc_ite h with ⟨hk26, h2⟩ | ⟨hk26, h2⟩
    · subst hk26; clear h; have h := h2; clear h2
      refine dc_tabIn (pc := 115) (off := 53) (tgt := 168) hC dsw_prog_15_method_66_code_115 (by decide +kernel) (by decide +kernel) (by decide +kernel) (by decide +kernel) ?_
      refine dc_aloadn (pc := 168) (j := 0) (i := 0) hC 0 rfl rfl (show decode prog_15_method_66_code 168 = .ok (.aload_n 0, 1) by decide +kernel) ?_
      refine dc_iload (pc := 169) (i := 4) hC 3 rfl (show decode prog_15_method_66_code 169 = .ok (.iload 4, 2) by decide +kernel) ?_
      refine dc_iloadn (pc := 171) (j := 3) (i := 3) hC 2 rfl rfl (show decode prog_15_method_66_code 171 = .ok (.iload_n 3, 1) by decide +kernel) ?_
      refine mc_Vmv (pc := 172) (As := [.int x4, .int x3]) (rest := []) hC vw_simple_IZ_576 (mm_simple_IZ_ok l D ad de o a ca S x4 x3) (by omega) (by omega) rfl (Nat.le_of_ble_eq_true rfl) (show decode prog_15_method_66_code 172 = .ok (.invokevirtual 576, 3) by decide +kernel) h ?_
      intro q25 h
      refine dc_goto (pc := 175) (tgt := 296) hC (show decode prog_15_method_66_code 175 = .ok (.goto 121, 3) by decide +kernel) (by decide +kernel) ?_
      exact dc_sub [0] rfl (lab_296 q25 h)
    clear h; have h := h2; clear h2
    refine dc_tabOut (pc := 115) (tgt := 288) hC dsw_prog_15_method_66_code_115 (by have := dc_swc hk5 (show (0 : Int32).toInt = 0 by decide +kernel); have := dc_swc hk7 (show (1 : Int32).toInt = 1 by decide +kernel); have := dc_swc hk9 (show (2 : Int32).toInt = 2 by decide +kernel); have := dc_swc hk11 (show (3 : Int32).toInt = 3 by decide +kernel); have := dc_swc hk13 (show (4 : Int32).toInt = 4 by decide +kernel); have := dc_swc hk15 (show (5 : Int32).toInt = 5 by decide +kernel); have := dc_swc hk20 (show (6 : Int32).toInt = 6 by decide +kernel); have := dc_swc hk22 (show (7 : Int32).toInt = 7 by decide +kernel); have := dc_swc hk24 (show (8 : Int32).toInt = 8 by decide +kernel); have := dc_swc hk26 (show (9 : Int32).toInt = 9 by decide +kernel); omega) (by decide +kernel) ?_
    refine dc_aloadn (pc := 288) (j := 0) (i := 0) hC 0 rfl rfl (show decode prog_15_method_66_code 288 = .ok (.aload_n 0, 1) by decide +kernel) ?_
    refine dc_iload (pc := 289) (i := 4) hC 3 rfl (show decode prog_15_method_66_code 289 = .ok (.iload 4, 2) by decide +kernel) ?_
    refine dc_iloadn (pc := 291) (j := 2) (i := 2) hC 1 rfl rfl (show decode prog_15_method_66_code 291 = .ok (.iload_n 2, 1) by decide +kernel) ?_
    refine dc_iloadn (pc := 292) (j := 3) (i := 3) hC 2 rfl rfl (show decode prog_15_method_66_code 292 = .ok (.iload_n 3, 1) by decide +kernel) ?_
    refine mc_Vmv (pc := 293) (As := [.int x4, .int x2, .int x3]) (rest := []) hC vw_trapped_601 (hT.2.2.2.2.2.2.2 S x4 x2 x3) (by omega) (by omega) rfl (Nat.le_of_ble_eq_true rfl) (show decode prog_15_method_66_code 293 = .ok (.invokevirtual 601, 3) by decide +kernel) h ?_
    intro q27 h
    exact dc_sub [0] rfl (lab_296 q27 h)
  have loop_3 : ∀ (x2 : Int32) (x3 : Int32) (q : md_S × Int32), dc_wp (dc_it (mm_run_s3 T x2 x3) q) (fun z => dc_wp ((fun (z : md_S × Int32) => mm_run_L108 T z.1 x2 x3 z.2) z) F) → dc_G X l { frames := d + 1 + 2, cells := 0, slots := 0, locals := 28 * (d + 1) + 45 } D 5 0 0 (md_W o a ca q.1) 3 [(0, .ref o), (2, .int x2), (3, .int x3), (4, .int q.2)] [] := by
    intro x2 x3
    refine dc_loopF ?_
    intro F_3 hl_3 hr_3
    have lab_93 : ∀ (S : md_S) (x4 : Int32) (y0 : Int32), dc_wp (mm_run_L93 T S x2 x3 x4 y0) F_3 → dc_G X l { frames := d + 1 + 2, cells := 0, slots := 0, locals := 28 * (d + 1) + 45 } D 5 0 0 (md_W o a ca S) 93 [(0, .ref o), (2, .int x2), (3, .int x3), (4, .int x4)] [.int y0, .ref o] := by
      intro S x4 y0 h
      delta mm_run_L93 at h
      obtain ⟨hz28, h⟩ := dc_zb_wp (dc_bind h)
      refine md_p78 (pc := 93) hC hz28 (show decode prog_15_method_66_code 93 = .ok (.putfield 573, 3) by decide +kernel) ?_
      refine dc_letS h ?_
      intro S29 h
      refine dc_aloadn (pc := 96) (j := 0) (i := 0) hC 0 rfl rfl (show decode prog_15_method_66_code 96 = .ok (.aload_n 0, 1) by decide +kernel) ?_
      refine md_g52 (pc := 97) hC (show decode prog_15_method_66_code 97 = .ok (.getfield 69, 3) by decide +kernel) ?_
      refine dc_iload (pc := 100) (i := 4) hC 3 rfl (show decode prog_15_method_66_code 100 = .ok (.iload 4, 2) by decide +kernel) ?_
      refine md_l52 (pc := 102) hC (show decode prog_15_method_66_code 102 = .ok (.iaload, 1) by decide +kernel) h ?_
      intro j30 h
      refine dc_letI h ?_
      intro v31 h
      refine dc_istore (pc := 103) (i := 4) (lv' := [(4, .int v31), (0, .ref o), (2, .int x2), (3, .int x3)]) hC (Nat.le_of_ble_eq_true rfl) rfl (show decode prog_15_method_66_code 103 = .ok (.istore 4, 2) by decide +kernel) ?_
      refine dc_goto (pc := 105) (tgt := 3) hC (show decode prog_15_method_66_code 105 = .ok (.goto (-102), 3) by decide +kernel) (by decide +kernel) ?_
      exact dc_sub [1, 2, 3, 0] rfl (hl_3 (S29, v31) (dc_some h))
    have lab_92 : ∀ (S : md_S) (x4 : Int32), dc_wp (mm_run_L92 T S x2 x3 x4) F_3 → dc_G X l { frames := d + 1 + 2, cells := 0, slots := 0, locals := 28 * (d + 1) + 45 } D 5 0 0 (md_W o a ca S) 92 [(0, .ref o), (2, .int x2), (3, .int x3), (4, .int x4)] [.ref o] := by
      intro S x4 h
      delta mm_run_L92 at h
      refine dc_iconst (pc := 92) (v := 0) hC (show decode prog_15_method_66_code 92 = .ok (.iconst 0, 1) by decide +kernel) (by decide +kernel) ?_
      exact lab_93 S x4 0 h
    have lab_88 : ∀ (S : md_S) (x4 : Int32), dc_wp (mm_run_L88 T S x2 x3 x4) F_3 → dc_G X l { frames := d + 1 + 2, cells := 0, slots := 0, locals := 28 * (d + 1) + 45 } D 5 0 0 (md_W o a ca S) 88 [(0, .ref o), (2, .int x2), (3, .int x3), (4, .int x4)] [.ref o] := by
      intro S x4 h
      delta mm_run_L88 at h
      refine dc_iconst (pc := 88) (v := 1) hC (show decode prog_15_method_66_code 88 = .ok (.iconst 1, 1) by decide +kernel) (by decide +kernel) ?_
      refine dc_goto (pc := 89) (tgt := 93) hC (show decode prog_15_method_66_code 89 = .ok (.goto 4, 3) by decide +kernel) (by decide +kernel) ?_
      exact lab_93 S x4 1 h
    have lab_53 : ∀ (S : md_S) (x4 : Int32) (y0 : Int32) (y1 : Int32) (y2 : Int32), dc_wp (mm_run_L53 T S x2 x3 x4 y0 y1 y2) F_3 → dc_G X l { frames := d + 1 + 2, cells := 0, slots := 0, locals := 28 * (d + 1) + 45 } D 5 0 0 (md_W o a ca S) 53 [(0, .ref o), (2, .int x2), (3, .int x3), (4, .int x4)] [.int y0, .int y1, .int y2, .ref (a 73)] := by
      intro S x4 y0 y1 y2 h
      delta mm_run_L53 at h
      refine dc_iadd (pc := 53) hC (show decode prog_15_method_66_code 53 = .ok (.iadd, 1) by decide +kernel) ?_
      refine md_s73 (pc := 54) hC (show decode prog_15_method_66_code 54 = .ok (.iastore, 1) by decide +kernel) h ?_
      intro j32 h
      refine dc_letS h ?_
      intro S33 h
      refine dc_aloadn (pc := 55) (j := 0) (i := 0) hC 0 rfl rfl (show decode prog_15_method_66_code 55 = .ok (.aload_n 0, 1) by decide +kernel) ?_
      refine dc_aloadn (pc := 56) (j := 0) (i := 0) hC 0 rfl rfl (show decode prog_15_method_66_code 56 = .ok (.aload_n 0, 1) by decide +kernel) ?_
      refine md_g78 (pc := 57) hC (show decode prog_15_method_66_code 57 = .ok (.getfield 573, 3) by decide +kernel) ?_
      refine dc_if_ne (pc := 60) (tgt := 88) hC (show decode prog_15_method_66_code 60 = .ok (.ifCond .ne 28, 3) by decide +kernel) (by decide +kernel) h ?_ ?_
      · intro h
        refine dc_iloadn (pc := 63) (j := 3) (i := 3) hC 2 rfl rfl (show decode prog_15_method_66_code 63 = .ok (.iload_n 3, 1) by decide +kernel) ?_
        refine dc_if_eq (pc := 64) (tgt := 92) hC (show decode prog_15_method_66_code 64 = .ok (.ifCond .eq 28, 3) by decide +kernel) (by decide +kernel) h ?_ ?_
        · intro h
          exact lab_92 S33 x4 h
        · intro h
          refine dc_aloadn (pc := 67) (j := 0) (i := 0) hC 0 rfl rfl (show decode prog_15_method_66_code 67 = .ok (.aload_n 0, 1) by decide +kernel) ?_
          refine md_g70 (pc := 68) hC (show decode prog_15_method_66_code 68 = .ok (.getfield 123, 3) by decide +kernel) ?_
          refine dc_aloadn (pc := 71) (j := 0) (i := 0) hC 0 rfl rfl (show decode prog_15_method_66_code 71 = .ok (.aload_n 0, 1) by decide +kernel) ?_
          refine md_g73 (pc := 72) hC (show decode prog_15_method_66_code 72 = .ok (.getfield 133, 3) by decide +kernel) ?_
          refine dc_aloadn (pc := 75) (j := 0) (i := 0) hC 0 rfl rfl (show decode prog_15_method_66_code 75 = .ok (.aload_n 0, 1) by decide +kernel) ?_
          refine md_g54 (pc := 76) hC (show decode prog_15_method_66_code 76 = .ok (.getfield 75, 3) by decide +kernel) ?_
          refine dc_iload (pc := 79) (i := 4) hC 3 rfl (show decode prog_15_method_66_code 79 = .ok (.iload 4, 2) by decide +kernel) ?_
          refine md_l54 (pc := 81) hC (show decode prog_15_method_66_code 81 = .ok (.iaload, 1) by decide +kernel) h ?_
          intro j34 h
          refine md_l73 (pc := 82) hC (show decode prog_15_method_66_code 82 = .ok (.iaload, 1) by decide +kernel) h ?_
          intro j35 h
          refine md_l70 (pc := 83) hC (show decode prog_15_method_66_code 83 = .ok (.iaload, 1) by decide +kernel) h ?_
          intro j36 h
          refine dc_iconst (pc := 84) (v := 2) hC (show decode prog_15_method_66_code 84 = .ok (.iconst 2, 1) by decide +kernel) (by decide +kernel) ?_
          refine dc_icmp_ne (pc := 85) (tgt := 92) hC (show decode prog_15_method_66_code 85 = .ok (.if_icmp .ne 7, 3) by decide +kernel) (by decide +kernel) h ?_ ?_
          · intro h
            exact lab_88 S33 x4 h
          · intro h
            exact lab_92 S33 x4 h
      · intro h
        exact lab_88 S33 x4 h
    rintro ⟨S, x4⟩ h
    have h : dc_wp (mm_run_b3 T S x2 x3 x4) F_3 := h
    delta mm_run_b3 at h
    refine dc_aloadn (pc := 3) (j := 0) (i := 0) hC 0 rfl rfl (show decode prog_15_method_66_code 3 = .ok (.aload_n 0, 1) by decide +kernel) ?_
    refine md_g51 (pc := 4) hC (show decode prog_15_method_66_code 4 = .ok (.getfield 66, 3) by decide +kernel) ?_
    refine dc_iload (pc := 7) (i := 4) hC 3 rfl (show decode prog_15_method_66_code 7 = .ok (.iload 4, 2) by decide +kernel) ?_
    refine md_l51 (pc := 9) hC (show decode prog_15_method_66_code 9 = .ok (.iaload, 1) by decide +kernel) h ?_
    intro j37 h
    refine dc_bipush (pc := 10) (v := 10) hC (show decode prog_15_method_66_code 10 = .ok (.bipush 10, 2) by decide +kernel) (by decide +kernel) ?_
    refine dc_icmp_ne (pc := 12) (tgt := 108) hC (show decode prog_15_method_66_code 12 = .ok (.if_icmp .ne 96, 3) by decide +kernel) (by decide +kernel) h ?_ ?_
    · intro h
      refine dc_aloadn (pc := 15) (j := 0) (i := 0) hC 0 rfl rfl (show decode prog_15_method_66_code 15 = .ok (.aload_n 0, 1) by decide +kernel) ?_
      refine md_g73 (pc := 16) hC (show decode prog_15_method_66_code 16 = .ok (.getfield 133, 3) by decide +kernel) ?_
      refine dc_aloadn (pc := 19) (j := 0) (i := 0) hC 0 rfl rfl (show decode prog_15_method_66_code 19 = .ok (.aload_n 0, 1) by decide +kernel) ?_
      refine md_g54 (pc := 20) hC (show decode prog_15_method_66_code 20 = .ok (.getfield 75, 3) by decide +kernel) ?_
      refine dc_iload (pc := 23) (i := 4) hC 3 rfl (show decode prog_15_method_66_code 23 = .ok (.iload 4, 2) by decide +kernel) ?_
      refine md_l54 (pc := 25) hC (show decode prog_15_method_66_code 25 = .ok (.iaload, 1) by decide +kernel) h ?_
      intro j38 h
      refine dc_aloadn (pc := 26) (j := 0) (i := 0) hC 0 rfl rfl (show decode prog_15_method_66_code 26 = .ok (.aload_n 0, 1) by decide +kernel) ?_
      refine md_g61 (pc := 27) hC (show decode prog_15_method_66_code 27 = .ok (.getfield 96, 3) by decide +kernel) ?_
      refine dc_iload (pc := 30) (i := 4) hC 3 rfl (show decode prog_15_method_66_code 30 = .ok (.iload 4, 2) by decide +kernel) ?_
      refine md_l61 (pc := 32) hC (show decode prog_15_method_66_code 32 = .ok (.iaload, 1) by decide +kernel) h ?_
      intro j39 h
      refine dc_iloadn (pc := 33) (j := 2) (i := 2) hC 1 rfl rfl (show decode prog_15_method_66_code 33 = .ok (.iload_n 2, 1) by decide +kernel) ?_
      refine dc_if_eq (pc := 34) (tgt := 46) hC (show decode prog_15_method_66_code 34 = .ok (.ifCond .eq 12, 3) by decide +kernel) (by decide +kernel) h ?_ ?_
      · intro h
        refine dc_aloadn (pc := 46) (j := 0) (i := 0) hC 0 rfl rfl (show decode prog_15_method_66_code 46 = .ok (.aload_n 0, 1) by decide +kernel) ?_
        refine md_g57 (pc := 47) hC (show decode prog_15_method_66_code 47 = .ok (.getfield 84, 3) by decide +kernel) ?_
        refine dc_iload (pc := 50) (i := 4) hC 3 rfl (show decode prog_15_method_66_code 50 = .ok (.iload 4, 2) by decide +kernel) ?_
        refine md_l57 (pc := 52) hC (show decode prog_15_method_66_code 52 = .ok (.iaload, 1) by decide +kernel) h ?_
        intro j40 h
        exact lab_53 S x4 (S.2.1 57 j40) (S.2.1 61 j39) (S.2.1 54 j38) h
      · intro h
        refine dc_aloadn (pc := 37) (j := 0) (i := 0) hC 0 rfl rfl (show decode prog_15_method_66_code 37 = .ok (.aload_n 0, 1) by decide +kernel) ?_
        refine md_g79 (pc := 38) hC (show decode prog_15_method_66_code 38 = .ok (.getfield 570, 3) by decide +kernel) ?_
        refine dc_iconst (pc := 41) (v := 1) hC (show decode prog_15_method_66_code 41 = .ok (.iconst 1, 1) by decide +kernel) (by decide +kernel) ?_
        refine dc_isub (pc := 42) hC (show decode prog_15_method_66_code 42 = .ok (.isub, 1) by decide +kernel) ?_
        refine dc_goto (pc := 43) (tgt := 53) hC (show decode prog_15_method_66_code 43 = .ok (.goto 10, 3) by decide +kernel) (by decide +kernel) ?_
        exact lab_53 S x4 ((S.1 79) - 1) (S.2.1 61 j39) (S.2.1 54 j38) h
    · intro h
      have h : dc_wp (mm_run_L108 T S x2 x3 x4) F := hr_3 (S, x4) (dc_some h)
      exact lab_108 S x2 x3 x4 h
  have lab_3 : ∀ (S : md_S) (x2 : Int32) (x3 : Int32) (x4 : Int32), dc_wp (mm_run_L3 T S x2 x3 x4) F → dc_G X l { frames := d + 1 + 2, cells := 0, slots := 0, locals := 28 * (d + 1) + 45 } D 5 0 0 (md_W o a ca S) 3 [(0, .ref o), (2, .int x2), (3, .int x3), (4, .int x4)] [] := fun S x2 x3 x4 h => loop_3 x2 x3 (S, x4) (dc_bind h)
  show dc_G X l { frames := d + 1 + 2, cells := 0, slots := 0, locals := 28 * (d + 1) + 45 } D 5 0 0 (md_W o a ca S) 0 [(0, .ref o), (1, .int p1), (2, .int p2), (3, .int p3)] []
  delta mm_run at h
  refine dc_iloadn (pc := 0) (j := 1) (i := 1) hC 1 rfl rfl (show decode prog_15_method_66_code 0 = .ok (.iload_n 1, 1) by decide +kernel) ?_
  refine dc_istore (pc := 1) (i := 4) (lv' := [(4, .int p1), (0, .ref o), (1, .int p1), (2, .int p2), (3, .int p3)]) hC (Nat.le_of_ble_eq_true rfl) rfl (show decode prog_15_method_66_code 1 = .ok (.istore 4, 2) by decide +kernel) ?_
  exact dc_sub [1, 3, 4, 0] rfl (lab_3 S p2 p3 p1 h)
noncomputable def mm_present_IZZ_L79 (T : mm_T3) (S : md_S) (x3 : Int32) (y0 : Int32) : Option (md_S) :=
  (T.1 S y0 1 x3).bind fun q1 => some q1
noncomputable def mm_present_IZZ_L33 (T : mm_T3) (S : md_S) (x3 : Int32) (y0 : Int32) : Option (md_S) :=
  (T.1 S y0 0 x3).bind fun q2 => some q2
noncomputable def mm_present_IZZ (T : mm_T3) (S : md_S) (p1 : Int32) (p2 : Int32) (p3 : Int32) : Option (md_S) :=
  if p2 = 0 then ((dc_ix p1 1200).bind fun j3 => (mm_has S (S.2.1 52 j3)).bind fun q4 => if q4 = 0 then ((dc_ix p1 1200).bind fun j5 => mm_present_IZZ_L33 T S p3 (S.2.1 53 j5)) else ((dc_ix p1 1200).bind fun j6 => mm_present_IZZ_L33 T S p3 (S.2.1 52 j6))) else ((dc_ix p1 1200).bind fun j7 => (mm_truth S (S.2.1 54 j7)).bind fun q8 => if q8.2 = 2 then ((dc_ix p1 1200).bind fun j9 => (T.1 q8.1 (q8.1.2.1 52 j9) 1 0).bind fun q10 => dc_let ((q10.1 81) : Int32) fun v11 => (dc_ix p1 1200).bind fun j12 => (T.1 q10 (q10.2.1 53 j12) 1 0).bind fun q13 => (mm_outcome q13 (v11 ||| (q13.1 81)) (-1)).bind fun q14 => some q14) else (if q8.2 = 1 then ((dc_ix p1 1200).bind fun j15 => mm_present_IZZ_L79 T q8.1 p3 (q8.1.2.1 52 j15)) else ((dc_ix p1 1200).bind fun j16 => mm_present_IZZ_L79 T q8.1 p3 (q8.1.2.1 53 j16))))
set_option maxHeartbeats 4000000 in
set_option maxRecDepth 100000 in
/-- present(IZZ)V -/
theorem mm_present_IZZ_ok (l : Launch) (D : va_G) (ad : Nat → Nat) (de : Nat) (o : Nat) (a : Nat → Nat) (ca : Nat → ClassId) (T : mm_T3) (d : Nat) (hT : mm_OK3 l D ad de o a ca T d) (S : md_S) (p1 : Int32) (p2 : Int32) (p3 : Int32) (F : md_S → Prop) (h : dc_wp (mm_present_IZZ T S p1 p2 p3) F) : dc_Cv l ⟨"SignalEngineModel", "present", "(IZZ)V"⟩ prog_15_method_68_code 6 none (d + 1 + 2) (28 * (d + 1) + 45) D (md_T ca) ad de [.ref o, .int p1, .int p2, .int p3] (md_W o a ca S) (fun w => ∃ q, F q ∧ w = md_W o a ca q) 0 0 := by
  refine dc_enterv (by decide +kernel) (Nat.le_of_ble_eq_true rfl) ?_
  intro X hC hR
  have lab_79 : ∀ (S : md_S) (x3 : Int32) (y0 : Int32), dc_wp (mm_present_IZZ_L79 T S x3 y0) F → dc_G X l { frames := d + 1 + 2, cells := 0, slots := 0, locals := 28 * (d + 1) + 45 } D 6 0 0 (md_W o a ca S) 79 [(0, .ref o), (3, .int x3)] [.int y0, .ref o] := by
    intro S x3 y0 h
    delta mm_present_IZZ_L79 at h
    refine dc_iconst (pc := 79) (v := 1) hC (show decode prog_15_method_68_code 79 = .ok (.iconst 1, 1) by decide +kernel) (by decide +kernel) ?_
    refine dc_iloadn (pc := 80) (j := 3) (i := 3) hC 1 rfl rfl (show decode prog_15_method_68_code 80 = .ok (.iload_n 3, 1) by decide +kernel) ?_
    refine mc_Vmv (pc := 81) (As := [.int y0, .int 1, .int x3]) (rest := []) hC vw_run_591 (hT.1 S y0 1 x3) (by omega) (by omega) rfl (Nat.le_of_ble_eq_true rfl) (show decode prog_15_method_68_code 81 = .ok (.invokevirtual 591, 3) by decide +kernel) h ?_
    intro q1 h
    exact dc_vret (pc := 84) hC hR ⟨_, dc_some h, rfl⟩ (show decode prog_15_method_68_code 84 = .ok (.return_, 1) by decide +kernel)
  have lab_33 : ∀ (S : md_S) (x3 : Int32) (y0 : Int32), dc_wp (mm_present_IZZ_L33 T S x3 y0) F → dc_G X l { frames := d + 1 + 2, cells := 0, slots := 0, locals := 28 * (d + 1) + 45 } D 6 0 0 (md_W o a ca S) 33 [(0, .ref o), (3, .int x3)] [.int y0, .ref o] := by
    intro S x3 y0 h
    delta mm_present_IZZ_L33 at h
    refine dc_iconst (pc := 33) (v := 0) hC (show decode prog_15_method_68_code 33 = .ok (.iconst 0, 1) by decide +kernel) (by decide +kernel) ?_
    refine dc_iloadn (pc := 34) (j := 3) (i := 3) hC 1 rfl rfl (show decode prog_15_method_68_code 34 = .ok (.iload_n 3, 1) by decide +kernel) ?_
    refine mc_Vmv (pc := 35) (As := [.int y0, .int 0, .int x3]) (rest := []) hC vw_run_591 (hT.1 S y0 0 x3) (by omega) (by omega) rfl (Nat.le_of_ble_eq_true rfl) (show decode prog_15_method_68_code 35 = .ok (.invokevirtual 591, 3) by decide +kernel) h ?_
    intro q2 h
    exact dc_vret (pc := 38) hC hR ⟨_, dc_some h, rfl⟩ (show decode prog_15_method_68_code 38 = .ok (.return_, 1) by decide +kernel)
  show dc_G X l { frames := d + 1 + 2, cells := 0, slots := 0, locals := 28 * (d + 1) + 45 } D 6 0 0 (md_W o a ca S) 0 [(0, .ref o), (1, .int p1), (2, .int p2), (3, .int p3)] []
  delta mm_present_IZZ at h
  refine dc_iloadn (pc := 0) (j := 2) (i := 2) hC 2 rfl rfl (show decode prog_15_method_68_code 0 = .ok (.iload_n 2, 1) by decide +kernel) ?_
  refine dc_if_ne (pc := 1) (tgt := 39) hC (show decode prog_15_method_68_code 1 = .ok (.ifCond .ne 38, 3) by decide +kernel) (by decide +kernel) h ?_ ?_
  · intro h
    refine dc_aloadn (pc := 4) (j := 0) (i := 0) hC 0 rfl rfl (show decode prog_15_method_68_code 4 = .ok (.aload_n 0, 1) by decide +kernel) ?_
    refine dc_aloadn (pc := 5) (j := 0) (i := 0) hC 0 rfl rfl (show decode prog_15_method_68_code 5 = .ok (.aload_n 0, 1) by decide +kernel) ?_
    refine dc_aloadn (pc := 6) (j := 0) (i := 0) hC 0 rfl rfl (show decode prog_15_method_68_code 6 = .ok (.aload_n 0, 1) by decide +kernel) ?_
    refine md_g52 (pc := 7) hC (show decode prog_15_method_68_code 7 = .ok (.getfield 69, 3) by decide +kernel) ?_
    refine dc_iloadn (pc := 10) (j := 1) (i := 1) hC 1 rfl rfl (show decode prog_15_method_68_code 10 = .ok (.iload_n 1, 1) by decide +kernel) ?_
    refine md_l52 (pc := 11) hC (show decode prog_15_method_68_code 11 = .ok (.iaload, 1) by decide +kernel) h ?_
    intro j3 h
    refine mc_Vpi (pc := 12) (As := [.int (S.2.1 52 j3)]) (rest := [.ref o]) hC vw_has_604 (mm_has_ok l D ad de o a ca S (S.2.1 52 j3)) (by omega) (by omega) rfl (Nat.le_of_ble_eq_true rfl) (show decode prog_15_method_68_code 12 = .ok (.invokevirtual 604, 3) by decide +kernel) h ?_
    intro q4 h
    refine dc_if_eq (pc := 15) (tgt := 27) hC (show decode prog_15_method_68_code 15 = .ok (.ifCond .eq 12, 3) by decide +kernel) (by decide +kernel) h ?_ ?_
    · intro h
      refine dc_aloadn (pc := 27) (j := 0) (i := 0) hC 0 rfl rfl (show decode prog_15_method_68_code 27 = .ok (.aload_n 0, 1) by decide +kernel) ?_
      refine md_g53 (pc := 28) hC (show decode prog_15_method_68_code 28 = .ok (.getfield 72, 3) by decide +kernel) ?_
      refine dc_iloadn (pc := 31) (j := 1) (i := 1) hC 1 rfl rfl (show decode prog_15_method_68_code 31 = .ok (.iload_n 1, 1) by decide +kernel) ?_
      refine md_l53 (pc := 32) hC (show decode prog_15_method_68_code 32 = .ok (.iaload, 1) by decide +kernel) h ?_
      intro j5 h
      exact dc_sub [0, 3] rfl (lab_33 S p3 (S.2.1 53 j5) h)
    · intro h
      refine dc_aloadn (pc := 18) (j := 0) (i := 0) hC 0 rfl rfl (show decode prog_15_method_68_code 18 = .ok (.aload_n 0, 1) by decide +kernel) ?_
      refine md_g52 (pc := 19) hC (show decode prog_15_method_68_code 19 = .ok (.getfield 69, 3) by decide +kernel) ?_
      refine dc_iloadn (pc := 22) (j := 1) (i := 1) hC 1 rfl rfl (show decode prog_15_method_68_code 22 = .ok (.iload_n 1, 1) by decide +kernel) ?_
      refine md_l52 (pc := 23) hC (show decode prog_15_method_68_code 23 = .ok (.iaload, 1) by decide +kernel) h ?_
      intro j6 h
      refine dc_goto (pc := 24) (tgt := 33) hC (show decode prog_15_method_68_code 24 = .ok (.goto 9, 3) by decide +kernel) (by decide +kernel) ?_
      exact dc_sub [0, 3] rfl (lab_33 S p3 (S.2.1 52 j6) h)
  · intro h
    refine dc_aloadn (pc := 39) (j := 0) (i := 0) hC 0 rfl rfl (show decode prog_15_method_68_code 39 = .ok (.aload_n 0, 1) by decide +kernel) ?_
    refine dc_aloadn (pc := 40) (j := 0) (i := 0) hC 0 rfl rfl (show decode prog_15_method_68_code 40 = .ok (.aload_n 0, 1) by decide +kernel) ?_
    refine md_g54 (pc := 41) hC (show decode prog_15_method_68_code 41 = .ok (.getfield 75, 3) by decide +kernel) ?_
    refine dc_iloadn (pc := 44) (j := 1) (i := 1) hC 1 rfl rfl (show decode prog_15_method_68_code 44 = .ok (.iload_n 1, 1) by decide +kernel) ?_
    refine md_l54 (pc := 45) hC (show decode prog_15_method_68_code 45 = .ok (.iaload, 1) by decide +kernel) h ?_
    intro j7 h
    refine mc_Vmi (pc := 46) (As := [.int (S.2.1 54 j7)]) (rest := []) hC vw_truth_607 (mm_truth_ok l D ad de o a ca S (S.2.1 54 j7)) (by omega) (by omega) rfl (Nat.le_of_ble_eq_true rfl) (show decode prog_15_method_68_code 46 = .ok (.invokevirtual 607, 3) by decide +kernel) h ?_
    intro q8 h
    refine dc_istore (pc := 49) (i := 4) (lv' := [(4, .int q8.2), (0, .ref o), (1, .int p1), (2, .int p2), (3, .int p3)]) hC (Nat.le_of_ble_eq_true rfl) rfl (show decode prog_15_method_68_code 49 = .ok (.istore 4, 2) by decide +kernel) ?_
    refine dc_iload (pc := 51) (i := 4) hC 0 rfl (show decode prog_15_method_68_code 51 = .ok (.iload 4, 2) by decide +kernel) ?_
    refine dc_iconst (pc := 53) (v := 2) hC (show decode prog_15_method_68_code 53 = .ok (.iconst 2, 1) by decide +kernel) (by decide +kernel) ?_
    refine dc_icmp_eq (pc := 54) (tgt := 85) hC (show decode prog_15_method_68_code 54 = .ok (.if_icmp .eq 31, 3) by decide +kernel) (by decide +kernel) h ?_ ?_
    · intro h
      refine dc_aloadn (pc := 85) (j := 0) (i := 0) hC 1 rfl rfl (show decode prog_15_method_68_code 85 = .ok (.aload_n 0, 1) by decide +kernel) ?_
      refine dc_aloadn (pc := 86) (j := 0) (i := 0) hC 1 rfl rfl (show decode prog_15_method_68_code 86 = .ok (.aload_n 0, 1) by decide +kernel) ?_
      refine md_g52 (pc := 87) hC (show decode prog_15_method_68_code 87 = .ok (.getfield 69, 3) by decide +kernel) ?_
      refine dc_iloadn (pc := 90) (j := 1) (i := 1) hC 2 rfl rfl (show decode prog_15_method_68_code 90 = .ok (.iload_n 1, 1) by decide +kernel) ?_
      refine md_l52 (pc := 91) hC (show decode prog_15_method_68_code 91 = .ok (.iaload, 1) by decide +kernel) h ?_
      intro j9 h
      refine dc_iconst (pc := 92) (v := 1) hC (show decode prog_15_method_68_code 92 = .ok (.iconst 1, 1) by decide +kernel) (by decide +kernel) ?_
      refine dc_iconst (pc := 93) (v := 0) hC (show decode prog_15_method_68_code 93 = .ok (.iconst 0, 1) by decide +kernel) (by decide +kernel) ?_
      refine mc_Vmv (pc := 94) (As := [.int (q8.1.2.1 52 j9), .int 1, .int 0]) (rest := []) hC vw_run_591 (hT.1 q8.1 (q8.1.2.1 52 j9) 1 0) (by omega) (by omega) rfl (Nat.le_of_ble_eq_true rfl) (show decode prog_15_method_68_code 94 = .ok (.invokevirtual 591, 3) by decide +kernel) h ?_
      intro q10 h
      refine dc_aloadn (pc := 97) (j := 0) (i := 0) hC 1 rfl rfl (show decode prog_15_method_68_code 97 = .ok (.aload_n 0, 1) by decide +kernel) ?_
      refine md_g81 (pc := 98) hC (show decode prog_15_method_68_code 98 = .ok (.getfield 564, 3) by decide +kernel) ?_
      refine dc_letI h ?_
      intro v11 h
      refine dc_istore (pc := 101) (i := 5) (lv' := [(5, .int v11), (4, .int q8.2), (0, .ref o), (1, .int p1), (2, .int p2), (3, .int p3)]) hC (Nat.le_of_ble_eq_true rfl) rfl (show decode prog_15_method_68_code 101 = .ok (.istore 5, 2) by decide +kernel) ?_
      refine dc_aloadn (pc := 103) (j := 0) (i := 0) hC 2 rfl rfl (show decode prog_15_method_68_code 103 = .ok (.aload_n 0, 1) by decide +kernel) ?_
      refine dc_aloadn (pc := 104) (j := 0) (i := 0) hC 2 rfl rfl (show decode prog_15_method_68_code 104 = .ok (.aload_n 0, 1) by decide +kernel) ?_
      refine md_g53 (pc := 105) hC (show decode prog_15_method_68_code 105 = .ok (.getfield 72, 3) by decide +kernel) ?_
      refine dc_iloadn (pc := 108) (j := 1) (i := 1) hC 3 rfl rfl (show decode prog_15_method_68_code 108 = .ok (.iload_n 1, 1) by decide +kernel) ?_
      refine md_l53 (pc := 109) hC (show decode prog_15_method_68_code 109 = .ok (.iaload, 1) by decide +kernel) h ?_
      intro j12 h
      refine dc_iconst (pc := 110) (v := 1) hC (show decode prog_15_method_68_code 110 = .ok (.iconst 1, 1) by decide +kernel) (by decide +kernel) ?_
      refine dc_iconst (pc := 111) (v := 0) hC (show decode prog_15_method_68_code 111 = .ok (.iconst 0, 1) by decide +kernel) (by decide +kernel) ?_
      refine mc_Vmv (pc := 112) (As := [.int (q10.2.1 53 j12), .int 1, .int 0]) (rest := []) hC vw_run_591 (hT.1 q10 (q10.2.1 53 j12) 1 0) (by omega) (by omega) rfl (Nat.le_of_ble_eq_true rfl) (show decode prog_15_method_68_code 112 = .ok (.invokevirtual 591, 3) by decide +kernel) h ?_
      intro q13 h
      refine dc_aloadn (pc := 115) (j := 0) (i := 0) hC 2 rfl rfl (show decode prog_15_method_68_code 115 = .ok (.aload_n 0, 1) by decide +kernel) ?_
      refine dc_iload (pc := 116) (i := 5) hC 0 rfl (show decode prog_15_method_68_code 116 = .ok (.iload 5, 2) by decide +kernel) ?_
      refine dc_aloadn (pc := 118) (j := 0) (i := 0) hC 2 rfl rfl (show decode prog_15_method_68_code 118 = .ok (.aload_n 0, 1) by decide +kernel) ?_
      refine md_g81 (pc := 119) hC (show decode prog_15_method_68_code 119 = .ok (.getfield 564, 3) by decide +kernel) ?_
      refine dc_ior (pc := 122) hC (show decode prog_15_method_68_code 122 = .ok (.ior, 1) by decide +kernel) ?_
      refine dc_iconst (pc := 123) (v := (-1)) hC (show decode prog_15_method_68_code 123 = .ok (.iconst (-1), 1) by decide +kernel) (by decide +kernel) ?_
      refine mc_Vmv (pc := 124) (As := [.int (v11 ||| (q13.1 81)), .int (-1)]) (rest := []) hC vw_outcome_579 (mm_outcome_ok l D ad de o a ca q13 (v11 ||| (q13.1 81)) (-1)) (by omega) (by omega) rfl (Nat.le_of_ble_eq_true rfl) (show decode prog_15_method_68_code 124 = .ok (.invokevirtual 579, 3) by decide +kernel) h ?_
      intro q14 h
      exact dc_vret (pc := 127) hC hR ⟨_, dc_some h, rfl⟩ (show decode prog_15_method_68_code 127 = .ok (.return_, 1) by decide +kernel)
    · intro h
      refine dc_aloadn (pc := 57) (j := 0) (i := 0) hC 1 rfl rfl (show decode prog_15_method_68_code 57 = .ok (.aload_n 0, 1) by decide +kernel) ?_
      refine dc_iload (pc := 58) (i := 4) hC 0 rfl (show decode prog_15_method_68_code 58 = .ok (.iload 4, 2) by decide +kernel) ?_
      refine dc_iconst (pc := 60) (v := 1) hC (show decode prog_15_method_68_code 60 = .ok (.iconst 1, 1) by decide +kernel) (by decide +kernel) ?_
      refine dc_icmp_ne (pc := 61) (tgt := 73) hC (show decode prog_15_method_68_code 61 = .ok (.if_icmp .ne 12, 3) by decide +kernel) (by decide +kernel) h ?_ ?_
      · intro h
        refine dc_aloadn (pc := 64) (j := 0) (i := 0) hC 1 rfl rfl (show decode prog_15_method_68_code 64 = .ok (.aload_n 0, 1) by decide +kernel) ?_
        refine md_g52 (pc := 65) hC (show decode prog_15_method_68_code 65 = .ok (.getfield 69, 3) by decide +kernel) ?_
        refine dc_iloadn (pc := 68) (j := 1) (i := 1) hC 2 rfl rfl (show decode prog_15_method_68_code 68 = .ok (.iload_n 1, 1) by decide +kernel) ?_
        refine md_l52 (pc := 69) hC (show decode prog_15_method_68_code 69 = .ok (.iaload, 1) by decide +kernel) h ?_
        intro j15 h
        refine dc_goto (pc := 70) (tgt := 79) hC (show decode prog_15_method_68_code 70 = .ok (.goto 9, 3) by decide +kernel) (by decide +kernel) ?_
        exact dc_sub [1, 4] rfl (lab_79 q8.1 p3 (q8.1.2.1 52 j15) h)
      · intro h
        refine dc_aloadn (pc := 73) (j := 0) (i := 0) hC 1 rfl rfl (show decode prog_15_method_68_code 73 = .ok (.aload_n 0, 1) by decide +kernel) ?_
        refine md_g53 (pc := 74) hC (show decode prog_15_method_68_code 74 = .ok (.getfield 72, 3) by decide +kernel) ?_
        refine dc_iloadn (pc := 77) (j := 1) (i := 1) hC 2 rfl rfl (show decode prog_15_method_68_code 77 = .ok (.iload_n 1, 1) by decide +kernel) ?_
        refine md_l53 (pc := 78) hC (show decode prog_15_method_68_code 78 = .ok (.iaload, 1) by decide +kernel) h ?_
        intro j16 h
        exact dc_sub [1, 4] rfl (lab_79 q8.1 p3 (q8.1.2.1 53 j16) h)
noncomputable def mm_suspended_L134 (T : mm_T3) (S : md_S) (y0 : Int32) (y1 : Int32) : Option (md_S) :=
  (mm_outcome S y1 y0).bind fun q1 => some q1
noncomputable def mm_suspended_L123 (T : mm_T3) (S : md_S) (x3 : Int32) : Option (md_S) :=
  if x3 = 0 then (mm_suspended_L134 T S (-1) 2) else (mm_suspended_L134 T S 1 2)
noncomputable def mm_suspended_b83 (T : mm_T3) (S : md_S) (x1 : Int32) (x3 : Int32) (x5 : Int32) : Option ((md_S × Int32) ⊕ ((md_S))) :=
  (dc_ix x1 1200).bind fun j2 => (dc_ix (S.2.1 59 j2) 1201).bind fun j3 => if x5 < (S.2.1 62 j3) then (if x3 = 0 then (some (.inr S)) else ((dc_ix x5 200).bind fun j4 => (dc_zb (S.2.1 74 j4)).bind fun _ => (dc_ix x5 200).bind fun j6 => dc_let (md_a S 75 j6 (S.2.1 74 j4)) fun S7 => some (.inl (S7, (x5 + 1))))) else (some (.inr S))
noncomputable def mm_suspended_s83 (T : mm_T3) (x1 : Int32) (x3 : Int32) (q : md_S × Int32) : Option ((md_S × Int32) ⊕ ((md_S))) :=
  mm_suspended_b83 T q.1 x1 x3 q.2
noncomputable def mm_suspended_L83 (T : mm_T3) (S : md_S) (x1 : Int32) (x3 : Int32) (x5 : Int32) : Option (md_S) :=
  (dc_it (mm_suspended_s83 T x1 x3) (S, x5)).bind (fun (z : md_S) => mm_suspended_L123 T z x3)
noncomputable def mm_suspended_L68 (T : mm_T3) (S : md_S) (x1 : Int32) (x3 : Int32) (x4 : Int32) : Option (md_S) :=
  if x4 = 1 then ((dc_ix x1 1201).bind fun j8 => dc_let ((S.2.1 62 j8) : Int32) fun v9 => mm_suspended_L83 T S x1 x3 v9) else (some S)
noncomputable def mm_suspended_L51 (T : mm_T3) (S : md_S) (x1 : Int32) (x3 : Int32) (x4 : Int32) : Option (md_S) :=
  if x4 = 2 then ((mm_outcome S ((S.1 81) ||| 2) (-1)).bind fun q10 => mm_suspended_L68 T q10 x1 x3 x4) else (mm_suspended_L68 T S x1 x3 x4)
noncomputable def mm_suspended_L48 (T : mm_T3) (S : md_S) (x1 : Int32) (x3 : Int32) (x4 : Int32) (y0 : Int32) (y1 : Int32) (y2 : Int32) : Option (md_S) :=
  (T.1 S y2 y1 y0).bind fun q11 => mm_suspended_L51 T q11 x1 x3 x4
noncomputable def mm_suspended_L47 (T : mm_T3) (S : md_S) (x1 : Int32) (x3 : Int32) (x4 : Int32) (y0 : Int32) (y1 : Int32) : Option (md_S) :=
  mm_suspended_L48 T S x1 x3 x4 0 y0 y1
noncomputable def mm_suspended_L18 (T : mm_T3) (S : md_S) (x1 : Int32) (x2 : Int32) (x3 : Int32) (y0 : Int32) : Option (md_S) :=
  if y0 = 1 then (mm_suspended_L51 T S x1 x3 y0) else ((dc_ix x1 1200).bind fun j12 => if x3 = 0 then (mm_suspended_L47 T S x1 x3 y0 x2 (S.2.1 52 j12)) else (if y0 = 0 then (mm_suspended_L48 T S x1 x3 y0 1 x2 (S.2.1 52 j12)) else (mm_suspended_L47 T S x1 x3 y0 x2 (S.2.1 52 j12))))
noncomputable def mm_suspended (T : mm_T3) (S : md_S) (p1 : Int32) (p2 : Int32) (p3 : Int32) : Option (md_S) :=
  if p2 = 0 then ((dc_ix p1 1200).bind fun j13 => (mm_truth S (S.2.1 54 j13)).bind fun q14 => mm_suspended_L18 T q14.1 p1 p2 p3 q14.2) else (mm_suspended_L18 T S p1 p2 p3 0)
set_option maxHeartbeats 4000000 in
set_option maxRecDepth 100000 in
/-- suspended(IZZ)V -/
theorem mm_suspended_ok (l : Launch) (D : va_G) (ad : Nat → Nat) (de : Nat) (o : Nat) (a : Nat → Nat) (ca : Nat → ClassId) (T : mm_T3) (d : Nat) (hT : mm_OK3 l D ad de o a ca T d) (S : md_S) (p1 : Int32) (p2 : Int32) (p3 : Int32) (F : md_S → Prop) (h : dc_wp (mm_suspended T S p1 p2 p3) F) : dc_Cv l ⟨"SignalEngineModel", "suspended", "(IZZ)V"⟩ prog_15_method_69_code 6 none (d + 1 + 2) (28 * (d + 1) + 45) D (md_T ca) ad de [.ref o, .int p1, .int p2, .int p3] (md_W o a ca S) (fun w => ∃ q, F q ∧ w = md_W o a ca q) 0 0 := by
  refine dc_enterv (by decide +kernel) (Nat.le_of_ble_eq_true rfl) ?_
  intro X hC hR
  have lab_134 : ∀ (S : md_S) (y0 : Int32) (y1 : Int32), dc_wp (mm_suspended_L134 T S y0 y1) F → dc_G X l { frames := d + 1 + 2, cells := 0, slots := 0, locals := 28 * (d + 1) + 45 } D 6 0 0 (md_W o a ca S) 134 [(0, .ref o)] [.int y0, .int y1, .ref o] := by
    intro S y0 y1 h
    delta mm_suspended_L134 at h
    refine mc_Vmv (pc := 134) (As := [.int y1, .int y0]) (rest := []) hC vw_outcome_579 (mm_outcome_ok l D ad de o a ca S y1 y0) (by omega) (by omega) rfl (Nat.le_of_ble_eq_true rfl) (show decode prog_15_method_69_code 134 = .ok (.invokevirtual 579, 3) by decide +kernel) h ?_
    intro q1 h
    exact dc_vret (pc := 137) hC hR ⟨_, dc_some h, rfl⟩ (show decode prog_15_method_69_code 137 = .ok (.return_, 1) by decide +kernel)
  have lab_123 : ∀ (S : md_S) (x3 : Int32), dc_wp (mm_suspended_L123 T S x3) F → dc_G X l { frames := d + 1 + 2, cells := 0, slots := 0, locals := 28 * (d + 1) + 45 } D 6 0 0 (md_W o a ca S) 123 [(0, .ref o), (3, .int x3)] [] := by
    intro S x3 h
    delta mm_suspended_L123 at h
    refine dc_aloadn (pc := 123) (j := 0) (i := 0) hC 0 rfl rfl (show decode prog_15_method_69_code 123 = .ok (.aload_n 0, 1) by decide +kernel) ?_
    refine dc_iconst (pc := 124) (v := 2) hC (show decode prog_15_method_69_code 124 = .ok (.iconst 2, 1) by decide +kernel) (by decide +kernel) ?_
    refine dc_iloadn (pc := 125) (j := 3) (i := 3) hC 1 rfl rfl (show decode prog_15_method_69_code 125 = .ok (.iload_n 3, 1) by decide +kernel) ?_
    refine dc_if_eq (pc := 126) (tgt := 133) hC (show decode prog_15_method_69_code 126 = .ok (.ifCond .eq 7, 3) by decide +kernel) (by decide +kernel) h ?_ ?_
    · intro h
      refine dc_iconst (pc := 133) (v := (-1)) hC (show decode prog_15_method_69_code 133 = .ok (.iconst (-1), 1) by decide +kernel) (by decide +kernel) ?_
      exact dc_sub [0] rfl (lab_134 S (-1) 2 h)
    · intro h
      refine dc_iconst (pc := 129) (v := 1) hC (show decode prog_15_method_69_code 129 = .ok (.iconst 1, 1) by decide +kernel) (by decide +kernel) ?_
      refine dc_goto (pc := 130) (tgt := 134) hC (show decode prog_15_method_69_code 130 = .ok (.goto 4, 3) by decide +kernel) (by decide +kernel) ?_
      exact dc_sub [0] rfl (lab_134 S 1 2 h)
  have loop_83 : ∀ (x1 : Int32) (x3 : Int32) (q : md_S × Int32), dc_wp (dc_it (mm_suspended_s83 T x1 x3) q) (fun z => dc_wp ((fun (z : md_S) => mm_suspended_L123 T z x3) z) F) → dc_G X l { frames := d + 1 + 2, cells := 0, slots := 0, locals := 28 * (d + 1) + 45 } D 6 0 0 (md_W o a ca q.1) 83 [(0, .ref o), (1, .int x1), (3, .int x3), (5, .int q.2)] [] := by
    intro x1 x3
    refine dc_loopF ?_
    intro F_83 hl_83 hr_83
    rintro ⟨S, x5⟩ h
    have h : dc_wp (mm_suspended_b83 T S x1 x3 x5) F_83 := h
    delta mm_suspended_b83 at h
    refine dc_iload (pc := 83) (i := 5) hC 3 rfl (show decode prog_15_method_69_code 83 = .ok (.iload 5, 2) by decide +kernel) ?_
    refine dc_aloadn (pc := 85) (j := 0) (i := 0) hC 0 rfl rfl (show decode prog_15_method_69_code 85 = .ok (.aload_n 0, 1) by decide +kernel) ?_
    refine md_g62 (pc := 86) hC (show decode prog_15_method_69_code 86 = .ok (.getfield 99, 3) by decide +kernel) ?_
    refine dc_aloadn (pc := 89) (j := 0) (i := 0) hC 0 rfl rfl (show decode prog_15_method_69_code 89 = .ok (.aload_n 0, 1) by decide +kernel) ?_
    refine md_g59 (pc := 90) hC (show decode prog_15_method_69_code 90 = .ok (.getfield 90, 3) by decide +kernel) ?_
    refine dc_iloadn (pc := 93) (j := 1) (i := 1) hC 1 rfl rfl (show decode prog_15_method_69_code 93 = .ok (.iload_n 1, 1) by decide +kernel) ?_
    refine md_l59 (pc := 94) hC (show decode prog_15_method_69_code 94 = .ok (.iaload, 1) by decide +kernel) h ?_
    intro j2 h
    refine md_l62 (pc := 95) hC (show decode prog_15_method_69_code 95 = .ok (.iaload, 1) by decide +kernel) h ?_
    intro j3 h
    refine dc_icmp_ge (pc := 96) (tgt := 123) hC (show decode prog_15_method_69_code 96 = .ok (.if_icmp .ge 27, 3) by decide +kernel) (by decide +kernel) h ?_ ?_
    · intro h
      refine dc_iloadn (pc := 99) (j := 3) (i := 3) hC 2 rfl rfl (show decode prog_15_method_69_code 99 = .ok (.iload_n 3, 1) by decide +kernel) ?_
      refine dc_if_eq (pc := 100) (tgt := 123) hC (show decode prog_15_method_69_code 100 = .ok (.ifCond .eq 23, 3) by decide +kernel) (by decide +kernel) h ?_ ?_
      · intro h
        have h : dc_wp (mm_suspended_L123 T S x3) F := hr_83 S (dc_some h)
        exact dc_sub [0, 2] rfl (lab_123 S x3 h)
      · intro h
        refine dc_aloadn (pc := 103) (j := 0) (i := 0) hC 0 rfl rfl (show decode prog_15_method_69_code 103 = .ok (.aload_n 0, 1) by decide +kernel) ?_
        refine md_g75 (pc := 104) hC (show decode prog_15_method_69_code 104 = .ok (.getfield 139, 3) by decide +kernel) ?_
        refine dc_iload (pc := 107) (i := 5) hC 3 rfl (show decode prog_15_method_69_code 107 = .ok (.iload 5, 2) by decide +kernel) ?_
        refine dc_aloadn (pc := 109) (j := 0) (i := 0) hC 0 rfl rfl (show decode prog_15_method_69_code 109 = .ok (.aload_n 0, 1) by decide +kernel) ?_
        refine md_g74 (pc := 110) hC (show decode prog_15_method_69_code 110 = .ok (.getfield 136, 3) by decide +kernel) ?_
        refine dc_iload (pc := 113) (i := 5) hC 3 rfl (show decode prog_15_method_69_code 113 = .ok (.iload 5, 2) by decide +kernel) ?_
        refine md_l74 (pc := 115) hC (show decode prog_15_method_69_code 115 = .ok (.baload, 1) by decide +kernel) h ?_
        intro j4 h
        obtain ⟨hz5, h⟩ := dc_zb_wp (dc_bind h)
        refine md_s75 (pc := 116) hC hz5 (show decode prog_15_method_69_code 116 = .ok (.bastore, 1) by decide +kernel) h ?_
        intro j6 h
        refine dc_letS h ?_
        intro S7 h
        refine dc_iinc (pc := 117) (i := 5) (v := (x5 + 1)) (lv' := [(5, .int (x5 + 1)), (0, .ref o), (1, .int x1), (3, .int x3)]) hC 3 rfl rfl (Nat.le_of_ble_eq_true rfl) rfl (show decode prog_15_method_69_code 117 = .ok (.iinc 5 1, 3) by decide +kernel) ?_
        refine dc_goto (pc := 120) (tgt := 83) hC (show decode prog_15_method_69_code 120 = .ok (.goto (-37), 3) by decide +kernel) (by decide +kernel) ?_
        exact dc_sub [1, 2, 3, 0] rfl (hl_83 (S7, (x5 + 1)) (dc_some h))
    · intro h
      have h : dc_wp (mm_suspended_L123 T S x3) F := hr_83 S (dc_some h)
      exact dc_sub [0, 2] rfl (lab_123 S x3 h)
  have lab_83 : ∀ (S : md_S) (x1 : Int32) (x3 : Int32) (x5 : Int32), dc_wp (mm_suspended_L83 T S x1 x3 x5) F → dc_G X l { frames := d + 1 + 2, cells := 0, slots := 0, locals := 28 * (d + 1) + 45 } D 6 0 0 (md_W o a ca S) 83 [(0, .ref o), (1, .int x1), (3, .int x3), (5, .int x5)] [] := fun S x1 x3 x5 h => loop_83 x1 x3 (S, x5) (dc_bind h)
  have lab_68 : ∀ (S : md_S) (x1 : Int32) (x3 : Int32) (x4 : Int32), dc_wp (mm_suspended_L68 T S x1 x3 x4) F → dc_G X l { frames := d + 1 + 2, cells := 0, slots := 0, locals := 28 * (d + 1) + 45 } D 6 0 0 (md_W o a ca S) 68 [(0, .ref o), (1, .int x1), (3, .int x3), (4, .int x4)] [] := by
    intro S x1 x3 x4 h
    delta mm_suspended_L68 at h
    refine dc_iload (pc := 68) (i := 4) hC 3 rfl (show decode prog_15_method_69_code 68 = .ok (.iload 4, 2) by decide +kernel) ?_
    refine dc_iconst (pc := 70) (v := 1) hC (show decode prog_15_method_69_code 70 = .ok (.iconst 1, 1) by decide +kernel) (by decide +kernel) ?_
    refine dc_icmp_eq (pc := 71) (tgt := 75) hC (show decode prog_15_method_69_code 71 = .ok (.if_icmp .eq 4, 3) by decide +kernel) (by decide +kernel) h ?_ ?_
    · intro h
      refine dc_aloadn (pc := 75) (j := 0) (i := 0) hC 0 rfl rfl (show decode prog_15_method_69_code 75 = .ok (.aload_n 0, 1) by decide +kernel) ?_
      refine md_g62 (pc := 76) hC (show decode prog_15_method_69_code 76 = .ok (.getfield 99, 3) by decide +kernel) ?_
      refine dc_iloadn (pc := 79) (j := 1) (i := 1) hC 1 rfl rfl (show decode prog_15_method_69_code 79 = .ok (.iload_n 1, 1) by decide +kernel) ?_
      refine md_l62 (pc := 80) hC (show decode prog_15_method_69_code 80 = .ok (.iaload, 1) by decide +kernel) h ?_
      intro j8 h
      refine dc_letI h ?_
      intro v9 h
      refine dc_istore (pc := 81) (i := 5) (lv' := [(5, .int v9), (0, .ref o), (1, .int x1), (3, .int x3), (4, .int x4)]) hC (Nat.le_of_ble_eq_true rfl) rfl (show decode prog_15_method_69_code 81 = .ok (.istore 5, 2) by decide +kernel) ?_
      exact dc_sub [1, 2, 3, 0] rfl (lab_83 S x1 x3 v9 h)
    · intro h
      exact dc_vret (pc := 74) hC hR ⟨_, dc_some h, rfl⟩ (show decode prog_15_method_69_code 74 = .ok (.return_, 1) by decide +kernel)
  have lab_51 : ∀ (S : md_S) (x1 : Int32) (x3 : Int32) (x4 : Int32), dc_wp (mm_suspended_L51 T S x1 x3 x4) F → dc_G X l { frames := d + 1 + 2, cells := 0, slots := 0, locals := 28 * (d + 1) + 45 } D 6 0 0 (md_W o a ca S) 51 [(0, .ref o), (1, .int x1), (3, .int x3), (4, .int x4)] [] := by
    intro S x1 x3 x4 h
    delta mm_suspended_L51 at h
    refine dc_iload (pc := 51) (i := 4) hC 3 rfl (show decode prog_15_method_69_code 51 = .ok (.iload 4, 2) by decide +kernel) ?_
    refine dc_iconst (pc := 53) (v := 2) hC (show decode prog_15_method_69_code 53 = .ok (.iconst 2, 1) by decide +kernel) (by decide +kernel) ?_
    refine dc_icmp_ne (pc := 54) (tgt := 68) hC (show decode prog_15_method_69_code 54 = .ok (.if_icmp .ne 14, 3) by decide +kernel) (by decide +kernel) h ?_ ?_
    · intro h
      refine dc_aloadn (pc := 57) (j := 0) (i := 0) hC 0 rfl rfl (show decode prog_15_method_69_code 57 = .ok (.aload_n 0, 1) by decide +kernel) ?_
      refine dc_aloadn (pc := 58) (j := 0) (i := 0) hC 0 rfl rfl (show decode prog_15_method_69_code 58 = .ok (.aload_n 0, 1) by decide +kernel) ?_
      refine md_g81 (pc := 59) hC (show decode prog_15_method_69_code 59 = .ok (.getfield 564, 3) by decide +kernel) ?_
      refine dc_iconst (pc := 62) (v := 2) hC (show decode prog_15_method_69_code 62 = .ok (.iconst 2, 1) by decide +kernel) (by decide +kernel) ?_
      refine dc_ior (pc := 63) hC (show decode prog_15_method_69_code 63 = .ok (.ior, 1) by decide +kernel) ?_
      refine dc_iconst (pc := 64) (v := (-1)) hC (show decode prog_15_method_69_code 64 = .ok (.iconst (-1), 1) by decide +kernel) (by decide +kernel) ?_
      refine mc_Vmv (pc := 65) (As := [.int ((S.1 81) ||| 2), .int (-1)]) (rest := []) hC vw_outcome_579 (mm_outcome_ok l D ad de o a ca S ((S.1 81) ||| 2) (-1)) (by omega) (by omega) rfl (Nat.le_of_ble_eq_true rfl) (show decode prog_15_method_69_code 65 = .ok (.invokevirtual 579, 3) by decide +kernel) h ?_
      intro q10 h
      exact lab_68 q10 x1 x3 x4 h
    · intro h
      exact lab_68 S x1 x3 x4 h
  have lab_48 : ∀ (S : md_S) (x1 : Int32) (x3 : Int32) (x4 : Int32) (y0 : Int32) (y1 : Int32) (y2 : Int32), dc_wp (mm_suspended_L48 T S x1 x3 x4 y0 y1 y2) F → dc_G X l { frames := d + 1 + 2, cells := 0, slots := 0, locals := 28 * (d + 1) + 45 } D 6 0 0 (md_W o a ca S) 48 [(0, .ref o), (1, .int x1), (3, .int x3), (4, .int x4)] [.int y0, .int y1, .int y2, .ref o] := by
    intro S x1 x3 x4 y0 y1 y2 h
    delta mm_suspended_L48 at h
    refine mc_Vmv (pc := 48) (As := [.int y2, .int y1, .int y0]) (rest := []) hC vw_run_591 (hT.1 S y2 y1 y0) (by omega) (by omega) rfl (Nat.le_of_ble_eq_true rfl) (show decode prog_15_method_69_code 48 = .ok (.invokevirtual 591, 3) by decide +kernel) h ?_
    intro q11 h
    exact lab_51 q11 x1 x3 x4 h
  have lab_47 : ∀ (S : md_S) (x1 : Int32) (x3 : Int32) (x4 : Int32) (y0 : Int32) (y1 : Int32), dc_wp (mm_suspended_L47 T S x1 x3 x4 y0 y1) F → dc_G X l { frames := d + 1 + 2, cells := 0, slots := 0, locals := 28 * (d + 1) + 45 } D 6 0 0 (md_W o a ca S) 47 [(0, .ref o), (1, .int x1), (3, .int x3), (4, .int x4)] [.int y0, .int y1, .ref o] := by
    intro S x1 x3 x4 y0 y1 h
    delta mm_suspended_L47 at h
    refine dc_iconst (pc := 47) (v := 0) hC (show decode prog_15_method_69_code 47 = .ok (.iconst 0, 1) by decide +kernel) (by decide +kernel) ?_
    exact lab_48 S x1 x3 x4 0 y0 y1 h
  have lab_18 : ∀ (S : md_S) (x1 : Int32) (x2 : Int32) (x3 : Int32) (y0 : Int32), dc_wp (mm_suspended_L18 T S x1 x2 x3 y0) F → dc_G X l { frames := d + 1 + 2, cells := 0, slots := 0, locals := 28 * (d + 1) + 45 } D 6 0 0 (md_W o a ca S) 18 [(0, .ref o), (1, .int x1), (2, .int x2), (3, .int x3)] [.int y0] := by
    intro S x1 x2 x3 y0 h
    delta mm_suspended_L18 at h
    refine dc_istore (pc := 18) (i := 4) (lv' := [(4, .int y0), (0, .ref o), (1, .int x1), (2, .int x2), (3, .int x3)]) hC (Nat.le_of_ble_eq_true rfl) rfl (show decode prog_15_method_69_code 18 = .ok (.istore 4, 2) by decide +kernel) ?_
    refine dc_iload (pc := 20) (i := 4) hC 0 rfl (show decode prog_15_method_69_code 20 = .ok (.iload 4, 2) by decide +kernel) ?_
    refine dc_iconst (pc := 22) (v := 1) hC (show decode prog_15_method_69_code 22 = .ok (.iconst 1, 1) by decide +kernel) (by decide +kernel) ?_
    refine dc_icmp_eq (pc := 23) (tgt := 51) hC (show decode prog_15_method_69_code 23 = .ok (.if_icmp .eq 28, 3) by decide +kernel) (by decide +kernel) h ?_ ?_
    · intro h
      exact dc_sub [1, 2, 4, 0] rfl (lab_51 S x1 x3 y0 h)
    · intro h
      refine dc_aloadn (pc := 26) (j := 0) (i := 0) hC 1 rfl rfl (show decode prog_15_method_69_code 26 = .ok (.aload_n 0, 1) by decide +kernel) ?_
      refine dc_aloadn (pc := 27) (j := 0) (i := 0) hC 1 rfl rfl (show decode prog_15_method_69_code 27 = .ok (.aload_n 0, 1) by decide +kernel) ?_
      refine md_g52 (pc := 28) hC (show decode prog_15_method_69_code 28 = .ok (.getfield 69, 3) by decide +kernel) ?_
      refine dc_iloadn (pc := 31) (j := 1) (i := 1) hC 2 rfl rfl (show decode prog_15_method_69_code 31 = .ok (.iload_n 1, 1) by decide +kernel) ?_
      refine md_l52 (pc := 32) hC (show decode prog_15_method_69_code 32 = .ok (.iaload, 1) by decide +kernel) h ?_
      intro j12 h
      refine dc_iloadn (pc := 33) (j := 2) (i := 2) hC 3 rfl rfl (show decode prog_15_method_69_code 33 = .ok (.iload_n 2, 1) by decide +kernel) ?_
      refine dc_iloadn (pc := 34) (j := 3) (i := 3) hC 4 rfl rfl (show decode prog_15_method_69_code 34 = .ok (.iload_n 3, 1) by decide +kernel) ?_
      refine dc_if_eq (pc := 35) (tgt := 47) hC (show decode prog_15_method_69_code 35 = .ok (.ifCond .eq 12, 3) by decide +kernel) (by decide +kernel) h ?_ ?_
      · intro h
        exact dc_sub [1, 2, 4, 0] rfl (lab_47 S x1 x3 y0 x2 (S.2.1 52 j12) h)
      · intro h
        refine dc_iload (pc := 38) (i := 4) hC 0 rfl (show decode prog_15_method_69_code 38 = .ok (.iload 4, 2) by decide +kernel) ?_
        refine dc_if_ne (pc := 40) (tgt := 47) hC (show decode prog_15_method_69_code 40 = .ok (.ifCond .ne 7, 3) by decide +kernel) (by decide +kernel) h ?_ ?_
        · intro h
          refine dc_iconst (pc := 43) (v := 1) hC (show decode prog_15_method_69_code 43 = .ok (.iconst 1, 1) by decide +kernel) (by decide +kernel) ?_
          refine dc_goto (pc := 44) (tgt := 48) hC (show decode prog_15_method_69_code 44 = .ok (.goto 4, 3) by decide +kernel) (by decide +kernel) ?_
          exact dc_sub [1, 2, 4, 0] rfl (lab_48 S x1 x3 y0 1 x2 (S.2.1 52 j12) h)
        · intro h
          exact dc_sub [1, 2, 4, 0] rfl (lab_47 S x1 x3 y0 x2 (S.2.1 52 j12) h)
  show dc_G X l { frames := d + 1 + 2, cells := 0, slots := 0, locals := 28 * (d + 1) + 45 } D 6 0 0 (md_W o a ca S) 0 [(0, .ref o), (1, .int p1), (2, .int p2), (3, .int p3)] []
  delta mm_suspended at h
  refine dc_iloadn (pc := 0) (j := 2) (i := 2) hC 2 rfl rfl (show decode prog_15_method_69_code 0 = .ok (.iload_n 2, 1) by decide +kernel) ?_
  refine dc_if_eq (pc := 1) (tgt := 8) hC (show decode prog_15_method_69_code 1 = .ok (.ifCond .eq 7, 3) by decide +kernel) (by decide +kernel) h ?_ ?_
  · intro h
    refine dc_aloadn (pc := 8) (j := 0) (i := 0) hC 0 rfl rfl (show decode prog_15_method_69_code 8 = .ok (.aload_n 0, 1) by decide +kernel) ?_
    refine dc_aloadn (pc := 9) (j := 0) (i := 0) hC 0 rfl rfl (show decode prog_15_method_69_code 9 = .ok (.aload_n 0, 1) by decide +kernel) ?_
    refine md_g54 (pc := 10) hC (show decode prog_15_method_69_code 10 = .ok (.getfield 75, 3) by decide +kernel) ?_
    refine dc_iloadn (pc := 13) (j := 1) (i := 1) hC 1 rfl rfl (show decode prog_15_method_69_code 13 = .ok (.iload_n 1, 1) by decide +kernel) ?_
    refine md_l54 (pc := 14) hC (show decode prog_15_method_69_code 14 = .ok (.iaload, 1) by decide +kernel) h ?_
    intro j13 h
    refine mc_Vmi (pc := 15) (As := [.int (S.2.1 54 j13)]) (rest := []) hC vw_truth_607 (mm_truth_ok l D ad de o a ca S (S.2.1 54 j13)) (by omega) (by omega) rfl (Nat.le_of_ble_eq_true rfl) (show decode prog_15_method_69_code 15 = .ok (.invokevirtual 607, 3) by decide +kernel) h ?_
    intro q14 h
    exact lab_18 q14.1 p1 p2 p3 q14.2 h
  · intro h
    refine dc_iconst (pc := 4) (v := 0) hC (show decode prog_15_method_69_code 4 = .ok (.iconst 0, 1) by decide +kernel) (by decide +kernel) ?_
    refine dc_goto (pc := 5) (tgt := 18) hC (show decode prog_15_method_69_code 5 = .ok (.goto 13, 3) by decide +kernel) (by decide +kernel) ?_
    exact lab_18 S p1 p2 p3 0 h
noncomputable def mm_sequence_L112 (T : mm_T3) (S : md_S) : Option (md_S) :=
  some S
noncomputable def mm_sequence_b79 (T : mm_T3) (S : md_S) (x1 : Int32) (x2 : Int32) (x3 : Int32) (x4 : Int32) : Option ((md_S × Int32) ⊕ ((md_S))) :=
  if x4 = x1 then (some (.inr S)) else ((dc_ix x4 1200).bind fun j1 => dc_let ((S.2.1 58 j1) : Int32) fun v2 => (dc_ix v2 1200).bind fun j3 => (T.2.2.2.2.1 S v2 (S.2.1 53 j3) x2 x3).bind fun q4 => some (.inl (q4, v2)))
noncomputable def mm_sequence_s79 (T : mm_T3) (x1 : Int32) (x2 : Int32) (x3 : Int32) (q : md_S × Int32) : Option ((md_S × Int32) ⊕ ((md_S))) :=
  mm_sequence_b79 T q.1 x1 x2 x3 q.2
noncomputable def mm_sequence_L79 (T : mm_T3) (S : md_S) (x1 : Int32) (x2 : Int32) (x3 : Int32) (x4 : Int32) : Option (md_S) :=
  (dc_it (mm_sequence_s79 T x1 x2 x3) (S, x4)).bind (fun (z : md_S) => mm_sequence_L112 T z)
noncomputable def mm_sequence_L44 (T : mm_T3) (S : md_S) (x1 : Int32) (x2 : Int32) (x3 : Int32) (x4 : Int32) : Option (md_S) :=
  (dc_ix x4 1200).bind fun j5 => if (S.2.1 51 j5) = 5 then ((dc_ix x4 1200).bind fun j6 => (T.1 S (S.2.1 53 j6) 0 x3).bind fun q7 => mm_sequence_L79 T q7 x1 x2 x3 x4) else ((T.1 S x4 x2 x3).bind fun q8 => mm_sequence_L79 T q8 x1 x2 x3 x4)
noncomputable def mm_sequence_L32 (T : mm_T3) (S : md_S) (x1 : Int32) (x2 : Int32) (x3 : Int32) (x4 : Int32) : Option ((Int32) ⊕ ((Int32))) :=
  (dc_ix x4 1200).bind fun j9 => dc_let ((S.2.1 52 j9) : Int32) fun v10 => some (.inl v10)
noncomputable def mm_sequence_b3 (T : mm_T3) (S : md_S) (x1 : Int32) (x2 : Int32) (x3 : Int32) (x4 : Int32) : Option ((Int32) ⊕ ((Int32))) :=
  (dc_ix x4 1200).bind fun j11 => if (S.2.1 51 j11) = 5 then (if x2 = 0 then ((dc_ix x4 1200).bind fun j12 => (mm_has S (S.2.1 52 j12)).bind fun q13 => if q13 = 0 then (some (.inr x4)) else (mm_sequence_L32 T S x1 x2 x3 x4)) else (mm_sequence_L32 T S x1 x2 x3 x4)) else (some (.inr x4))
noncomputable def mm_sequence_s3 (T : mm_T3) (S : md_S) (x1 : Int32) (x2 : Int32) (x3 : Int32) (q : Int32) : Option ((Int32) ⊕ ((Int32))) :=
  mm_sequence_b3 T S x1 x2 x3 q
noncomputable def mm_sequence_L3 (T : mm_T3) (S : md_S) (x1 : Int32) (x2 : Int32) (x3 : Int32) (x4 : Int32) : Option (md_S) :=
  (dc_it (mm_sequence_s3 T S x1 x2 x3) x4).bind (fun (z : Int32) => mm_sequence_L44 T S x1 x2 x3 z)
noncomputable def mm_sequence (T : mm_T3) (S : md_S) (p1 : Int32) (p2 : Int32) (p3 : Int32) : Option (md_S) :=
  mm_sequence_L3 T S p1 p2 p3 p1
set_option maxHeartbeats 4000000 in
set_option maxRecDepth 100000 in
/-- sequence(IZZ)V -/
theorem mm_sequence_ok (l : Launch) (D : va_G) (ad : Nat → Nat) (de : Nat) (o : Nat) (a : Nat → Nat) (ca : Nat → ClassId) (T : mm_T3) (d : Nat) (hT : mm_OK3 l D ad de o a ca T d) (S : md_S) (p1 : Int32) (p2 : Int32) (p3 : Int32) (F : md_S → Prop) (h : dc_wp (mm_sequence T S p1 p2 p3) F) : dc_Cv l ⟨"SignalEngineModel", "sequence", "(IZZ)V"⟩ prog_15_method_71_code 5 none (d + 1 + 2) (28 * (d + 1) + 45) D (md_T ca) ad de [.ref o, .int p1, .int p2, .int p3] (md_W o a ca S) (fun w => ∃ q, F q ∧ w = md_W o a ca q) 0 0 := by
  refine dc_enterv (by decide +kernel) (Nat.le_of_ble_eq_true rfl) ?_
  intro X hC hR
  have lab_112 : ∀ (S : md_S), dc_wp (mm_sequence_L112 T S) F → dc_G X l { frames := d + 1 + 2, cells := 0, slots := 0, locals := 28 * (d + 1) + 45 } D 5 0 0 (md_W o a ca S) 112 [(0, .ref o)] [] := by
    intro S  h
    delta mm_sequence_L112 at h
    exact dc_vret (pc := 112) hC hR ⟨_, dc_some h, rfl⟩ (show decode prog_15_method_71_code 112 = .ok (.return_, 1) by decide +kernel)
  have loop_79 : ∀ (x1 : Int32) (x2 : Int32) (x3 : Int32) (q : md_S × Int32), dc_wp (dc_it (mm_sequence_s79 T x1 x2 x3) q) (fun z => dc_wp ((fun (z : md_S) => mm_sequence_L112 T z) z) F) → dc_G X l { frames := d + 1 + 2, cells := 0, slots := 0, locals := 28 * (d + 1) + 45 } D 5 0 0 (md_W o a ca q.1) 79 [(0, .ref o), (1, .int x1), (2, .int x2), (3, .int x3), (4, .int q.2)] [] := by
    intro x1 x2 x3
    refine dc_loopF ?_
    intro F_79 hl_79 hr_79
    rintro ⟨S, x4⟩ h
    have h : dc_wp (mm_sequence_b79 T S x1 x2 x3 x4) F_79 := h
    delta mm_sequence_b79 at h
    refine dc_iload (pc := 79) (i := 4) hC 4 rfl (show decode prog_15_method_71_code 79 = .ok (.iload 4, 2) by decide +kernel) ?_
    refine dc_iloadn (pc := 81) (j := 1) (i := 1) hC 1 rfl rfl (show decode prog_15_method_71_code 81 = .ok (.iload_n 1, 1) by decide +kernel) ?_
    refine dc_icmp_eq (pc := 82) (tgt := 112) hC (show decode prog_15_method_71_code 82 = .ok (.if_icmp .eq 30, 3) by decide +kernel) (by decide +kernel) h ?_ ?_
    · intro h
      have h : dc_wp (mm_sequence_L112 T S) F := hr_79 S (dc_some h)
      exact dc_sub [0] rfl (lab_112 S h)
    · intro h
      refine dc_aloadn (pc := 85) (j := 0) (i := 0) hC 0 rfl rfl (show decode prog_15_method_71_code 85 = .ok (.aload_n 0, 1) by decide +kernel) ?_
      refine md_g58 (pc := 86) hC (show decode prog_15_method_71_code 86 = .ok (.getfield 87, 3) by decide +kernel) ?_
      refine dc_iload (pc := 89) (i := 4) hC 4 rfl (show decode prog_15_method_71_code 89 = .ok (.iload 4, 2) by decide +kernel) ?_
      refine md_l58 (pc := 91) hC (show decode prog_15_method_71_code 91 = .ok (.iaload, 1) by decide +kernel) h ?_
      intro j1 h
      refine dc_letI h ?_
      intro v2 h
      refine dc_istore (pc := 92) (i := 4) (lv' := [(4, .int v2), (0, .ref o), (1, .int x1), (2, .int x2), (3, .int x3)]) hC (Nat.le_of_ble_eq_true rfl) rfl (show decode prog_15_method_71_code 92 = .ok (.istore 4, 2) by decide +kernel) ?_
      refine dc_aloadn (pc := 94) (j := 0) (i := 0) hC 1 rfl rfl (show decode prog_15_method_71_code 94 = .ok (.aload_n 0, 1) by decide +kernel) ?_
      refine dc_iload (pc := 95) (i := 4) hC 0 rfl (show decode prog_15_method_71_code 95 = .ok (.iload 4, 2) by decide +kernel) ?_
      refine dc_aloadn (pc := 97) (j := 0) (i := 0) hC 1 rfl rfl (show decode prog_15_method_71_code 97 = .ok (.aload_n 0, 1) by decide +kernel) ?_
      refine md_g53 (pc := 98) hC (show decode prog_15_method_71_code 98 = .ok (.getfield 72, 3) by decide +kernel) ?_
      refine dc_iload (pc := 101) (i := 4) hC 0 rfl (show decode prog_15_method_71_code 101 = .ok (.iload 4, 2) by decide +kernel) ?_
      refine md_l53 (pc := 103) hC (show decode prog_15_method_71_code 103 = .ok (.iaload, 1) by decide +kernel) h ?_
      intro j3 h
      refine dc_iloadn (pc := 104) (j := 2) (i := 2) hC 3 rfl rfl (show decode prog_15_method_71_code 104 = .ok (.iload_n 2, 1) by decide +kernel) ?_
      refine dc_iloadn (pc := 105) (j := 3) (i := 3) hC 4 rfl rfl (show decode prog_15_method_71_code 105 = .ok (.iload_n 3, 1) by decide +kernel) ?_
      refine mc_Vmv (pc := 106) (As := [.int v2, .int (S.2.1 53 j3), .int x2, .int x3]) (rest := []) hC vw_behind_594 (hT.2.2.2.2.1 S v2 (S.2.1 53 j3) x2 x3) (by omega) (by omega) rfl (Nat.le_of_ble_eq_true rfl) (show decode prog_15_method_71_code 106 = .ok (.invokevirtual 594, 3) by decide +kernel) h ?_
      intro q4 h
      refine dc_goto (pc := 109) (tgt := 79) hC (show decode prog_15_method_71_code 109 = .ok (.goto (-30), 3) by decide +kernel) (by decide +kernel) ?_
      exact dc_sub [1, 2, 3, 4, 0] rfl (hl_79 (q4, v2) (dc_some h))
  have lab_79 : ∀ (S : md_S) (x1 : Int32) (x2 : Int32) (x3 : Int32) (x4 : Int32), dc_wp (mm_sequence_L79 T S x1 x2 x3 x4) F → dc_G X l { frames := d + 1 + 2, cells := 0, slots := 0, locals := 28 * (d + 1) + 45 } D 5 0 0 (md_W o a ca S) 79 [(0, .ref o), (1, .int x1), (2, .int x2), (3, .int x3), (4, .int x4)] [] := fun S x1 x2 x3 x4 h => loop_79 x1 x2 x3 (S, x4) (dc_bind h)
  have lab_44 : ∀ (S : md_S) (x1 : Int32) (x2 : Int32) (x3 : Int32) (x4 : Int32), dc_wp (mm_sequence_L44 T S x1 x2 x3 x4) F → dc_G X l { frames := d + 1 + 2, cells := 0, slots := 0, locals := 28 * (d + 1) + 45 } D 5 0 0 (md_W o a ca S) 44 [(0, .ref o), (1, .int x1), (2, .int x2), (3, .int x3), (4, .int x4)] [] := by
    intro S x1 x2 x3 x4 h
    delta mm_sequence_L44 at h
    refine dc_aloadn (pc := 44) (j := 0) (i := 0) hC 0 rfl rfl (show decode prog_15_method_71_code 44 = .ok (.aload_n 0, 1) by decide +kernel) ?_
    refine md_g51 (pc := 45) hC (show decode prog_15_method_71_code 45 = .ok (.getfield 66, 3) by decide +kernel) ?_
    refine dc_iload (pc := 48) (i := 4) hC 4 rfl (show decode prog_15_method_71_code 48 = .ok (.iload 4, 2) by decide +kernel) ?_
    refine md_l51 (pc := 50) hC (show decode prog_15_method_71_code 50 = .ok (.iaload, 1) by decide +kernel) h ?_
    intro j5 h
    refine dc_iconst (pc := 51) (v := 5) hC (show decode prog_15_method_71_code 51 = .ok (.iconst 5, 1) by decide +kernel) (by decide +kernel) ?_
    refine dc_icmp_ne (pc := 52) (tgt := 71) hC (show decode prog_15_method_71_code 52 = .ok (.if_icmp .ne 19, 3) by decide +kernel) (by decide +kernel) h ?_ ?_
    · intro h
      refine dc_aloadn (pc := 55) (j := 0) (i := 0) hC 0 rfl rfl (show decode prog_15_method_71_code 55 = .ok (.aload_n 0, 1) by decide +kernel) ?_
      refine dc_aloadn (pc := 56) (j := 0) (i := 0) hC 0 rfl rfl (show decode prog_15_method_71_code 56 = .ok (.aload_n 0, 1) by decide +kernel) ?_
      refine md_g53 (pc := 57) hC (show decode prog_15_method_71_code 57 = .ok (.getfield 72, 3) by decide +kernel) ?_
      refine dc_iload (pc := 60) (i := 4) hC 4 rfl (show decode prog_15_method_71_code 60 = .ok (.iload 4, 2) by decide +kernel) ?_
      refine md_l53 (pc := 62) hC (show decode prog_15_method_71_code 62 = .ok (.iaload, 1) by decide +kernel) h ?_
      intro j6 h
      refine dc_iconst (pc := 63) (v := 0) hC (show decode prog_15_method_71_code 63 = .ok (.iconst 0, 1) by decide +kernel) (by decide +kernel) ?_
      refine dc_iloadn (pc := 64) (j := 3) (i := 3) hC 3 rfl rfl (show decode prog_15_method_71_code 64 = .ok (.iload_n 3, 1) by decide +kernel) ?_
      refine mc_Vmv (pc := 65) (As := [.int (S.2.1 53 j6), .int 0, .int x3]) (rest := []) hC vw_run_591 (hT.1 S (S.2.1 53 j6) 0 x3) (by omega) (by omega) rfl (Nat.le_of_ble_eq_true rfl) (show decode prog_15_method_71_code 65 = .ok (.invokevirtual 591, 3) by decide +kernel) h ?_
      intro q7 h
      refine dc_goto (pc := 68) (tgt := 79) hC (show decode prog_15_method_71_code 68 = .ok (.goto 11, 3) by decide +kernel) (by decide +kernel) ?_
      exact lab_79 q7 x1 x2 x3 x4 h
    · intro h
      refine dc_aloadn (pc := 71) (j := 0) (i := 0) hC 0 rfl rfl (show decode prog_15_method_71_code 71 = .ok (.aload_n 0, 1) by decide +kernel) ?_
      refine dc_iload (pc := 72) (i := 4) hC 4 rfl (show decode prog_15_method_71_code 72 = .ok (.iload 4, 2) by decide +kernel) ?_
      refine dc_iloadn (pc := 74) (j := 2) (i := 2) hC 2 rfl rfl (show decode prog_15_method_71_code 74 = .ok (.iload_n 2, 1) by decide +kernel) ?_
      refine dc_iloadn (pc := 75) (j := 3) (i := 3) hC 3 rfl rfl (show decode prog_15_method_71_code 75 = .ok (.iload_n 3, 1) by decide +kernel) ?_
      refine mc_Vmv (pc := 76) (As := [.int x4, .int x2, .int x3]) (rest := []) hC vw_run_591 (hT.1 S x4 x2 x3) (by omega) (by omega) rfl (Nat.le_of_ble_eq_true rfl) (show decode prog_15_method_71_code 76 = .ok (.invokevirtual 591, 3) by decide +kernel) h ?_
      intro q8 h
      exact lab_79 q8 x1 x2 x3 x4 h
  have loop_3 : ∀ (S : md_S) (x1 : Int32) (x2 : Int32) (x3 : Int32) (q : Int32), dc_wp (dc_it (mm_sequence_s3 T S x1 x2 x3) q) (fun z => dc_wp ((fun (z : Int32) => mm_sequence_L44 T S x1 x2 x3 z) z) F) → dc_G X l { frames := d + 1 + 2, cells := 0, slots := 0, locals := 28 * (d + 1) + 45 } D 5 0 0 (md_W o a ca S) 3 [(0, .ref o), (1, .int x1), (2, .int x2), (3, .int x3), (4, .int q)] [] := by
    intro S x1 x2 x3
    refine dc_loopF ?_
    intro F_3 hl_3 hr_3
    have lab_32 : ∀ (x4 : Int32), dc_wp (mm_sequence_L32 T S x1 x2 x3 x4) F_3 → dc_G X l { frames := d + 1 + 2, cells := 0, slots := 0, locals := 28 * (d + 1) + 45 } D 5 0 0 (md_W o a ca S) 32 [(0, .ref o), (1, .int x1), (2, .int x2), (3, .int x3), (4, .int x4)] [] := by
      intro x4 h
      delta mm_sequence_L32 at h
      refine dc_aloadn (pc := 32) (j := 0) (i := 0) hC 0 rfl rfl (show decode prog_15_method_71_code 32 = .ok (.aload_n 0, 1) by decide +kernel) ?_
      refine md_g52 (pc := 33) hC (show decode prog_15_method_71_code 33 = .ok (.getfield 69, 3) by decide +kernel) ?_
      refine dc_iload (pc := 36) (i := 4) hC 4 rfl (show decode prog_15_method_71_code 36 = .ok (.iload 4, 2) by decide +kernel) ?_
      refine md_l52 (pc := 38) hC (show decode prog_15_method_71_code 38 = .ok (.iaload, 1) by decide +kernel) h ?_
      intro j9 h
      refine dc_letI h ?_
      intro v10 h
      refine dc_istore (pc := 39) (i := 4) (lv' := [(4, .int v10), (0, .ref o), (1, .int x1), (2, .int x2), (3, .int x3)]) hC (Nat.le_of_ble_eq_true rfl) rfl (show decode prog_15_method_71_code 39 = .ok (.istore 4, 2) by decide +kernel) ?_
      refine dc_goto (pc := 41) (tgt := 3) hC (show decode prog_15_method_71_code 41 = .ok (.goto (-38), 3) by decide +kernel) (by decide +kernel) ?_
      exact dc_sub [1, 2, 3, 4, 0] rfl (hl_3 v10 (dc_some h))
    rintro x4 h
    have h : dc_wp (mm_sequence_b3 T S x1 x2 x3 x4) F_3 := h
    delta mm_sequence_b3 at h
    refine dc_aloadn (pc := 3) (j := 0) (i := 0) hC 0 rfl rfl (show decode prog_15_method_71_code 3 = .ok (.aload_n 0, 1) by decide +kernel) ?_
    refine md_g51 (pc := 4) hC (show decode prog_15_method_71_code 4 = .ok (.getfield 66, 3) by decide +kernel) ?_
    refine dc_iload (pc := 7) (i := 4) hC 4 rfl (show decode prog_15_method_71_code 7 = .ok (.iload 4, 2) by decide +kernel) ?_
    refine md_l51 (pc := 9) hC (show decode prog_15_method_71_code 9 = .ok (.iaload, 1) by decide +kernel) h ?_
    intro j11 h
    refine dc_iconst (pc := 10) (v := 5) hC (show decode prog_15_method_71_code 10 = .ok (.iconst 5, 1) by decide +kernel) (by decide +kernel) ?_
    refine dc_icmp_ne (pc := 11) (tgt := 44) hC (show decode prog_15_method_71_code 11 = .ok (.if_icmp .ne 33, 3) by decide +kernel) (by decide +kernel) h ?_ ?_
    · intro h
      refine dc_iloadn (pc := 14) (j := 2) (i := 2) hC 2 rfl rfl (show decode prog_15_method_71_code 14 = .ok (.iload_n 2, 1) by decide +kernel) ?_
      refine dc_if_ne (pc := 15) (tgt := 32) hC (show decode prog_15_method_71_code 15 = .ok (.ifCond .ne 17, 3) by decide +kernel) (by decide +kernel) h ?_ ?_
      · intro h
        refine dc_aloadn (pc := 18) (j := 0) (i := 0) hC 0 rfl rfl (show decode prog_15_method_71_code 18 = .ok (.aload_n 0, 1) by decide +kernel) ?_
        refine dc_aloadn (pc := 19) (j := 0) (i := 0) hC 0 rfl rfl (show decode prog_15_method_71_code 19 = .ok (.aload_n 0, 1) by decide +kernel) ?_
        refine md_g52 (pc := 20) hC (show decode prog_15_method_71_code 20 = .ok (.getfield 69, 3) by decide +kernel) ?_
        refine dc_iload (pc := 23) (i := 4) hC 4 rfl (show decode prog_15_method_71_code 23 = .ok (.iload 4, 2) by decide +kernel) ?_
        refine md_l52 (pc := 25) hC (show decode prog_15_method_71_code 25 = .ok (.iaload, 1) by decide +kernel) h ?_
        intro j12 h
        refine mc_Vpi (pc := 26) (As := [.int (S.2.1 52 j12)]) (rest := []) hC vw_has_604 (mm_has_ok l D ad de o a ca S (S.2.1 52 j12)) (by omega) (by omega) rfl (Nat.le_of_ble_eq_true rfl) (show decode prog_15_method_71_code 26 = .ok (.invokevirtual 604, 3) by decide +kernel) h ?_
        intro q13 h
        refine dc_if_eq (pc := 29) (tgt := 44) hC (show decode prog_15_method_71_code 29 = .ok (.ifCond .eq 15, 3) by decide +kernel) (by decide +kernel) h ?_ ?_
        · intro h
          have h : dc_wp (mm_sequence_L44 T S x1 x2 x3 x4) F := hr_3 x4 (dc_some h)
          exact lab_44 S x1 x2 x3 x4 h
        · intro h
          exact lab_32 x4 h
      · intro h
        exact lab_32 x4 h
    · intro h
      have h : dc_wp (mm_sequence_L44 T S x1 x2 x3 x4) F := hr_3 x4 (dc_some h)
      exact lab_44 S x1 x2 x3 x4 h
  have lab_3 : ∀ (S : md_S) (x1 : Int32) (x2 : Int32) (x3 : Int32) (x4 : Int32), dc_wp (mm_sequence_L3 T S x1 x2 x3 x4) F → dc_G X l { frames := d + 1 + 2, cells := 0, slots := 0, locals := 28 * (d + 1) + 45 } D 5 0 0 (md_W o a ca S) 3 [(0, .ref o), (1, .int x1), (2, .int x2), (3, .int x3), (4, .int x4)] [] := fun S x1 x2 x3 x4 h => loop_3 S x1 x2 x3 x4 (dc_bind h)
  show dc_G X l { frames := d + 1 + 2, cells := 0, slots := 0, locals := 28 * (d + 1) + 45 } D 5 0 0 (md_W o a ca S) 0 [(0, .ref o), (1, .int p1), (2, .int p2), (3, .int p3)] []
  delta mm_sequence at h
  refine dc_iloadn (pc := 0) (j := 1) (i := 1) hC 1 rfl rfl (show decode prog_15_method_71_code 0 = .ok (.iload_n 1, 1) by decide +kernel) ?_
  refine dc_istore (pc := 1) (i := 4) (lv' := [(4, .int p1), (0, .ref o), (1, .int p1), (2, .int p2), (3, .int p3)]) hC (Nat.le_of_ble_eq_true rfl) rfl (show decode prog_15_method_71_code 1 = .ok (.istore 4, 2) by decide +kernel) ?_
  exact dc_sub [1, 2, 3, 4, 0] rfl (lab_3 S p1 p2 p3 p1 h)
