noncomputable def mm_await (S : md_S) (p1 : Int32) (p2 : Int32) : Option (md_S × Int32) :=
  dc_let (md_i S 20 ((S.1 20) + 1)) fun S1 => dc_let ((S1.1 20) : Int32) fun v2 => dc_let (md_i S1 29 2) fun S3 => (mm_waiting S3 p1 p2 v2).bind fun q4 => (mm_node_IIIIII q4.1 8 q4.2 (-1) v2 p1 (-1)).bind fun q5 => some (q5.1, q5.2)
set_option maxHeartbeats 4000000 in
set_option maxRecDepth 100000 in
/-- await(II)I -/
theorem mm_await_ok (l : Launch) (D : va_G) (ad : Nat → Nat) (de : Nat) (o : Nat) (a : Nat → Nat) (ca : Nat → ClassId) (S : md_S) (p1 : Int32) (p2 : Int32) (F : (md_S × Int32) → Prop) (h : dc_wp (mm_await S p1 p2) F) : dc_Ci l ⟨"SignalEngineModel", "await", "(II)I"⟩ prog_15_method_40_code 4 (some (.int)) 3 75 D (md_T ca) ad de [.ref o, .int p1, .int p2] (md_W o a ca S) (fun r w => ∃ q, F q ∧ r = q.2 ∧ w = md_W o a ca q.1) 0 0 := by
  refine dc_enteri (by decide +kernel) (Nat.le_of_ble_eq_true rfl) ?_
  intro X hC hR
  show dc_G X l { frames := 3, cells := 0, slots := 0, locals := 75 } D 4 0 0 (md_W o a ca S) 0 [(0, .ref o), (1, .int p1), (2, .int p2)] []
  delta mm_await at h
  refine dc_aloadn (pc := 0) (j := 0) (i := 0) hC 0 rfl rfl (show decode prog_15_method_40_code 0 = .ok (.aload_n 0, 1) by decide +kernel) ?_
  refine dc_dup (pc := 1) hC (show decode prog_15_method_40_code 1 = .ok (.dup, 1) by decide +kernel) rfl ?_
  refine md_g20 (pc := 2) hC (show decode prog_15_method_40_code 2 = .ok (.getfield 452, 3) by decide +kernel) ?_
  refine dc_iconst (pc := 5) (v := 1) hC (show decode prog_15_method_40_code 5 = .ok (.iconst 1, 1) by decide +kernel) (by decide +kernel) ?_
  refine dc_iadd (pc := 6) hC (show decode prog_15_method_40_code 6 = .ok (.iadd, 1) by decide +kernel) ?_
  refine md_p20 (pc := 7) hC (show decode prog_15_method_40_code 7 = .ok (.putfield 452, 3) by decide +kernel) ?_
  refine dc_letS h ?_
  intro S1 h
  refine dc_aloadn (pc := 10) (j := 0) (i := 0) hC 0 rfl rfl (show decode prog_15_method_40_code 10 = .ok (.aload_n 0, 1) by decide +kernel) ?_
  refine md_g20 (pc := 11) hC (show decode prog_15_method_40_code 11 = .ok (.getfield 452, 3) by decide +kernel) ?_
  refine dc_letI h ?_
  intro v2 h
  refine dc_istoren (pc := 14) (j := 3) (i := 3) (lv' := [(3, .int v2), (0, .ref o), (1, .int p1), (2, .int p2)]) hC rfl (Nat.le_of_ble_eq_true rfl) rfl (show decode prog_15_method_40_code 14 = .ok (.istore_n 3, 1) by decide +kernel) ?_
  refine dc_aloadn (pc := 15) (j := 0) (i := 0) hC 1 rfl rfl (show decode prog_15_method_40_code 15 = .ok (.aload_n 0, 1) by decide +kernel) ?_
  refine dc_iconst (pc := 16) (v := 2) hC (show decode prog_15_method_40_code 16 = .ok (.iconst 2, 1) by decide +kernel) (by decide +kernel) ?_
  refine md_p29 (pc := 17) hC (show decode prog_15_method_40_code 17 = .ok (.putfield 389, 3) by decide +kernel) ?_
  refine dc_letS h ?_
  intro S3 h
  refine dc_aloadn (pc := 20) (j := 0) (i := 0) hC 1 rfl rfl (show decode prog_15_method_40_code 20 = .ok (.aload_n 0, 1) by decide +kernel) ?_
  refine dc_bipush (pc := 21) (v := 8) hC (show decode prog_15_method_40_code 21 = .ok (.bipush 8, 2) by decide +kernel) (by decide +kernel) ?_
  refine dc_aloadn (pc := 23) (j := 0) (i := 0) hC 1 rfl rfl (show decode prog_15_method_40_code 23 = .ok (.aload_n 0, 1) by decide +kernel) ?_
  refine dc_iloadn (pc := 24) (j := 1) (i := 1) hC 2 rfl rfl (show decode prog_15_method_40_code 24 = .ok (.iload_n 1, 1) by decide +kernel) ?_
  refine dc_iloadn (pc := 25) (j := 2) (i := 2) hC 3 rfl rfl (show decode prog_15_method_40_code 25 = .ok (.iload_n 2, 1) by decide +kernel) ?_
  refine dc_iloadn (pc := 26) (j := 3) (i := 3) hC 0 rfl rfl (show decode prog_15_method_40_code 26 = .ok (.iload_n 3, 1) by decide +kernel) ?_
  refine mc_Vmi (pc := 27) (As := [.int p1, .int p2, .int v2]) (rest := [.int 8, .ref o]) hC vw_waiting_455 (mm_waiting_ok l D ad de o a ca S3 p1 p2 v2) (Nat.le_of_ble_eq_true rfl) (Nat.le_of_ble_eq_true rfl) rfl (Nat.le_of_ble_eq_true rfl) (show decode prog_15_method_40_code 27 = .ok (.invokevirtual 455, 3) by decide +kernel) h ?_
  intro q4 h
  refine dc_iconst (pc := 30) (v := (-1)) hC (show decode prog_15_method_40_code 30 = .ok (.iconst (-1), 1) by decide +kernel) (by decide +kernel) ?_
  refine dc_iloadn (pc := 31) (j := 3) (i := 3) hC 0 rfl rfl (show decode prog_15_method_40_code 31 = .ok (.iload_n 3, 1) by decide +kernel) ?_
  refine dc_iloadn (pc := 32) (j := 1) (i := 1) hC 2 rfl rfl (show decode prog_15_method_40_code 32 = .ok (.iload_n 1, 1) by decide +kernel) ?_
  refine dc_iconst (pc := 33) (v := (-1)) hC (show decode prog_15_method_40_code 33 = .ok (.iconst (-1), 1) by decide +kernel) (by decide +kernel) ?_
  refine mc_Vmi (pc := 34) (As := [.int 8, .int q4.2, .int (-1), .int v2, .int p1, .int (-1)]) (rest := []) hC vw_node_IIIIII_382 (mm_node_IIIIII_ok l D ad de o a ca q4.1 8 q4.2 (-1) v2 p1 (-1)) (Nat.le_of_ble_eq_true rfl) (Nat.le_of_ble_eq_true rfl) rfl (Nat.le_of_ble_eq_true rfl) (show decode prog_15_method_40_code 34 = .ok (.invokevirtual 382, 3) by decide +kernel) h ?_
  intro q5 h
  exact dc_iret (pc := 37) hC hR ⟨_, dc_some h, rfl, rfl⟩ (show decode prog_15_method_40_code 37 = .ok (.ireturn, 1) by decide +kernel)
noncomputable def mm_exit_L87 (S : md_S) (x1 : Int32) (x2 : Int32) : Option (md_S × Int32) :=
  if (0 : Int32) < (S.1 10) then (some (S, 0)) else ((mm_advance S).bind fun q1 => dc_let (md_i q1 29 ((4 : Int32) <<< ((((q1.1 19) - 1) - x2) &&& (31 : Int32)))) fun S2 => (dc_ix x2 32).bind fun j3 => (mm_leaf S2 9 (S2.2.1 26 j3) x1).bind fun q4 => some (q4.1, q4.2))
noncomputable def mm_exit_L74 (S : md_S) (x1 : Int32) (x2 : Int32) : Option (md_S × Int32) :=
  if x2 < 0 then ((mm_fail S 2 (S.1 8)).bind fun q5 => mm_exit_L87 q5 x1 x2) else (mm_exit_L87 S x1 x2)
noncomputable def mm_exit_b32 (S : md_S) (x1 : Int32) (x2 : Int32) : Option ((Int32) ⊕ ((Int32))) :=
  if x2 < 0 then (some (.inr x2)) else ((dc_ix x2 32).bind fun j6 => (dc_ix x2 32).bind fun j7 => (mm_same S (S.2.1 24 j6) (S.2.1 25 j7) (S.1 7) ((S.1 4) - (S.1 7))).bind fun q8 => if q8 = 0 then (some (.inl (x2 + (-1)))) else (some (.inr x2)))
noncomputable def mm_exit_s32 (S : md_S) (x1 : Int32) (q : Int32) : Option ((Int32) ⊕ ((Int32))) :=
  mm_exit_b32 S x1 q
noncomputable def mm_exit_L32 (S : md_S) (x1 : Int32) (x2 : Int32) : Option (md_S × Int32) :=
  (dc_it (mm_exit_s32 S x1) x2).bind (fun (z : Int32) => mm_exit_L74 S x1 z)
noncomputable def mm_exit_L16 (S : md_S) (x1 : Int32) : Option (md_S × Int32) :=
  if (0 : Int32) < (S.1 10) then (some (S, 0)) else (dc_let (((S.1 19) - 1) : Int32) fun v9 => mm_exit_L32 S x1 v9)
noncomputable def mm_exit (S : md_S) (p1 : Int32) : Option (md_S × Int32) :=
  (mm_isName S).bind fun q10 => if q10 = 0 then ((mm_fail S 1 (S.1 8)).bind fun q11 => mm_exit_L16 q11 p1) else (mm_exit_L16 S p1)
set_option maxHeartbeats 4000000 in
set_option maxRecDepth 100000 in
/-- exit(I)I -/
theorem mm_exit_ok (l : Launch) (D : va_G) (ad : Nat → Nat) (de : Nat) (o : Nat) (a : Nat → Nat) (ca : Nat → ClassId) (S : md_S) (p1 : Int32) (F : (md_S × Int32) → Prop) (h : dc_wp (mm_exit S p1) F) : dc_Ci l ⟨"SignalEngineModel", "exit", "(I)I"⟩ prog_15_method_43_code 3 (some (.int)) 3 62 D (md_T ca) ad de [.ref o, .int p1] (md_W o a ca S) (fun r w => ∃ q, F q ∧ r = q.2 ∧ w = md_W o a ca q.1) 0 0 := by
  refine dc_enteri (by decide +kernel) (Nat.le_of_ble_eq_true rfl) ?_
  intro X hC hR
  have lab_87 : ∀ (S : md_S) (x1 : Int32) (x2 : Int32), dc_wp (mm_exit_L87 S x1 x2) F → dc_G X l { frames := 3, cells := 0, slots := 0, locals := 62 } D 3 0 0 (md_W o a ca S) 87 [(0, .ref o), (1, .int x1), (2, .int x2)] [] := by
    intro S x1 x2 h
    delta mm_exit_L87 at h
    refine dc_aloadn (pc := 87) (j := 0) (i := 0) hC 0 rfl rfl (show decode prog_15_method_43_code 87 = .ok (.aload_n 0, 1) by decide +kernel) ?_
    refine md_g10 (pc := 88) hC (show decode prog_15_method_43_code 88 = .ok (.getfield 221, 3) by decide +kernel) ?_
    refine dc_if_le (pc := 91) (tgt := 96) hC (show decode prog_15_method_43_code 91 = .ok (.ifCond .le 5, 3) by decide +kernel) (by decide +kernel) h ?_ ?_
    · intro h
      refine dc_iconst (pc := 94) (v := 0) hC (show decode prog_15_method_43_code 94 = .ok (.iconst 0, 1) by decide +kernel) (by decide +kernel) ?_
      exact dc_iret (pc := 95) hC hR ⟨_, dc_some h, rfl, rfl⟩ (show decode prog_15_method_43_code 95 = .ok (.ireturn, 1) by decide +kernel)
    · intro h
      refine dc_aloadn (pc := 96) (j := 0) (i := 0) hC 0 rfl rfl (show decode prog_15_method_43_code 96 = .ok (.aload_n 0, 1) by decide +kernel) ?_
      refine mc_Vmv (pc := 97) (As := []) (rest := []) hC vw_advance_258 (mm_advance_ok l D ad de o a ca S) (Nat.le_of_ble_eq_true rfl) (Nat.le_of_ble_eq_true rfl) rfl (Nat.le_of_ble_eq_true rfl) (show decode prog_15_method_43_code 97 = .ok (.invokevirtual 258, 3) by decide +kernel) h ?_
      intro q1 h
      refine dc_aloadn (pc := 100) (j := 0) (i := 0) hC 0 rfl rfl (show decode prog_15_method_43_code 100 = .ok (.aload_n 0, 1) by decide +kernel) ?_
      refine dc_iconst (pc := 101) (v := 4) hC (show decode prog_15_method_43_code 101 = .ok (.iconst 4, 1) by decide +kernel) (by decide +kernel) ?_
      refine dc_aloadn (pc := 102) (j := 0) (i := 0) hC 0 rfl rfl (show decode prog_15_method_43_code 102 = .ok (.aload_n 0, 1) by decide +kernel) ?_
      refine md_g19 (pc := 103) hC (show decode prog_15_method_43_code 103 = .ok (.getfield 465, 3) by decide +kernel) ?_
      refine dc_iconst (pc := 106) (v := 1) hC (show decode prog_15_method_43_code 106 = .ok (.iconst 1, 1) by decide +kernel) (by decide +kernel) ?_
      refine dc_isub (pc := 107) hC (show decode prog_15_method_43_code 107 = .ok (.isub, 1) by decide +kernel) ?_
      refine dc_iloadn (pc := 108) (j := 2) (i := 2) hC 2 rfl rfl (show decode prog_15_method_43_code 108 = .ok (.iload_n 2, 1) by decide +kernel) ?_
      refine dc_isub (pc := 109) hC (show decode prog_15_method_43_code 109 = .ok (.isub, 1) by decide +kernel) ?_
      refine dc_ishl (pc := 110) hC (show decode prog_15_method_43_code 110 = .ok (.ishl, 1) by decide +kernel) ?_
      refine md_p29 (pc := 111) hC (show decode prog_15_method_43_code 111 = .ok (.putfield 389, 3) by decide +kernel) ?_
      refine dc_letS h ?_
      intro S2 h
      refine dc_aloadn (pc := 114) (j := 0) (i := 0) hC 0 rfl rfl (show decode prog_15_method_43_code 114 = .ok (.aload_n 0, 1) by decide +kernel) ?_
      refine dc_bipush (pc := 115) (v := 9) hC (show decode prog_15_method_43_code 115 = .ok (.bipush 9, 2) by decide +kernel) (by decide +kernel) ?_
      refine dc_aloadn (pc := 117) (j := 0) (i := 0) hC 0 rfl rfl (show decode prog_15_method_43_code 117 = .ok (.aload_n 0, 1) by decide +kernel) ?_
      refine md_g26 (pc := 118) hC (show decode prog_15_method_43_code 118 = .ok (.getfield 30, 3) by decide +kernel) ?_
      refine dc_iloadn (pc := 121) (j := 2) (i := 2) hC 2 rfl rfl (show decode prog_15_method_43_code 121 = .ok (.iload_n 2, 1) by decide +kernel) ?_
      refine md_l26 (pc := 122) hC (show decode prog_15_method_43_code 122 = .ok (.iaload, 1) by decide +kernel) h ?_
      intro j3 h
      refine dc_iloadn (pc := 123) (j := 1) (i := 1) hC 1 rfl rfl (show decode prog_15_method_43_code 123 = .ok (.iload_n 1, 1) by decide +kernel) ?_
      refine mc_Vmi (pc := 124) (As := [.int 9, .int (S2.2.1 26 j3), .int x1]) (rest := []) hC vw_leaf_437 (mm_leaf_ok l D ad de o a ca S2 9 (S2.2.1 26 j3) x1) (Nat.le_of_ble_eq_true rfl) (Nat.le_of_ble_eq_true rfl) rfl (Nat.le_of_ble_eq_true rfl) (show decode prog_15_method_43_code 124 = .ok (.invokevirtual 437, 3) by decide +kernel) h ?_
      intro q4 h
      exact dc_iret (pc := 127) hC hR ⟨_, dc_some h, rfl, rfl⟩ (show decode prog_15_method_43_code 127 = .ok (.ireturn, 1) by decide +kernel)
  have lab_74 : ∀ (S : md_S) (x1 : Int32) (x2 : Int32), dc_wp (mm_exit_L74 S x1 x2) F → dc_G X l { frames := 3, cells := 0, slots := 0, locals := 62 } D 3 0 0 (md_W o a ca S) 74 [(0, .ref o), (1, .int x1), (2, .int x2)] [] := by
    intro S x1 x2 h
    delta mm_exit_L74 at h
    refine dc_iloadn (pc := 74) (j := 2) (i := 2) hC 2 rfl rfl (show decode prog_15_method_43_code 74 = .ok (.iload_n 2, 1) by decide +kernel) ?_
    refine dc_if_ge (pc := 75) (tgt := 87) hC (show decode prog_15_method_43_code 75 = .ok (.ifCond .ge 12, 3) by decide +kernel) (by decide +kernel) h ?_ ?_
    · intro h
      refine dc_aloadn (pc := 78) (j := 0) (i := 0) hC 0 rfl rfl (show decode prog_15_method_43_code 78 = .ok (.aload_n 0, 1) by decide +kernel) ?_
      refine dc_iconst (pc := 79) (v := 2) hC (show decode prog_15_method_43_code 79 = .ok (.iconst 2, 1) by decide +kernel) (by decide +kernel) ?_
      refine dc_aloadn (pc := 80) (j := 0) (i := 0) hC 0 rfl rfl (show decode prog_15_method_43_code 80 = .ok (.aload_n 0, 1) by decide +kernel) ?_
      refine md_g8 (pc := 81) hC (show decode prog_15_method_43_code 81 = .ok (.getfield 237, 3) by decide +kernel) ?_
      refine mc_Vmv (pc := 84) (As := [.int 2, .int (S.1 8)]) (rest := []) hC vw_fail_267 (mm_fail_ok l D ad de o a ca S 2 (S.1 8)) (Nat.le_of_ble_eq_true rfl) (Nat.le_of_ble_eq_true rfl) rfl (Nat.le_of_ble_eq_true rfl) (show decode prog_15_method_43_code 84 = .ok (.invokevirtual 267, 3) by decide +kernel) h ?_
      intro q5 h
      exact lab_87 q5 x1 x2 h
    · intro h
      exact lab_87 S x1 x2 h
  have loop_32 : ∀ (S : md_S) (x1 : Int32) (q : Int32), dc_wp (dc_it (mm_exit_s32 S x1) q) (fun z => dc_wp ((fun (z : Int32) => mm_exit_L74 S x1 z) z) F) → dc_G X l { frames := 3, cells := 0, slots := 0, locals := 62 } D 3 0 0 (md_W o a ca S) 32 [(0, .ref o), (1, .int x1), (2, .int q)] [] := by
    intro S x1
    refine dc_loopF ?_
    intro F_32 hl_32 hr_32
    rintro x2 h
    have h : dc_wp (mm_exit_b32 S x1 x2) F_32 := h
    delta mm_exit_b32 at h
    refine dc_iloadn (pc := 32) (j := 2) (i := 2) hC 2 rfl rfl (show decode prog_15_method_43_code 32 = .ok (.iload_n 2, 1) by decide +kernel) ?_
    refine dc_if_lt (pc := 33) (tgt := 74) hC (show decode prog_15_method_43_code 33 = .ok (.ifCond .lt 41, 3) by decide +kernel) (by decide +kernel) h ?_ ?_
    · intro h
      have h : dc_wp (mm_exit_L74 S x1 x2) F := hr_32 x2 (dc_some h)
      exact lab_74 S x1 x2 h
    · intro h
      refine dc_aloadn (pc := 36) (j := 0) (i := 0) hC 0 rfl rfl (show decode prog_15_method_43_code 36 = .ok (.aload_n 0, 1) by decide +kernel) ?_
      refine dc_aloadn (pc := 37) (j := 0) (i := 0) hC 0 rfl rfl (show decode prog_15_method_43_code 37 = .ok (.aload_n 0, 1) by decide +kernel) ?_
      refine md_g24 (pc := 38) hC (show decode prog_15_method_43_code 38 = .ok (.getfield 24, 3) by decide +kernel) ?_
      refine dc_iloadn (pc := 41) (j := 2) (i := 2) hC 2 rfl rfl (show decode prog_15_method_43_code 41 = .ok (.iload_n 2, 1) by decide +kernel) ?_
      refine md_l24 (pc := 42) hC (show decode prog_15_method_43_code 42 = .ok (.iaload, 1) by decide +kernel) h ?_
      intro j6 h
      refine dc_aloadn (pc := 43) (j := 0) (i := 0) hC 0 rfl rfl (show decode prog_15_method_43_code 43 = .ok (.aload_n 0, 1) by decide +kernel) ?_
      refine md_g25 (pc := 44) hC (show decode prog_15_method_43_code 44 = .ok (.getfield 27, 3) by decide +kernel) ?_
      refine dc_iloadn (pc := 47) (j := 2) (i := 2) hC 2 rfl rfl (show decode prog_15_method_43_code 47 = .ok (.iload_n 2, 1) by decide +kernel) ?_
      refine md_l25 (pc := 48) hC (show decode prog_15_method_43_code 48 = .ok (.iaload, 1) by decide +kernel) h ?_
      intro j7 h
      refine dc_aloadn (pc := 49) (j := 0) (i := 0) hC 0 rfl rfl (show decode prog_15_method_43_code 49 = .ok (.aload_n 0, 1) by decide +kernel) ?_
      refine md_g7 (pc := 50) hC (show decode prog_15_method_43_code 50 = .ok (.getfield 234, 3) by decide +kernel) ?_
      refine dc_aloadn (pc := 53) (j := 0) (i := 0) hC 0 rfl rfl (show decode prog_15_method_43_code 53 = .ok (.aload_n 0, 1) by decide +kernel) ?_
      refine md_g4 (pc := 54) hC (show decode prog_15_method_43_code 54 = .ok (.getfield 224, 3) by decide +kernel) ?_
      refine dc_aloadn (pc := 57) (j := 0) (i := 0) hC 0 rfl rfl (show decode prog_15_method_43_code 57 = .ok (.aload_n 0, 1) by decide +kernel) ?_
      refine md_g7 (pc := 58) hC (show decode prog_15_method_43_code 58 = .ok (.getfield 234, 3) by decide +kernel) ?_
      refine dc_isub (pc := 61) hC (show decode prog_15_method_43_code 61 = .ok (.isub, 1) by decide +kernel) ?_
      refine mc_Vpi (pc := 62) (As := [.int (S.2.1 24 j6), .int (S.2.1 25 j7), .int (S.1 7), .int ((S.1 4) - (S.1 7))]) (rest := []) hC vw_same_330 (mm_same_ok l D ad de o a ca S (S.2.1 24 j6) (S.2.1 25 j7) (S.1 7) ((S.1 4) - (S.1 7))) (Nat.le_of_ble_eq_true rfl) (Nat.le_of_ble_eq_true rfl) rfl (Nat.le_of_ble_eq_true rfl) (show decode prog_15_method_43_code 62 = .ok (.invokevirtual 330, 3) by decide +kernel) h ?_
      intro q8 h
      refine dc_if_ne (pc := 65) (tgt := 74) hC (show decode prog_15_method_43_code 65 = .ok (.ifCond .ne 9, 3) by decide +kernel) (by decide +kernel) h ?_ ?_
      · intro h
        refine dc_iinc (pc := 68) (i := 2) (v := (x2 + (-1))) (lv' := [(2, .int (x2 + (-1))), (0, .ref o), (1, .int x1)]) hC 2 rfl (congrArg (fun z => x2 + z) (show Int32.ofInt (-1) = (-1 : Int32) by decide +kernel)) (Nat.le_of_ble_eq_true rfl) rfl (show decode prog_15_method_43_code 68 = .ok (.iinc 2 (-1), 3) by decide +kernel) ?_
        refine dc_goto (pc := 71) (tgt := 32) hC (show decode prog_15_method_43_code 71 = .ok (.goto (-39), 3) by decide +kernel) (by decide +kernel) ?_
        exact dc_sub [1, 2, 0] rfl (hl_32 (x2 + (-1)) (dc_some h))
      · intro h
        have h : dc_wp (mm_exit_L74 S x1 x2) F := hr_32 x2 (dc_some h)
        exact lab_74 S x1 x2 h
  have lab_32 : ∀ (S : md_S) (x1 : Int32) (x2 : Int32), dc_wp (mm_exit_L32 S x1 x2) F → dc_G X l { frames := 3, cells := 0, slots := 0, locals := 62 } D 3 0 0 (md_W o a ca S) 32 [(0, .ref o), (1, .int x1), (2, .int x2)] [] := fun S x1 x2 h => loop_32 S x1 x2 (dc_bind h)
  have lab_16 : ∀ (S : md_S) (x1 : Int32), dc_wp (mm_exit_L16 S x1) F → dc_G X l { frames := 3, cells := 0, slots := 0, locals := 62 } D 3 0 0 (md_W o a ca S) 16 [(0, .ref o), (1, .int x1)] [] := by
    intro S x1 h
    delta mm_exit_L16 at h
    refine dc_aloadn (pc := 16) (j := 0) (i := 0) hC 0 rfl rfl (show decode prog_15_method_43_code 16 = .ok (.aload_n 0, 1) by decide +kernel) ?_
    refine md_g10 (pc := 17) hC (show decode prog_15_method_43_code 17 = .ok (.getfield 221, 3) by decide +kernel) ?_
    refine dc_if_le (pc := 20) (tgt := 25) hC (show decode prog_15_method_43_code 20 = .ok (.ifCond .le 5, 3) by decide +kernel) (by decide +kernel) h ?_ ?_
    · intro h
      refine dc_iconst (pc := 23) (v := 0) hC (show decode prog_15_method_43_code 23 = .ok (.iconst 0, 1) by decide +kernel) (by decide +kernel) ?_
      exact dc_iret (pc := 24) hC hR ⟨_, dc_some h, rfl, rfl⟩ (show decode prog_15_method_43_code 24 = .ok (.ireturn, 1) by decide +kernel)
    · intro h
      refine dc_aloadn (pc := 25) (j := 0) (i := 0) hC 0 rfl rfl (show decode prog_15_method_43_code 25 = .ok (.aload_n 0, 1) by decide +kernel) ?_
      refine md_g19 (pc := 26) hC (show decode prog_15_method_43_code 26 = .ok (.getfield 465, 3) by decide +kernel) ?_
      refine dc_iconst (pc := 29) (v := 1) hC (show decode prog_15_method_43_code 29 = .ok (.iconst 1, 1) by decide +kernel) (by decide +kernel) ?_
      refine dc_isub (pc := 30) hC (show decode prog_15_method_43_code 30 = .ok (.isub, 1) by decide +kernel) ?_
      refine dc_letI h ?_
      intro v9 h
      refine dc_istoren (pc := 31) (j := 2) (i := 2) (lv' := [(2, .int v9), (0, .ref o), (1, .int x1)]) hC rfl (Nat.le_of_ble_eq_true rfl) rfl (show decode prog_15_method_43_code 31 = .ok (.istore_n 2, 1) by decide +kernel) ?_
      exact dc_sub [1, 2, 0] rfl (lab_32 S x1 v9 h)
  show dc_G X l { frames := 3, cells := 0, slots := 0, locals := 62 } D 3 0 0 (md_W o a ca S) 0 [(0, .ref o), (1, .int p1)] []
  delta mm_exit at h
  refine dc_aloadn (pc := 0) (j := 0) (i := 0) hC 0 rfl rfl (show decode prog_15_method_43_code 0 = .ok (.aload_n 0, 1) by decide +kernel) ?_
  refine mc_Vpi (pc := 1) (As := []) (rest := []) hC vw_isName_337 (mm_isName_ok l D ad de o a ca S) (Nat.le_of_ble_eq_true rfl) (Nat.le_of_ble_eq_true rfl) rfl (Nat.le_of_ble_eq_true rfl) (show decode prog_15_method_43_code 1 = .ok (.invokevirtual 337, 3) by decide +kernel) h ?_
  intro q10 h
  refine dc_if_ne (pc := 4) (tgt := 16) hC (show decode prog_15_method_43_code 4 = .ok (.ifCond .ne 12, 3) by decide +kernel) (by decide +kernel) h ?_ ?_
  · intro h
    refine dc_aloadn (pc := 7) (j := 0) (i := 0) hC 0 rfl rfl (show decode prog_15_method_43_code 7 = .ok (.aload_n 0, 1) by decide +kernel) ?_
    refine dc_iconst (pc := 8) (v := 1) hC (show decode prog_15_method_43_code 8 = .ok (.iconst 1, 1) by decide +kernel) (by decide +kernel) ?_
    refine dc_aloadn (pc := 9) (j := 0) (i := 0) hC 0 rfl rfl (show decode prog_15_method_43_code 9 = .ok (.aload_n 0, 1) by decide +kernel) ?_
    refine md_g8 (pc := 10) hC (show decode prog_15_method_43_code 10 = .ok (.getfield 237, 3) by decide +kernel) ?_
    refine mc_Vmv (pc := 13) (As := [.int 1, .int (S.1 8)]) (rest := []) hC vw_fail_267 (mm_fail_ok l D ad de o a ca S 1 (S.1 8)) (Nat.le_of_ble_eq_true rfl) (Nat.le_of_ble_eq_true rfl) rfl (Nat.le_of_ble_eq_true rfl) (show decode prog_15_method_43_code 13 = .ok (.invokevirtual 267, 3) by decide +kernel) h ?_
    intro q11 h
    exact lab_16 q11 p1 h
  · intro h
    exact lab_16 S p1 h
noncomputable def mm_simple_JI_L22 (S : md_S) (x1 : Int64) (x3 : Int32) (y0 : Int32) : Option (md_S × Int32) :=
  dc_let (md_i S 29 y0) fun S1 => if (dc_cmp x1 31084793196801639) = 0 then ((mm_leaf S1 0 (-1) x3).bind fun q2 => some (q2.1, q2.2)) else (if (dc_cmp x1 482671424357) = 0 then ((mm_leaf S1 1 (-1) x3).bind fun q3 => some (q3.1, q3.2)) else (if (dc_cmp x1 1751215220) = 0 then ((mm_halt S1 x3).bind fun q4 => some (q4.1, q4.2)) else (if (dc_cmp x1 1701669236) = 0 then ((mm_named S1 1).bind fun q5 => (mm_leaf q5.1 2 q5.2 x3).bind fun q6 => some (q6.1, q6.2)) else (if (dc_cmp x1 1702390132) = 0 then ((mm_exit S1 x3).bind fun q7 => some (q7.1, q7.2)) else (if (dc_cmp x1 32498761055955310) = 0 then ((mm_named S1 1).bind fun q8 => (mm_leaf q8.1 2 q8.2 x3).bind fun q9 => (mm_leaf q9.1 1 (-1) x3).bind fun q10 => (mm_node_IIIIII q10.1 5 q9.2 q10.2 (-1) x3 (-1)).bind fun q11 => (mm_node_IIIIII q11.1 6 q11.2 (-1) (-1) x3 (-1)).bind fun q12 => some (q12.1, q12.2)) else ((mm_asked_r S1).bind fun q13 => (mm_await q13.1 x3 q13.2).bind fun q14 => some (q14.1, q14.2)))))))
noncomputable def mm_simple_JI_L17 (S : md_S) (x1 : Int64) (x3 : Int32) : Option (md_S × Int32) :=
  mm_simple_JI_L22 S x1 x3 1
noncomputable def mm_simple_JI (S : md_S) (p1 : Int64) (p3 : Int32) : Option (md_S × Int32) :=
  if (dc_cmp p1 31084793196801639) = 0 then (mm_simple_JI_L17 S p1 p3) else (if (dc_cmp p1 1701669236) = 0 then (mm_simple_JI_L17 S p1 p3) else (mm_simple_JI_L22 S p1 p3 2))
set_option maxHeartbeats 4000000 in
set_option maxRecDepth 100000 in
/-- simple(JI)I -/
theorem mm_simple_JI_ok (l : Launch) (D : va_G) (ad : Nat → Nat) (de : Nat) (o : Nat) (a : Nat → Nat) (ca : Nat → ClassId) (S : md_S) (p1 : Int64) (p3 : Int32) (F : (md_S × Int32) → Prop) (h : dc_wp (mm_simple_JI S p1 p3) F) : dc_Ci l ⟨"SignalEngineModel", "simple", "(JI)I"⟩ prog_15_method_36_code 5 (some (.int)) 305 6705 D (md_T ca) ad de [.ref o, .long p1, .int p3] (md_W o a ca S) (fun r w => ∃ q, F q ∧ r = q.2 ∧ w = md_W o a ca q.1) 0 0 := by
  refine dc_enteri (by decide +kernel) (Nat.le_of_ble_eq_true rfl) ?_
  intro X hC hR
  have lab_22 : ∀ (S : md_S) (x1 : Int64) (x3 : Int32) (y0 : Int32), dc_wp (mm_simple_JI_L22 S x1 x3 y0) F → dc_G X l { frames := 305, cells := 0, slots := 0, locals := 6705 } D 5 0 0 (md_W o a ca S) 22 [(0, .ref o), (1, .long x1), (3, .int x3)] [.int y0, .ref o] := by
    intro S x1 x3 y0 h
    delta mm_simple_JI_L22 at h
    refine md_p29 (pc := 22) hC (show decode prog_15_method_36_code 22 = .ok (.putfield 389, 3) by decide +kernel) ?_
    refine dc_letS h ?_
    intro S1 h
    refine dc_lloadn (pc := 25) (j := 1) (i := 1) hC 1 rfl rfl (show decode prog_15_method_36_code 25 = .ok (.lload_n 1, 1) by decide +kernel) ?_
    refine dc_ldc2 (pc := 26) (v := 31084793196801639) hC w_1951 (show decode prog_15_method_36_code 26 = .ok (.ldc2_w 275, 3) by decide +kernel) ?_
    refine dc_lcmp (pc := 29) hC (show decode prog_15_method_36_code 29 = .ok (.lcmp, 1) by decide +kernel) ?_
    refine dc_if_ne (pc := 30) (tgt := 41) hC (show decode prog_15_method_36_code 30 = .ok (.ifCond .ne 11, 3) by decide +kernel) (by decide +kernel) h ?_ ?_
    · intro h
      refine dc_aloadn (pc := 33) (j := 0) (i := 0) hC 0 rfl rfl (show decode prog_15_method_36_code 33 = .ok (.aload_n 0, 1) by decide +kernel) ?_
      refine dc_iconst (pc := 34) (v := 0) hC (show decode prog_15_method_36_code 34 = .ok (.iconst 0, 1) by decide +kernel) (by decide +kernel) ?_
      refine dc_iconst (pc := 35) (v := (-1)) hC (show decode prog_15_method_36_code 35 = .ok (.iconst (-1), 1) by decide +kernel) (by decide +kernel) ?_
      refine dc_iloadn (pc := 36) (j := 3) (i := 3) hC 2 rfl rfl (show decode prog_15_method_36_code 36 = .ok (.iload_n 3, 1) by decide +kernel) ?_
      refine mc_Vmi (pc := 37) (As := [.int 0, .int (-1), .int x3]) (rest := []) hC vw_leaf_437 (mm_leaf_ok l D ad de o a ca S1 0 (-1) x3) (Nat.le_of_ble_eq_true rfl) (Nat.le_of_ble_eq_true rfl) rfl (Nat.le_of_ble_eq_true rfl) (show decode prog_15_method_36_code 37 = .ok (.invokevirtual 437, 3) by decide +kernel) h ?_
      intro q2 h
      exact dc_iret (pc := 40) hC hR ⟨_, dc_some h, rfl, rfl⟩ (show decode prog_15_method_36_code 40 = .ok (.ireturn, 1) by decide +kernel)
    · intro h
      refine dc_lloadn (pc := 41) (j := 1) (i := 1) hC 1 rfl rfl (show decode prog_15_method_36_code 41 = .ok (.lload_n 1, 1) by decide +kernel) ?_
      refine dc_ldc2 (pc := 42) (v := 482671424357) hC w_1952 (show decode prog_15_method_36_code 42 = .ok (.ldc2_w 277, 3) by decide +kernel) ?_
      refine dc_lcmp (pc := 45) hC (show decode prog_15_method_36_code 45 = .ok (.lcmp, 1) by decide +kernel) ?_
      refine dc_if_ne (pc := 46) (tgt := 57) hC (show decode prog_15_method_36_code 46 = .ok (.ifCond .ne 11, 3) by decide +kernel) (by decide +kernel) h ?_ ?_
      · intro h
        refine dc_aloadn (pc := 49) (j := 0) (i := 0) hC 0 rfl rfl (show decode prog_15_method_36_code 49 = .ok (.aload_n 0, 1) by decide +kernel) ?_
        refine dc_iconst (pc := 50) (v := 1) hC (show decode prog_15_method_36_code 50 = .ok (.iconst 1, 1) by decide +kernel) (by decide +kernel) ?_
        refine dc_iconst (pc := 51) (v := (-1)) hC (show decode prog_15_method_36_code 51 = .ok (.iconst (-1), 1) by decide +kernel) (by decide +kernel) ?_
        refine dc_iloadn (pc := 52) (j := 3) (i := 3) hC 2 rfl rfl (show decode prog_15_method_36_code 52 = .ok (.iload_n 3, 1) by decide +kernel) ?_
        refine mc_Vmi (pc := 53) (As := [.int 1, .int (-1), .int x3]) (rest := []) hC vw_leaf_437 (mm_leaf_ok l D ad de o a ca S1 1 (-1) x3) (Nat.le_of_ble_eq_true rfl) (Nat.le_of_ble_eq_true rfl) rfl (Nat.le_of_ble_eq_true rfl) (show decode prog_15_method_36_code 53 = .ok (.invokevirtual 437, 3) by decide +kernel) h ?_
        intro q3 h
        exact dc_iret (pc := 56) hC hR ⟨_, dc_some h, rfl, rfl⟩ (show decode prog_15_method_36_code 56 = .ok (.ireturn, 1) by decide +kernel)
      · intro h
        refine dc_lloadn (pc := 57) (j := 1) (i := 1) hC 1 rfl rfl (show decode prog_15_method_36_code 57 = .ok (.lload_n 1, 1) by decide +kernel) ?_
        refine dc_ldc2 (pc := 58) (v := 1751215220) hC w_1953 (show decode prog_15_method_36_code 58 = .ok (.ldc2_w 279, 3) by decide +kernel) ?_
        refine dc_lcmp (pc := 61) hC (show decode prog_15_method_36_code 61 = .ok (.lcmp, 1) by decide +kernel) ?_
        refine dc_if_ne (pc := 62) (tgt := 71) hC (show decode prog_15_method_36_code 62 = .ok (.ifCond .ne 9, 3) by decide +kernel) (by decide +kernel) h ?_ ?_
        · intro h
          refine dc_aloadn (pc := 65) (j := 0) (i := 0) hC 0 rfl rfl (show decode prog_15_method_36_code 65 = .ok (.aload_n 0, 1) by decide +kernel) ?_
          refine dc_iloadn (pc := 66) (j := 3) (i := 3) hC 2 rfl rfl (show decode prog_15_method_36_code 66 = .ok (.iload_n 3, 1) by decide +kernel) ?_
          refine mc_Vmi (pc := 67) (As := [.int x3]) (rest := []) hC vw_halt_440 (mm_halt_ok l D ad de o a ca S1 x3) (Nat.le_of_ble_eq_true rfl) (Nat.le_of_ble_eq_true rfl) rfl (Nat.le_of_ble_eq_true rfl) (show decode prog_15_method_36_code 67 = .ok (.invokevirtual 440, 3) by decide +kernel) h ?_
          intro q4 h
          exact dc_iret (pc := 70) hC hR ⟨_, dc_some h, rfl, rfl⟩ (show decode prog_15_method_36_code 70 = .ok (.ireturn, 1) by decide +kernel)
        · intro h
          refine dc_lloadn (pc := 71) (j := 1) (i := 1) hC 1 rfl rfl (show decode prog_15_method_36_code 71 = .ok (.lload_n 1, 1) by decide +kernel) ?_
          refine dc_ldc2 (pc := 72) (v := 1701669236) hC w_1954 (show decode prog_15_method_36_code 72 = .ok (.ldc2_w 281, 3) by decide +kernel) ?_
          refine dc_lcmp (pc := 75) hC (show decode prog_15_method_36_code 75 = .ok (.lcmp, 1) by decide +kernel) ?_
          refine dc_if_ne (pc := 76) (tgt := 91) hC (show decode prog_15_method_36_code 76 = .ok (.ifCond .ne 15, 3) by decide +kernel) (by decide +kernel) h ?_ ?_
          · intro h
            refine dc_aloadn (pc := 79) (j := 0) (i := 0) hC 0 rfl rfl (show decode prog_15_method_36_code 79 = .ok (.aload_n 0, 1) by decide +kernel) ?_
            refine dc_iconst (pc := 80) (v := 2) hC (show decode prog_15_method_36_code 80 = .ok (.iconst 2, 1) by decide +kernel) (by decide +kernel) ?_
            refine dc_aloadn (pc := 81) (j := 0) (i := 0) hC 0 rfl rfl (show decode prog_15_method_36_code 81 = .ok (.aload_n 0, 1) by decide +kernel) ?_
            refine dc_iconst (pc := 82) (v := 1) hC (show decode prog_15_method_36_code 82 = .ok (.iconst 1, 1) by decide +kernel) (by decide +kernel) ?_
            refine mc_Vmi (pc := 83) (As := [.int 1]) (rest := [.int 2, .ref o]) hC vw_named_366 (mm_named_ok l D ad de o a ca S1 1) (Nat.le_of_ble_eq_true rfl) (Nat.le_of_ble_eq_true rfl) rfl (Nat.le_of_ble_eq_true rfl) (show decode prog_15_method_36_code 83 = .ok (.invokevirtual 366, 3) by decide +kernel) h ?_
            intro q5 h
            refine dc_iloadn (pc := 86) (j := 3) (i := 3) hC 2 rfl rfl (show decode prog_15_method_36_code 86 = .ok (.iload_n 3, 1) by decide +kernel) ?_
            refine mc_Vmi (pc := 87) (As := [.int 2, .int q5.2, .int x3]) (rest := []) hC vw_leaf_437 (mm_leaf_ok l D ad de o a ca q5.1 2 q5.2 x3) (Nat.le_of_ble_eq_true rfl) (Nat.le_of_ble_eq_true rfl) rfl (Nat.le_of_ble_eq_true rfl) (show decode prog_15_method_36_code 87 = .ok (.invokevirtual 437, 3) by decide +kernel) h ?_
            intro q6 h
            exact dc_iret (pc := 90) hC hR ⟨_, dc_some h, rfl, rfl⟩ (show decode prog_15_method_36_code 90 = .ok (.ireturn, 1) by decide +kernel)
          · intro h
            refine dc_lloadn (pc := 91) (j := 1) (i := 1) hC 1 rfl rfl (show decode prog_15_method_36_code 91 = .ok (.lload_n 1, 1) by decide +kernel) ?_
            refine dc_ldc2 (pc := 92) (v := 1702390132) hC w_1956 (show decode prog_15_method_36_code 92 = .ok (.ldc2_w 285, 3) by decide +kernel) ?_
            refine dc_lcmp (pc := 95) hC (show decode prog_15_method_36_code 95 = .ok (.lcmp, 1) by decide +kernel) ?_
            refine dc_if_ne (pc := 96) (tgt := 105) hC (show decode prog_15_method_36_code 96 = .ok (.ifCond .ne 9, 3) by decide +kernel) (by decide +kernel) h ?_ ?_
            · intro h
              refine dc_aloadn (pc := 99) (j := 0) (i := 0) hC 0 rfl rfl (show decode prog_15_method_36_code 99 = .ok (.aload_n 0, 1) by decide +kernel) ?_
              refine dc_iloadn (pc := 100) (j := 3) (i := 3) hC 2 rfl rfl (show decode prog_15_method_36_code 100 = .ok (.iload_n 3, 1) by decide +kernel) ?_
              refine mc_Vmi (pc := 101) (As := [.int x3]) (rest := []) hC vw_exit_443 (mm_exit_ok l D ad de o a ca S1 x3) (Nat.le_of_ble_eq_true rfl) (Nat.le_of_ble_eq_true rfl) rfl (Nat.le_of_ble_eq_true rfl) (show decode prog_15_method_36_code 101 = .ok (.invokevirtual 443, 3) by decide +kernel) h ?_
              intro q7 h
              exact dc_iret (pc := 104) hC hR ⟨_, dc_some h, rfl, rfl⟩ (show decode prog_15_method_36_code 104 = .ok (.ireturn, 1) by decide +kernel)
            · intro h
              refine dc_lloadn (pc := 105) (j := 1) (i := 1) hC 1 rfl rfl (show decode prog_15_method_36_code 105 = .ok (.lload_n 1, 1) by decide +kernel) ?_
              refine dc_ldc2 (pc := 106) (v := 32498761055955310) hC w_1955 (show decode prog_15_method_36_code 106 = .ok (.ldc2_w 283, 3) by decide +kernel) ?_
              refine dc_lcmp (pc := 109) hC (show decode prog_15_method_36_code 109 = .ok (.lcmp, 1) by decide +kernel) ?_
              refine dc_if_ne (pc := 110) (tgt := 154) hC (show decode prog_15_method_36_code 110 = .ok (.ifCond .ne 44, 3) by decide +kernel) (by decide +kernel) h ?_ ?_
              · intro h
                refine dc_aloadn (pc := 113) (j := 0) (i := 0) hC 0 rfl rfl (show decode prog_15_method_36_code 113 = .ok (.aload_n 0, 1) by decide +kernel) ?_
                refine dc_iconst (pc := 114) (v := 2) hC (show decode prog_15_method_36_code 114 = .ok (.iconst 2, 1) by decide +kernel) (by decide +kernel) ?_
                refine dc_aloadn (pc := 115) (j := 0) (i := 0) hC 0 rfl rfl (show decode prog_15_method_36_code 115 = .ok (.aload_n 0, 1) by decide +kernel) ?_
                refine dc_iconst (pc := 116) (v := 1) hC (show decode prog_15_method_36_code 116 = .ok (.iconst 1, 1) by decide +kernel) (by decide +kernel) ?_
                refine mc_Vmi (pc := 117) (As := [.int 1]) (rest := [.int 2, .ref o]) hC vw_named_366 (mm_named_ok l D ad de o a ca S1 1) (Nat.le_of_ble_eq_true rfl) (Nat.le_of_ble_eq_true rfl) rfl (Nat.le_of_ble_eq_true rfl) (show decode prog_15_method_36_code 117 = .ok (.invokevirtual 366, 3) by decide +kernel) h ?_
                intro q8 h
                refine dc_iloadn (pc := 120) (j := 3) (i := 3) hC 2 rfl rfl (show decode prog_15_method_36_code 120 = .ok (.iload_n 3, 1) by decide +kernel) ?_
                refine mc_Vmi (pc := 121) (As := [.int 2, .int q8.2, .int x3]) (rest := []) hC vw_leaf_437 (mm_leaf_ok l D ad de o a ca q8.1 2 q8.2 x3) (Nat.le_of_ble_eq_true rfl) (Nat.le_of_ble_eq_true rfl) rfl (Nat.le_of_ble_eq_true rfl) (show decode prog_15_method_36_code 121 = .ok (.invokevirtual 437, 3) by decide +kernel) h ?_
                intro q9 h
                refine dc_istore (pc := 124) (i := 4) (lv' := [(4, .int q9.2), (0, .ref o), (1, .long x1), (3, .int x3)]) hC (Nat.le_of_ble_eq_true rfl) rfl (show decode prog_15_method_36_code 124 = .ok (.istore 4, 2) by decide +kernel) ?_
                refine dc_aloadn (pc := 126) (j := 0) (i := 0) hC 1 rfl rfl (show decode prog_15_method_36_code 126 = .ok (.aload_n 0, 1) by decide +kernel) ?_
                refine dc_bipush (pc := 127) (v := 6) hC (show decode prog_15_method_36_code 127 = .ok (.bipush 6, 2) by decide +kernel) (by decide +kernel) ?_
                refine dc_aloadn (pc := 129) (j := 0) (i := 0) hC 1 rfl rfl (show decode prog_15_method_36_code 129 = .ok (.aload_n 0, 1) by decide +kernel) ?_
                refine dc_iconst (pc := 130) (v := 5) hC (show decode prog_15_method_36_code 130 = .ok (.iconst 5, 1) by decide +kernel) (by decide +kernel) ?_
                refine dc_iload (pc := 131) (i := 4) hC 0 rfl (show decode prog_15_method_36_code 131 = .ok (.iload 4, 2) by decide +kernel) ?_
                refine dc_aloadn (pc := 133) (j := 0) (i := 0) hC 1 rfl rfl (show decode prog_15_method_36_code 133 = .ok (.aload_n 0, 1) by decide +kernel) ?_
                refine dc_iconst (pc := 134) (v := 1) hC (show decode prog_15_method_36_code 134 = .ok (.iconst 1, 1) by decide +kernel) (by decide +kernel) ?_
                refine dc_iconst (pc := 135) (v := (-1)) hC (show decode prog_15_method_36_code 135 = .ok (.iconst (-1), 1) by decide +kernel) (by decide +kernel) ?_
                refine dc_iloadn (pc := 136) (j := 3) (i := 3) hC 3 rfl rfl (show decode prog_15_method_36_code 136 = .ok (.iload_n 3, 1) by decide +kernel) ?_
                refine mc_Vmi (pc := 137) (As := [.int 1, .int (-1), .int x3]) (rest := [.int q9.2, .int 5, .ref o, .int 6, .ref o]) hC vw_leaf_437 (mm_leaf_ok l D ad de o a ca q9.1 1 (-1) x3) (Nat.le_of_ble_eq_true rfl) (Nat.le_of_ble_eq_true rfl) rfl (Nat.le_of_ble_eq_true rfl) (show decode prog_15_method_36_code 137 = .ok (.invokevirtual 437, 3) by decide +kernel) h ?_
                intro q10 h
                refine dc_iconst (pc := 140) (v := (-1)) hC (show decode prog_15_method_36_code 140 = .ok (.iconst (-1), 1) by decide +kernel) (by decide +kernel) ?_
                refine dc_iloadn (pc := 141) (j := 3) (i := 3) hC 3 rfl rfl (show decode prog_15_method_36_code 141 = .ok (.iload_n 3, 1) by decide +kernel) ?_
                refine dc_iconst (pc := 142) (v := (-1)) hC (show decode prog_15_method_36_code 142 = .ok (.iconst (-1), 1) by decide +kernel) (by decide +kernel) ?_
                refine mc_Vmi (pc := 143) (As := [.int 5, .int q9.2, .int q10.2, .int (-1), .int x3, .int (-1)]) (rest := [.int 6, .ref o]) hC vw_node_IIIIII_382 (mm_node_IIIIII_ok l D ad de o a ca q10.1 5 q9.2 q10.2 (-1) x3 (-1)) (Nat.le_of_ble_eq_true rfl) (Nat.le_of_ble_eq_true rfl) rfl (Nat.le_of_ble_eq_true rfl) (show decode prog_15_method_36_code 143 = .ok (.invokevirtual 382, 3) by decide +kernel) h ?_
                intro q11 h
                refine dc_iconst (pc := 146) (v := (-1)) hC (show decode prog_15_method_36_code 146 = .ok (.iconst (-1), 1) by decide +kernel) (by decide +kernel) ?_
                refine dc_iconst (pc := 147) (v := (-1)) hC (show decode prog_15_method_36_code 147 = .ok (.iconst (-1), 1) by decide +kernel) (by decide +kernel) ?_
                refine dc_iloadn (pc := 148) (j := 3) (i := 3) hC 3 rfl rfl (show decode prog_15_method_36_code 148 = .ok (.iload_n 3, 1) by decide +kernel) ?_
                refine dc_iconst (pc := 149) (v := (-1)) hC (show decode prog_15_method_36_code 149 = .ok (.iconst (-1), 1) by decide +kernel) (by decide +kernel) ?_
                refine mc_Vmi (pc := 150) (As := [.int 6, .int q11.2, .int (-1), .int (-1), .int x3, .int (-1)]) (rest := []) hC vw_node_IIIIII_382 (mm_node_IIIIII_ok l D ad de o a ca q11.1 6 q11.2 (-1) (-1) x3 (-1)) (Nat.le_of_ble_eq_true rfl) (Nat.le_of_ble_eq_true rfl) rfl (Nat.le_of_ble_eq_true rfl) (show decode prog_15_method_36_code 150 = .ok (.invokevirtual 382, 3) by decide +kernel) h ?_
                intro q12 h
                exact dc_iret (pc := 153) hC hR ⟨_, dc_some h, rfl, rfl⟩ (show decode prog_15_method_36_code 153 = .ok (.ireturn, 1) by decide +kernel)
              · intro h
                refine dc_aloadn (pc := 154) (j := 0) (i := 0) hC 0 rfl rfl (show decode prog_15_method_36_code 154 = .ok (.aload_n 0, 1) by decide +kernel) ?_
                refine dc_iloadn (pc := 155) (j := 3) (i := 3) hC 2 rfl rfl (show decode prog_15_method_36_code 155 = .ok (.iload_n 3, 1) by decide +kernel) ?_
                refine dc_aloadn (pc := 156) (j := 0) (i := 0) hC 0 rfl rfl (show decode prog_15_method_36_code 156 = .ok (.aload_n 0, 1) by decide +kernel) ?_
                refine mc_Vmi (pc := 157) (As := []) (rest := [.int x3, .ref o]) hC vw_asked_373 (mm_asked_r_ok l D ad de o a ca S1) (Nat.le_of_ble_eq_true rfl) (Nat.le_of_ble_eq_true rfl) rfl (Nat.le_of_ble_eq_true rfl) (show decode prog_15_method_36_code 157 = .ok (.invokevirtual 373, 3) by decide +kernel) h ?_
                intro q13 h
                refine mc_Vmi (pc := 160) (As := [.int x3, .int q13.2]) (rest := []) hC vw_await_446 (mm_await_ok l D ad de o a ca q13.1 x3 q13.2) (Nat.le_of_ble_eq_true rfl) (Nat.le_of_ble_eq_true rfl) rfl (Nat.le_of_ble_eq_true rfl) (show decode prog_15_method_36_code 160 = .ok (.invokevirtual 446, 3) by decide +kernel) h ?_
                intro q14 h
                exact dc_iret (pc := 163) hC hR ⟨_, dc_some h, rfl, rfl⟩ (show decode prog_15_method_36_code 163 = .ok (.ireturn, 1) by decide +kernel)
  have lab_17 : ∀ (S : md_S) (x1 : Int64) (x3 : Int32), dc_wp (mm_simple_JI_L17 S x1 x3) F → dc_G X l { frames := 305, cells := 0, slots := 0, locals := 6705 } D 5 0 0 (md_W o a ca S) 17 [(0, .ref o), (1, .long x1), (3, .int x3)] [.ref o] := by
    intro S x1 x3 h
    delta mm_simple_JI_L17 at h
    refine dc_iconst (pc := 17) (v := 1) hC (show decode prog_15_method_36_code 17 = .ok (.iconst 1, 1) by decide +kernel) (by decide +kernel) ?_
    refine dc_goto (pc := 18) (tgt := 22) hC (show decode prog_15_method_36_code 18 = .ok (.goto 4, 3) by decide +kernel) (by decide +kernel) ?_
    exact lab_22 S x1 x3 1 h
  show dc_G X l { frames := 305, cells := 0, slots := 0, locals := 6705 } D 5 0 0 (md_W o a ca S) 0 [(0, .ref o), (1, .long p1), (3, .int p3)] []
  delta mm_simple_JI at h
  refine dc_aloadn (pc := 0) (j := 0) (i := 0) hC 0 rfl rfl (show decode prog_15_method_36_code 0 = .ok (.aload_n 0, 1) by decide +kernel) ?_
  refine dc_lloadn (pc := 1) (j := 1) (i := 1) hC 1 rfl rfl (show decode prog_15_method_36_code 1 = .ok (.lload_n 1, 1) by decide +kernel) ?_
  refine dc_ldc2 (pc := 2) (v := 31084793196801639) hC w_1951 (show decode prog_15_method_36_code 2 = .ok (.ldc2_w 275, 3) by decide +kernel) ?_
  refine dc_lcmp (pc := 5) hC (show decode prog_15_method_36_code 5 = .ok (.lcmp, 1) by decide +kernel) ?_
  refine dc_if_eq (pc := 6) (tgt := 17) hC (show decode prog_15_method_36_code 6 = .ok (.ifCond .eq 11, 3) by decide +kernel) (by decide +kernel) h ?_ ?_
  · intro h
    exact lab_17 S p1 p3 h
  · intro h
    refine dc_lloadn (pc := 9) (j := 1) (i := 1) hC 1 rfl rfl (show decode prog_15_method_36_code 9 = .ok (.lload_n 1, 1) by decide +kernel) ?_
    refine dc_ldc2 (pc := 10) (v := 1701669236) hC w_1954 (show decode prog_15_method_36_code 10 = .ok (.ldc2_w 281, 3) by decide +kernel) ?_
    refine dc_lcmp (pc := 13) hC (show decode prog_15_method_36_code 13 = .ok (.lcmp, 1) by decide +kernel) ?_
    refine dc_if_ne (pc := 14) (tgt := 21) hC (show decode prog_15_method_36_code 14 = .ok (.ifCond .ne 7, 3) by decide +kernel) (by decide +kernel) h ?_ ?_
    · intro h
      exact lab_17 S p1 p3 h
    · intro h
      refine dc_iconst (pc := 21) (v := 2) hC (show decode prog_15_method_36_code 21 = .ok (.iconst 2, 1) by decide +kernel) (by decide +kernel) ?_
      exact lab_22 S p1 p3 2 h
abbrev mm_T2 : Type := (md_S → Option (md_S × Int32)) × (md_S → Option (md_S × Int32)) × (md_S → Option (md_S × Int32)) × (md_S → Option (md_S × Int32)) × (md_S → Int32 → Option (md_S × Int32)) × (md_S → Int32 → Option (md_S × Int32)) × (md_S → Int32 → Int32 → Option (md_S × Int32)) × (md_S → Int32 → Option (md_S × Int32)) × (md_S → Int32 → Option (md_S × Int32)) × (md_S → Int32 → Int32 → Option (md_S × Int32)) × (md_S → Int32 → Option (md_S × Int32)) × (md_S → Int32 → Option (md_S × Int32))
def mm_OK2 (l : Launch) (D : va_G) (ad : Nat → Nat) (de : Nat) (o : Nat) (a : Nat → Nat) (ca : Nat → ClassId) (T : mm_T2) (d : Nat) : Prop :=
  (∀ (S : md_S) (F : (md_S × Int32) → Prop), dc_wp (T.1 S) F → dc_Ci l ⟨"SignalEngineModel", "body", "()I"⟩ prog_15_method_32_code 4 (some (.int)) (d + 306) (26 * d + 6729) D (md_T ca) ad de [.ref o] (md_W o a ca S) (fun r w => ∃ q, F q ∧ r = q.2 ∧ w = md_W o a ca q.1) 0 0) ∧
  (∀ (S : md_S) (F : (md_S × Int32) → Prop), dc_wp (T.2.1 S) F → dc_Ci l ⟨"SignalEngineModel", "row", "()I"⟩ prog_15_method_33_code 4 (some (.int)) (d + 306) (26 * d + 6729) D (md_T ca) ad de [.ref o] (md_W o a ca S) (fun r w => ∃ q, F q ∧ r = q.2 ∧ w = md_W o a ca q.1) 0 0) ∧
  (∀ (S : md_S) (F : (md_S × Int32) → Prop), dc_wp (T.2.2.1 S) F → dc_Ci l ⟨"SignalEngineModel", "statement", "()I"⟩ prog_15_method_34_code 7 (some (.int)) (d + 306) (26 * d + 6729) D (md_T ca) ad de [.ref o] (md_W o a ca S) (fun r w => ∃ q, F q ∧ r = q.2 ∧ w = md_W o a ca q.1) 0 0) ∧
  (∀ (S : md_S) (F : (md_S × Int32) → Prop), dc_wp (T.2.2.2.1 S) F → dc_Ci l ⟨"SignalEngineModel", "closed", "()I"⟩ prog_15_method_37_code 2 (some (.int)) (d + 306) (26 * d + 6729) D (md_T ca) ad de [.ref o] (md_W o a ca S) (fun r w => ∃ q, F q ∧ r = q.2 ∧ w = md_W o a ca q.1) 0 0) ∧
  (∀ (S : md_S) (p1 : Int32) (F : (md_S × Int32) → Prop), dc_wp (T.2.2.2.2.1 S p1) F → dc_Ci l ⟨"SignalEngineModel", "present", "(I)I"⟩ prog_15_method_44_code 6 (some (.int)) (d + 306) (26 * d + 6729) D (md_T ca) ad de [.ref o, .int p1] (md_W o a ca S) (fun r w => ∃ q, F q ∧ r = q.2 ∧ w = md_W o a ca q.1) 0 0) ∧
  (∀ (S : md_S) (p1 : Int32) (F : (md_S × Int32) → Prop), dc_wp (T.2.2.2.2.2.1 S p1) F → dc_Ci l ⟨"SignalEngineModel", "suspend", "(I)I"⟩ prog_15_method_45_code 5 (some (.int)) (d + 306) (26 * d + 6729) D (md_T ca) ad de [.ref o, .int p1] (md_W o a ca S) (fun r w => ∃ q, F q ∧ r = q.2 ∧ w = md_W o a ca q.1) 0 0) ∧
  (∀ (S : md_S) (p1 : Int32) (p2 : Int32) (F : (md_S × Int32) → Prop), dc_wp (T.2.2.2.2.2.2.1 S p1 p2) F → dc_Ci l ⟨"SignalEngineModel", "loop", "(II)I"⟩ prog_15_method_46_code 6 (some (.int)) (d + 306) (26 * d + 6729) D (md_T ca) ad de [.ref o, .int p1, .int p2] (md_W o a ca S) (fun r w => ∃ q, F q ∧ r = q.2 ∧ w = md_W o a ca q.1) 0 0) ∧
  (∀ (S : md_S) (p1 : Int32) (F : (md_S × Int32) → Prop), dc_wp (T.2.2.2.2.2.2.2.1 S p1) F → dc_Ci l ⟨"SignalEngineModel", "trap", "(I)I"⟩ prog_15_method_47_code 4 (some (.int)) (d + 306) (26 * d + 6729) D (md_T ca) ad de [.ref o, .int p1] (md_W o a ca S) (fun r w => ∃ q, F q ∧ r = q.2 ∧ w = md_W o a ca q.1) 0 0) ∧
  (∀ (S : md_S) (p1 : Int32) (F : (md_S × Int32) → Prop), dc_wp (T.2.2.2.2.2.2.2.2.1 S p1) F → dc_Ci l ⟨"SignalEngineModel", "locals", "(I)I"⟩ prog_15_method_48_code 7 (some (.int)) (d + 306) (26 * d + 6729) D (md_T ca) ad de [.ref o, .int p1] (md_W o a ca S) (fun r w => ∃ q, F q ∧ r = q.2 ∧ w = md_W o a ca q.1) 0 0) ∧
  (∀ (S : md_S) (p1 : Int32) (p2 : Int32) (F : (md_S × Int32) → Prop), dc_wp (T.2.2.2.2.2.2.2.2.2.1 S p1 p2) F → dc_Ci l ⟨"SignalEngineModel", "abort", "(IZ)I"⟩ prog_15_method_49_code 6 (some (.int)) (d + 306) (26 * d + 6729) D (md_T ca) ad de [.ref o, .int p1, .int p2] (md_W o a ca S) (fun r w => ∃ q, F q ∧ r = q.2 ∧ w = md_W o a ca q.1) 0 0) ∧
  (∀ (S : md_S) (p1 : Int32) (F : (md_S × Int32) → Prop), dc_wp (T.2.2.2.2.2.2.2.2.2.2.1 S p1) F → dc_Ci l ⟨"SignalEngineModel", "weak", "(I)I"⟩ prog_15_method_50_code 2 (some (.int)) (d + 306) (26 * d + 6729) D (md_T ca) ad de [.ref o, .int p1] (md_W o a ca S) (fun r w => ∃ q, F q ∧ r = q.2 ∧ w = md_W o a ca q.1) 0 0) ∧
  (∀ (S : md_S) (p1 : Int32) (F : (md_S × Int32) → Prop), dc_wp (T.2.2.2.2.2.2.2.2.2.2.2 S p1) F → dc_Ci l ⟨"SignalEngineModel", "every", "(I)I"⟩ prog_15_method_51_code 7 (some (.int)) (d + 306) (26 * d + 6729) D (md_T ca) ad de [.ref o, .int p1] (md_W o a ca S) (fun r w => ∃ q, F q ∧ r = q.2 ∧ w = md_W o a ca q.1) 0 0)
noncomputable def mm_body_L54 (T : mm_T2) (S : md_S) (x1 : Int32) (x2 : Int32) : Option (md_S × Int32) :=
  dc_let (md_i S 29 x2) fun S1 => some (S1, x1)
noncomputable def mm_body_b10 (T : mm_T2) (S : md_S) (x1 : Int32) (x2 : Int32) : Option ((md_S × Int32 × Int32) ⊕ ((md_S × Int32 × Int32))) :=
  (mm_meetsSign S 256).bind fun q2 => if q2.2 = 0 then (some (.inr (q2.1, x1, x2))) else ((T.2.1 q2.1).bind fun q3 => (mm_pairs x2 (q3.1.1 29)).bind fun q4 => (dc_ix x1 1200).bind fun j5 => (mm_node_IIIIII q3.1 7 x1 q3.2 (-1) (q3.1.2.1 34 j5) (-1)).bind fun q6 => some (.inl (q6.1, q6.2, q4)))
noncomputable def mm_body_s10 (T : mm_T2) (q : md_S × Int32 × Int32) : Option ((md_S × Int32 × Int32) ⊕ ((md_S × Int32 × Int32))) :=
  mm_body_b10 T q.1 q.2.1 q.2.2
noncomputable def mm_body_L10 (T : mm_T2) (S : md_S) (x1 : Int32) (x2 : Int32) : Option (md_S × Int32) :=
  (dc_it (mm_body_s10 T) (S, x1, x2)).bind (fun (z : md_S × Int32 × Int32) => mm_body_L54 T z.1 z.2.1 z.2.2)
noncomputable def mm_body (T : mm_T2) (S : md_S) : Option (md_S × Int32) :=
  (T.2.1 S).bind fun q7 => dc_let ((q7.1.1 29) : Int32) fun v8 => mm_body_L10 T q7.1 q7.2 v8
set_option maxHeartbeats 4000000 in
set_option maxRecDepth 100000 in
/-- body()I -/
theorem mm_body_ok (l : Launch) (D : va_G) (ad : Nat → Nat) (de : Nat) (o : Nat) (a : Nat → Nat) (ca : Nat → ClassId) (T : mm_T2) (d : Nat) (hT : mm_OK2 l D ad de o a ca T d) (S : md_S) (F : (md_S × Int32) → Prop) (h : dc_wp (mm_body T S) F) : dc_Ci l ⟨"SignalEngineModel", "body", "()I"⟩ prog_15_method_32_code 4 (some (.int)) (d + 1 + 306) (26 * (d + 1) + 6729) D (md_T ca) ad de [.ref o] (md_W o a ca S) (fun r w => ∃ q, F q ∧ r = q.2 ∧ w = md_W o a ca q.1) 0 0 := by
  refine dc_enteri (by decide +kernel) (Nat.le_of_ble_eq_true rfl) ?_
  intro X hC hR
  have lab_54 : ∀ (S : md_S) (x1 : Int32) (x2 : Int32), dc_wp (mm_body_L54 T S x1 x2) F → dc_G X l { frames := d + 1 + 306, cells := 0, slots := 0, locals := 26 * (d + 1) + 6729 } D 4 0 0 (md_W o a ca S) 54 [(0, .ref o), (1, .int x1), (2, .int x2)] [] := by
    intro S x1 x2 h
    delta mm_body_L54 at h
    refine dc_aloadn (pc := 54) (j := 0) (i := 0) hC 0 rfl rfl (show decode prog_15_method_32_code 54 = .ok (.aload_n 0, 1) by decide +kernel) ?_
    refine dc_iloadn (pc := 55) (j := 2) (i := 2) hC 2 rfl rfl (show decode prog_15_method_32_code 55 = .ok (.iload_n 2, 1) by decide +kernel) ?_
    refine md_p29 (pc := 56) hC (show decode prog_15_method_32_code 56 = .ok (.putfield 389, 3) by decide +kernel) ?_
    refine dc_letS h ?_
    intro S1 h
    refine dc_iloadn (pc := 59) (j := 1) (i := 1) hC 1 rfl rfl (show decode prog_15_method_32_code 59 = .ok (.iload_n 1, 1) by decide +kernel) ?_
    exact dc_iret (pc := 60) hC hR ⟨_, dc_some h, rfl, rfl⟩ (show decode prog_15_method_32_code 60 = .ok (.ireturn, 1) by decide +kernel)
  have loop_10 : ∀ (q : md_S × Int32 × Int32), dc_wp (dc_it (mm_body_s10 T) q) (fun z => dc_wp ((fun (z : md_S × Int32 × Int32) => mm_body_L54 T z.1 z.2.1 z.2.2) z) F) → dc_G X l { frames := d + 1 + 306, cells := 0, slots := 0, locals := 26 * (d + 1) + 6729 } D 4 0 0 (md_W o a ca q.1) 10 [(0, .ref o), (1, .int q.2.1), (2, .int q.2.2)] [] := by
    refine dc_loopF ?_
    intro F_10 hl_10 hr_10
    rintro ⟨S, x1, x2⟩ h
    have h : dc_wp (mm_body_b10 T S x1 x2) F_10 := h
    delta mm_body_b10 at h
    refine dc_aloadn (pc := 10) (j := 0) (i := 0) hC 0 rfl rfl (show decode prog_15_method_32_code 10 = .ok (.aload_n 0, 1) by decide +kernel) ?_
    refine dc_sipush (pc := 11) (v := 256) hC (show decode prog_15_method_32_code 11 = .ok (.sipush 256, 3) by decide +kernel) (by decide +kernel) ?_
    refine mc_Vmi (pc := 14) (As := [.int 256]) (rest := []) hC vw_meetsSign_346 (mm_meetsSign_ok l D ad de o a ca S 256) (by omega) (by omega) rfl (Nat.le_of_ble_eq_true rfl) (show decode prog_15_method_32_code 14 = .ok (.invokevirtual 346, 3) by decide +kernel) h ?_
    intro q2 h
    refine dc_if_eq (pc := 17) (tgt := 54) hC (show decode prog_15_method_32_code 17 = .ok (.ifCond .eq 37, 3) by decide +kernel) (by decide +kernel) h ?_ ?_
    · intro h
      have h : dc_wp (mm_body_L54 T q2.1 x1 x2) F := hr_10 (q2.1, x1, x2) (dc_some h)
      exact lab_54 q2.1 x1 x2 h
    · intro h
      refine dc_aloadn (pc := 20) (j := 0) (i := 0) hC 0 rfl rfl (show decode prog_15_method_32_code 20 = .ok (.aload_n 0, 1) by decide +kernel) ?_
      refine mc_Vmi (pc := 21) (As := []) (rest := []) hC vw_row_386 (hT.2.1 q2.1) (by omega) (by omega) rfl (Nat.le_of_ble_eq_true rfl) (show decode prog_15_method_32_code 21 = .ok (.invokevirtual 386, 3) by decide +kernel) h ?_
      intro q3 h
      refine dc_istoren (pc := 24) (j := 3) (i := 3) (lv' := [(3, .int q3.2), (0, .ref o), (1, .int x1), (2, .int x2)]) hC rfl (Nat.le_of_ble_eq_true rfl) rfl (show decode prog_15_method_32_code 24 = .ok (.istore_n 3, 1) by decide +kernel) ?_
      refine dc_iloadn (pc := 25) (j := 2) (i := 2) hC 3 rfl rfl (show decode prog_15_method_32_code 25 = .ok (.iload_n 2, 1) by decide +kernel) ?_
      refine dc_aloadn (pc := 26) (j := 0) (i := 0) hC 1 rfl rfl (show decode prog_15_method_32_code 26 = .ok (.aload_n 0, 1) by decide +kernel) ?_
      refine md_g29 (pc := 27) hC (show decode prog_15_method_32_code 27 = .ok (.getfield 389, 3) by decide +kernel) ?_
      refine mc_Spi (pc := 30) (As := [.int x2, .int (q3.1.1 29)]) (rest := []) hC vs_pairs_392 (mm_pairs_ok l D ad de (md_W o a ca q3.1) (md_T ca) x2 (q3.1.1 29)) (by omega) (by omega) rfl (Nat.le_of_ble_eq_true rfl) (show decode prog_15_method_32_code 30 = .ok (.invokestatic 392, 3) by decide +kernel) h ?_
      intro q4 h
      refine dc_istoren (pc := 33) (j := 2) (i := 2) (lv' := [(2, .int q4), (3, .int q3.2), (0, .ref o), (1, .int x1)]) hC rfl (Nat.le_of_ble_eq_true rfl) rfl (show decode prog_15_method_32_code 33 = .ok (.istore_n 2, 1) by decide +kernel) ?_
      refine dc_aloadn (pc := 34) (j := 0) (i := 0) hC 2 rfl rfl (show decode prog_15_method_32_code 34 = .ok (.aload_n 0, 1) by decide +kernel) ?_
      refine dc_bipush (pc := 35) (v := 7) hC (show decode prog_15_method_32_code 35 = .ok (.bipush 7, 2) by decide +kernel) (by decide +kernel) ?_
      refine dc_iloadn (pc := 37) (j := 1) (i := 1) hC 3 rfl rfl (show decode prog_15_method_32_code 37 = .ok (.iload_n 1, 1) by decide +kernel) ?_
      refine dc_iloadn (pc := 38) (j := 3) (i := 3) hC 1 rfl rfl (show decode prog_15_method_32_code 38 = .ok (.iload_n 3, 1) by decide +kernel) ?_
      refine dc_iconst (pc := 39) (v := (-1)) hC (show decode prog_15_method_32_code 39 = .ok (.iconst (-1), 1) by decide +kernel) (by decide +kernel) ?_
      refine dc_aloadn (pc := 40) (j := 0) (i := 0) hC 2 rfl rfl (show decode prog_15_method_32_code 40 = .ok (.aload_n 0, 1) by decide +kernel) ?_
      refine md_g34 (pc := 41) hC (show decode prog_15_method_32_code 41 = .ok (.getfield 45, 3) by decide +kernel) ?_
      refine dc_iloadn (pc := 44) (j := 1) (i := 1) hC 3 rfl rfl (show decode prog_15_method_32_code 44 = .ok (.iload_n 1, 1) by decide +kernel) ?_
      refine md_l34 (pc := 45) hC (show decode prog_15_method_32_code 45 = .ok (.iaload, 1) by decide +kernel) h ?_
      intro j5 h
      refine dc_iconst (pc := 46) (v := (-1)) hC (show decode prog_15_method_32_code 46 = .ok (.iconst (-1), 1) by decide +kernel) (by decide +kernel) ?_
      refine mc_Vmi (pc := 47) (As := [.int 7, .int x1, .int q3.2, .int (-1), .int (q3.1.2.1 34 j5), .int (-1)]) (rest := []) hC vw_node_IIIIII_382 (mm_node_IIIIII_ok l D ad de o a ca q3.1 7 x1 q3.2 (-1) (q3.1.2.1 34 j5) (-1)) (by omega) (by omega) rfl (Nat.le_of_ble_eq_true rfl) (show decode prog_15_method_32_code 47 = .ok (.invokevirtual 382, 3) by decide +kernel) h ?_
      intro q6 h
      refine dc_istoren (pc := 50) (j := 1) (i := 1) (lv' := [(1, .int q6.2), (2, .int q4), (3, .int q3.2), (0, .ref o)]) hC rfl (Nat.le_of_ble_eq_true rfl) rfl (show decode prog_15_method_32_code 50 = .ok (.istore_n 1, 1) by decide +kernel) ?_
      refine dc_goto (pc := 51) (tgt := 10) hC (show decode prog_15_method_32_code 51 = .ok (.goto (-41), 3) by decide +kernel) (by decide +kernel) ?_
      exact dc_sub [3, 0, 1] rfl (hl_10 (q6.1, q6.2, q4) (dc_some h))
  have lab_10 : ∀ (S : md_S) (x1 : Int32) (x2 : Int32), dc_wp (mm_body_L10 T S x1 x2) F → dc_G X l { frames := d + 1 + 306, cells := 0, slots := 0, locals := 26 * (d + 1) + 6729 } D 4 0 0 (md_W o a ca S) 10 [(0, .ref o), (1, .int x1), (2, .int x2)] [] := fun S x1 x2 h => loop_10  (S, x1, x2) (dc_bind h)
  show dc_G X l { frames := d + 1 + 306, cells := 0, slots := 0, locals := 26 * (d + 1) + 6729 } D 4 0 0 (md_W o a ca S) 0 [(0, .ref o)] []
  delta mm_body at h
  refine dc_aloadn (pc := 0) (j := 0) (i := 0) hC 0 rfl rfl (show decode prog_15_method_32_code 0 = .ok (.aload_n 0, 1) by decide +kernel) ?_
  refine mc_Vmi (pc := 1) (As := []) (rest := []) hC vw_row_386 (hT.2.1 S) (by omega) (by omega) rfl (Nat.le_of_ble_eq_true rfl) (show decode prog_15_method_32_code 1 = .ok (.invokevirtual 386, 3) by decide +kernel) h ?_
  intro q7 h
  refine dc_istoren (pc := 4) (j := 1) (i := 1) (lv' := [(1, .int q7.2), (0, .ref o)]) hC rfl (Nat.le_of_ble_eq_true rfl) rfl (show decode prog_15_method_32_code 4 = .ok (.istore_n 1, 1) by decide +kernel) ?_
  refine dc_aloadn (pc := 5) (j := 0) (i := 0) hC 1 rfl rfl (show decode prog_15_method_32_code 5 = .ok (.aload_n 0, 1) by decide +kernel) ?_
  refine md_g29 (pc := 6) hC (show decode prog_15_method_32_code 6 = .ok (.getfield 389, 3) by decide +kernel) ?_
  refine dc_letI h ?_
  intro v8 h
  refine dc_istoren (pc := 9) (j := 2) (i := 2) (lv' := [(2, .int v8), (1, .int q7.2), (0, .ref o)]) hC rfl (Nat.le_of_ble_eq_true rfl) rfl (show decode prog_15_method_32_code 9 = .ok (.istore_n 2, 1) by decide +kernel) ?_
  exact dc_sub [2, 1, 0] rfl (lab_10 q7.1 q7.2 v8 h)
noncomputable def mm_row_L52 (T : mm_T2) (S : md_S) (x1 : Int32) (x2 : Int32) : Option (md_S × Int32) :=
  dc_let (md_i S 29 x2) fun S1 => some (S1, x1)
noncomputable def mm_row_b10 (T : mm_T2) (S : md_S) (x1 : Int32) (x2 : Int32) : Option ((md_S × Int32 × Int32) ⊕ ((md_S × Int32 × Int32))) :=
  (mm_meetsSign S 59).bind fun q2 => if q2.2 = 0 then (some (.inr (q2.1, x1, x2))) else ((T.2.2.1 q2.1).bind fun q3 => (mm_then x2 (q3.1.1 29)).bind fun q4 => (dc_ix x1 1200).bind fun j5 => (mm_node_IIIIII q3.1 5 x1 q3.2 (-1) (q3.1.2.1 34 j5) (-1)).bind fun q6 => some (.inl (q6.1, q6.2, q4)))
noncomputable def mm_row_s10 (T : mm_T2) (q : md_S × Int32 × Int32) : Option ((md_S × Int32 × Int32) ⊕ ((md_S × Int32 × Int32))) :=
  mm_row_b10 T q.1 q.2.1 q.2.2
noncomputable def mm_row_L10 (T : mm_T2) (S : md_S) (x1 : Int32) (x2 : Int32) : Option (md_S × Int32) :=
  (dc_it (mm_row_s10 T) (S, x1, x2)).bind (fun (z : md_S × Int32 × Int32) => mm_row_L52 T z.1 z.2.1 z.2.2)
noncomputable def mm_row (T : mm_T2) (S : md_S) : Option (md_S × Int32) :=
  (T.2.2.1 S).bind fun q7 => dc_let ((q7.1.1 29) : Int32) fun v8 => mm_row_L10 T q7.1 q7.2 v8
set_option maxHeartbeats 4000000 in
set_option maxRecDepth 100000 in
/-- row()I -/
theorem mm_row_ok (l : Launch) (D : va_G) (ad : Nat → Nat) (de : Nat) (o : Nat) (a : Nat → Nat) (ca : Nat → ClassId) (T : mm_T2) (d : Nat) (hT : mm_OK2 l D ad de o a ca T d) (S : md_S) (F : (md_S × Int32) → Prop) (h : dc_wp (mm_row T S) F) : dc_Ci l ⟨"SignalEngineModel", "row", "()I"⟩ prog_15_method_33_code 4 (some (.int)) (d + 1 + 306) (26 * (d + 1) + 6729) D (md_T ca) ad de [.ref o] (md_W o a ca S) (fun r w => ∃ q, F q ∧ r = q.2 ∧ w = md_W o a ca q.1) 0 0 := by
  refine dc_enteri (by decide +kernel) (Nat.le_of_ble_eq_true rfl) ?_
  intro X hC hR
  have lab_52 : ∀ (S : md_S) (x1 : Int32) (x2 : Int32), dc_wp (mm_row_L52 T S x1 x2) F → dc_G X l { frames := d + 1 + 306, cells := 0, slots := 0, locals := 26 * (d + 1) + 6729 } D 4 0 0 (md_W o a ca S) 52 [(0, .ref o), (1, .int x1), (2, .int x2)] [] := by
    intro S x1 x2 h
    delta mm_row_L52 at h
    refine dc_aloadn (pc := 52) (j := 0) (i := 0) hC 0 rfl rfl (show decode prog_15_method_33_code 52 = .ok (.aload_n 0, 1) by decide +kernel) ?_
    refine dc_iloadn (pc := 53) (j := 2) (i := 2) hC 2 rfl rfl (show decode prog_15_method_33_code 53 = .ok (.iload_n 2, 1) by decide +kernel) ?_
    refine md_p29 (pc := 54) hC (show decode prog_15_method_33_code 54 = .ok (.putfield 389, 3) by decide +kernel) ?_
    refine dc_letS h ?_
    intro S1 h
    refine dc_iloadn (pc := 57) (j := 1) (i := 1) hC 1 rfl rfl (show decode prog_15_method_33_code 57 = .ok (.iload_n 1, 1) by decide +kernel) ?_
    exact dc_iret (pc := 58) hC hR ⟨_, dc_some h, rfl, rfl⟩ (show decode prog_15_method_33_code 58 = .ok (.ireturn, 1) by decide +kernel)
  have loop_10 : ∀ (q : md_S × Int32 × Int32), dc_wp (dc_it (mm_row_s10 T) q) (fun z => dc_wp ((fun (z : md_S × Int32 × Int32) => mm_row_L52 T z.1 z.2.1 z.2.2) z) F) → dc_G X l { frames := d + 1 + 306, cells := 0, slots := 0, locals := 26 * (d + 1) + 6729 } D 4 0 0 (md_W o a ca q.1) 10 [(0, .ref o), (1, .int q.2.1), (2, .int q.2.2)] [] := by
    refine dc_loopF ?_
    intro F_10 hl_10 hr_10
    rintro ⟨S, x1, x2⟩ h
    have h : dc_wp (mm_row_b10 T S x1 x2) F_10 := h
    delta mm_row_b10 at h
    refine dc_aloadn (pc := 10) (j := 0) (i := 0) hC 0 rfl rfl (show decode prog_15_method_33_code 10 = .ok (.aload_n 0, 1) by decide +kernel) ?_
    refine dc_bipush (pc := 11) (v := 59) hC (show decode prog_15_method_33_code 11 = .ok (.bipush 59, 2) by decide +kernel) (by decide +kernel) ?_
    refine mc_Vmi (pc := 13) (As := [.int 59]) (rest := []) hC vw_meetsSign_346 (mm_meetsSign_ok l D ad de o a ca S 59) (by omega) (by omega) rfl (Nat.le_of_ble_eq_true rfl) (show decode prog_15_method_33_code 13 = .ok (.invokevirtual 346, 3) by decide +kernel) h ?_
    intro q2 h
    refine dc_if_eq (pc := 16) (tgt := 52) hC (show decode prog_15_method_33_code 16 = .ok (.ifCond .eq 36, 3) by decide +kernel) (by decide +kernel) h ?_ ?_
    · intro h
      have h : dc_wp (mm_row_L52 T q2.1 x1 x2) F := hr_10 (q2.1, x1, x2) (dc_some h)
      exact lab_52 q2.1 x1 x2 h
    · intro h
      refine dc_aloadn (pc := 19) (j := 0) (i := 0) hC 0 rfl rfl (show decode prog_15_method_33_code 19 = .ok (.aload_n 0, 1) by decide +kernel) ?_
      refine mc_Vmi (pc := 20) (As := []) (rest := []) hC vw_statement_396 (hT.2.2.1 q2.1) (by omega) (by omega) rfl (Nat.le_of_ble_eq_true rfl) (show decode prog_15_method_33_code 20 = .ok (.invokevirtual 396, 3) by decide +kernel) h ?_
      intro q3 h
      refine dc_istoren (pc := 23) (j := 3) (i := 3) (lv' := [(3, .int q3.2), (0, .ref o), (1, .int x1), (2, .int x2)]) hC rfl (Nat.le_of_ble_eq_true rfl) rfl (show decode prog_15_method_33_code 23 = .ok (.istore_n 3, 1) by decide +kernel) ?_
      refine dc_iloadn (pc := 24) (j := 2) (i := 2) hC 3 rfl rfl (show decode prog_15_method_33_code 24 = .ok (.iload_n 2, 1) by decide +kernel) ?_
      refine dc_aloadn (pc := 25) (j := 0) (i := 0) hC 1 rfl rfl (show decode prog_15_method_33_code 25 = .ok (.aload_n 0, 1) by decide +kernel) ?_
      refine md_g29 (pc := 26) hC (show decode prog_15_method_33_code 26 = .ok (.getfield 389, 3) by decide +kernel) ?_
      refine mc_Spi (pc := 29) (As := [.int x2, .int (q3.1.1 29)]) (rest := []) hC vs_then_399 (mm_then_ok l D ad de (md_W o a ca q3.1) (md_T ca) x2 (q3.1.1 29)) (by omega) (by omega) rfl (Nat.le_of_ble_eq_true rfl) (show decode prog_15_method_33_code 29 = .ok (.invokestatic 399, 3) by decide +kernel) h ?_
      intro q4 h
      refine dc_istoren (pc := 32) (j := 2) (i := 2) (lv' := [(2, .int q4), (3, .int q3.2), (0, .ref o), (1, .int x1)]) hC rfl (Nat.le_of_ble_eq_true rfl) rfl (show decode prog_15_method_33_code 32 = .ok (.istore_n 2, 1) by decide +kernel) ?_
      refine dc_aloadn (pc := 33) (j := 0) (i := 0) hC 2 rfl rfl (show decode prog_15_method_33_code 33 = .ok (.aload_n 0, 1) by decide +kernel) ?_
      refine dc_iconst (pc := 34) (v := 5) hC (show decode prog_15_method_33_code 34 = .ok (.iconst 5, 1) by decide +kernel) (by decide +kernel) ?_
      refine dc_iloadn (pc := 35) (j := 1) (i := 1) hC 3 rfl rfl (show decode prog_15_method_33_code 35 = .ok (.iload_n 1, 1) by decide +kernel) ?_
      refine dc_iloadn (pc := 36) (j := 3) (i := 3) hC 1 rfl rfl (show decode prog_15_method_33_code 36 = .ok (.iload_n 3, 1) by decide +kernel) ?_
      refine dc_iconst (pc := 37) (v := (-1)) hC (show decode prog_15_method_33_code 37 = .ok (.iconst (-1), 1) by decide +kernel) (by decide +kernel) ?_
      refine dc_aloadn (pc := 38) (j := 0) (i := 0) hC 2 rfl rfl (show decode prog_15_method_33_code 38 = .ok (.aload_n 0, 1) by decide +kernel) ?_
      refine md_g34 (pc := 39) hC (show decode prog_15_method_33_code 39 = .ok (.getfield 45, 3) by decide +kernel) ?_
      refine dc_iloadn (pc := 42) (j := 1) (i := 1) hC 3 rfl rfl (show decode prog_15_method_33_code 42 = .ok (.iload_n 1, 1) by decide +kernel) ?_
      refine md_l34 (pc := 43) hC (show decode prog_15_method_33_code 43 = .ok (.iaload, 1) by decide +kernel) h ?_
      intro j5 h
      refine dc_iconst (pc := 44) (v := (-1)) hC (show decode prog_15_method_33_code 44 = .ok (.iconst (-1), 1) by decide +kernel) (by decide +kernel) ?_
      refine mc_Vmi (pc := 45) (As := [.int 5, .int x1, .int q3.2, .int (-1), .int (q3.1.2.1 34 j5), .int (-1)]) (rest := []) hC vw_node_IIIIII_382 (mm_node_IIIIII_ok l D ad de o a ca q3.1 5 x1 q3.2 (-1) (q3.1.2.1 34 j5) (-1)) (by omega) (by omega) rfl (Nat.le_of_ble_eq_true rfl) (show decode prog_15_method_33_code 45 = .ok (.invokevirtual 382, 3) by decide +kernel) h ?_
      intro q6 h
      refine dc_istoren (pc := 48) (j := 1) (i := 1) (lv' := [(1, .int q6.2), (2, .int q4), (3, .int q3.2), (0, .ref o)]) hC rfl (Nat.le_of_ble_eq_true rfl) rfl (show decode prog_15_method_33_code 48 = .ok (.istore_n 1, 1) by decide +kernel) ?_
      refine dc_goto (pc := 49) (tgt := 10) hC (show decode prog_15_method_33_code 49 = .ok (.goto (-39), 3) by decide +kernel) (by decide +kernel) ?_
      exact dc_sub [3, 0, 1] rfl (hl_10 (q6.1, q6.2, q4) (dc_some h))
  have lab_10 : ∀ (S : md_S) (x1 : Int32) (x2 : Int32), dc_wp (mm_row_L10 T S x1 x2) F → dc_G X l { frames := d + 1 + 306, cells := 0, slots := 0, locals := 26 * (d + 1) + 6729 } D 4 0 0 (md_W o a ca S) 10 [(0, .ref o), (1, .int x1), (2, .int x2)] [] := fun S x1 x2 h => loop_10  (S, x1, x2) (dc_bind h)
  show dc_G X l { frames := d + 1 + 306, cells := 0, slots := 0, locals := 26 * (d + 1) + 6729 } D 4 0 0 (md_W o a ca S) 0 [(0, .ref o)] []
  delta mm_row at h
  refine dc_aloadn (pc := 0) (j := 0) (i := 0) hC 0 rfl rfl (show decode prog_15_method_33_code 0 = .ok (.aload_n 0, 1) by decide +kernel) ?_
  refine mc_Vmi (pc := 1) (As := []) (rest := []) hC vw_statement_396 (hT.2.2.1 S) (by omega) (by omega) rfl (Nat.le_of_ble_eq_true rfl) (show decode prog_15_method_33_code 1 = .ok (.invokevirtual 396, 3) by decide +kernel) h ?_
  intro q7 h
  refine dc_istoren (pc := 4) (j := 1) (i := 1) (lv' := [(1, .int q7.2), (0, .ref o)]) hC rfl (Nat.le_of_ble_eq_true rfl) rfl (show decode prog_15_method_33_code 4 = .ok (.istore_n 1, 1) by decide +kernel) ?_
  refine dc_aloadn (pc := 5) (j := 0) (i := 0) hC 1 rfl rfl (show decode prog_15_method_33_code 5 = .ok (.aload_n 0, 1) by decide +kernel) ?_
  refine md_g29 (pc := 6) hC (show decode prog_15_method_33_code 6 = .ok (.getfield 389, 3) by decide +kernel) ?_
  refine dc_letI h ?_
  intro v8 h
  refine dc_istoren (pc := 9) (j := 2) (i := 2) (lv' := [(2, .int v8), (1, .int q7.2), (0, .ref o)]) hC rfl (Nat.le_of_ble_eq_true rfl) rfl (show decode prog_15_method_33_code 9 = .ok (.istore_n 2, 1) by decide +kernel) ?_
  exact dc_sub [2, 1, 0] rfl (lab_10 q7.1 q7.2 v8 h)
noncomputable def mm_statement_L236 (T : mm_T2) (S : md_S) (y0 : Int32) : Option (md_S × Int32) :=
  dc_let (md_i S 11 ((S.1 11) - 1)) fun S1 => some (S1, y0)
noncomputable def mm_statement_L68 (T : mm_T2) (S : md_S) (x1 : Int32) (x2 : Int64) (x4 : Int32) : Option (md_S × Int32) :=
  if (0 : Int32) < (S.1 10) then (some (S, 0)) else (dc_let ((S.1 7) : Int32) fun v2 => (mm_advance S).bind fun q3 => if x4 = 0 then (if (dc_cmp x2 31650977444884084) = 0 then ((T.2.2.2.2.1 q3 x1).bind fun q4 => mm_statement_L236 T q4.1 q4.2) else (if (dc_cmp x2 32498760989109860) = 0 then ((T.2.2.2.2.2.1 q3 x1).bind fun q5 => mm_statement_L236 T q5.1 q5.2) else (if (dc_cmp x2 1819242352) = 0 then ((T.2.2.2.2.2.2.1 q3 x1 v2).bind fun q6 => mm_statement_L236 T q6.1 q6.2) else (if (dc_cmp x2 1953653104) = 0 then ((T.2.2.2.2.2.2.2.1 q3 x1).bind fun q7 => mm_statement_L236 T q7.1 q7.2) else (if (dc_cmp x2 126896544047468) = 0 then ((T.2.2.2.2.2.2.2.2.1 q3 x1).bind fun q8 => mm_statement_L236 T q8.1 q8.2) else (if (dc_cmp x2 418263298676) = 0 then ((T.2.2.2.2.2.2.2.2.2.1 q3 x1 0).bind fun q9 => mm_statement_L236 T q9.1 q9.2) else (if (dc_cmp x2 2003132779) = 0 then ((T.2.2.2.2.2.2.2.2.2.2.1 q3 x1).bind fun q10 => mm_statement_L236 T q10.1 q10.2) else (if (dc_cmp x2 435778056825) = 0 then ((T.2.2.2.2.2.2.2.2.2.2.2 q3 x1).bind fun q11 => mm_statement_L236 T q11.1 q11.2) else ((mm_simple_JI q3 x2 x1).bind fun q12 => mm_statement_L236 T q12.1 q12.2))))))))) else ((T.2.2.2.1 q3).bind fun q13 => mm_statement_L236 T q13.1 q13.2))
noncomputable def mm_statement_L57 (T : mm_T2) (S : md_S) (x1 : Int32) (x2 : Int64) (x4 : Int32) : Option (md_S × Int32) :=
  if (S.1 10) = 0 then ((mm_deeper S).bind fun q14 => mm_statement_L68 T q14 x1 x2 x4) else (mm_statement_L68 T S x1 x2 x4)
noncomputable def mm_statement_L51 (T : mm_T2) (S : md_S) (x1 : Int32) (x2 : Int64) (x4 : Int32) : Option (md_S × Int32) :=
  (mm_fail S 1 x1).bind fun q15 => mm_statement_L57 T q15 x1 x2 x4
noncomputable def mm_statement_L23 (T : mm_T2) (S : md_S) (x1 : Int32) (y0 : Int64) : Option (md_S × Int32) :=
  (mm_isSign S 40).bind fun q16 => if q16 = 0 then ((mm_isKept S).bind fun q17 => if q17 = 0 then (mm_statement_L51 T S x1 y0 q16) else ((mm_begins y0).bind fun q18 => if q18 = 0 then (mm_statement_L51 T S x1 y0 q16) else (mm_statement_L57 T S x1 y0 q16))) else (mm_statement_L57 T S x1 y0 q16)
noncomputable def mm_statement (T : mm_T2) (S : md_S) : Option (md_S × Int32) :=
  dc_let ((S.1 8) : Int32) fun v19 => if (S.1 6) = 1 then (mm_statement_L23 T S v19 S.2.2.1) else (mm_statement_L23 T S v19 (-1))
set_option maxHeartbeats 4000000 in
set_option maxRecDepth 100000 in
/-- statement()I -/
theorem mm_statement_ok (l : Launch) (D : va_G) (ad : Nat → Nat) (de : Nat) (o : Nat) (a : Nat → Nat) (ca : Nat → ClassId) (T : mm_T2) (d : Nat) (hT : mm_OK2 l D ad de o a ca T d) (S : md_S) (F : (md_S × Int32) → Prop) (h : dc_wp (mm_statement T S) F) : dc_Ci l ⟨"SignalEngineModel", "statement", "()I"⟩ prog_15_method_34_code 7 (some (.int)) (d + 1 + 306) (26 * (d + 1) + 6729) D (md_T ca) ad de [.ref o] (md_W o a ca S) (fun r w => ∃ q, F q ∧ r = q.2 ∧ w = md_W o a ca q.1) 0 0 := by
  refine dc_enteri (by decide +kernel) (Nat.le_of_ble_eq_true rfl) ?_
  intro X hC hR
  have lab_236 : ∀ (S : md_S) (y0 : Int32), dc_wp (mm_statement_L236 T S y0) F → dc_G X l { frames := d + 1 + 306, cells := 0, slots := 0, locals := 26 * (d + 1) + 6729 } D 7 0 0 (md_W o a ca S) 236 [(0, .ref o)] [.int y0] := by
    intro S y0 h
    delta mm_statement_L236 at h
    refine dc_istore (pc := 236) (i := 6) (lv' := [(6, .int y0), (0, .ref o)]) hC (Nat.le_of_ble_eq_true rfl) rfl (show decode prog_15_method_34_code 236 = .ok (.istore 6, 2) by decide +kernel) ?_
    refine dc_aloadn (pc := 238) (j := 0) (i := 0) hC 1 rfl rfl (show decode prog_15_method_34_code 238 = .ok (.aload_n 0, 1) by decide +kernel) ?_
    refine dc_dup (pc := 239) hC (show decode prog_15_method_34_code 239 = .ok (.dup, 1) by decide +kernel) rfl ?_
    refine md_g11 (pc := 240) hC (show decode prog_15_method_34_code 240 = .ok (.getfield 334, 3) by decide +kernel) ?_
    refine dc_iconst (pc := 243) (v := 1) hC (show decode prog_15_method_34_code 243 = .ok (.iconst 1, 1) by decide +kernel) (by decide +kernel) ?_
    refine dc_isub (pc := 244) hC (show decode prog_15_method_34_code 244 = .ok (.isub, 1) by decide +kernel) ?_
    refine md_p11 (pc := 245) hC (show decode prog_15_method_34_code 245 = .ok (.putfield 334, 3) by decide +kernel) ?_
    refine dc_letS h ?_
    intro S1 h
    refine dc_iload (pc := 248) (i := 6) hC 0 rfl (show decode prog_15_method_34_code 248 = .ok (.iload 6, 2) by decide +kernel) ?_
    exact dc_iret (pc := 250) hC hR ⟨_, dc_some h, rfl, rfl⟩ (show decode prog_15_method_34_code 250 = .ok (.ireturn, 1) by decide +kernel)
  have lab_68 : ∀ (S : md_S) (x1 : Int32) (x2 : Int64) (x4 : Int32), dc_wp (mm_statement_L68 T S x1 x2 x4) F → dc_G X l { frames := d + 1 + 306, cells := 0, slots := 0, locals := 26 * (d + 1) + 6729 } D 7 0 0 (md_W o a ca S) 68 [(0, .ref o), (1, .int x1), (2, .long x2), (4, .int x4)] [] := by
    intro S x1 x2 x4 h
    delta mm_statement_L68 at h
    refine dc_aloadn (pc := 68) (j := 0) (i := 0) hC 0 rfl rfl (show decode prog_15_method_34_code 68 = .ok (.aload_n 0, 1) by decide +kernel) ?_
    refine md_g10 (pc := 69) hC (show decode prog_15_method_34_code 69 = .ok (.getfield 221, 3) by decide +kernel) ?_
    refine dc_if_le (pc := 72) (tgt := 77) hC (show decode prog_15_method_34_code 72 = .ok (.ifCond .le 5, 3) by decide +kernel) (by decide +kernel) h ?_ ?_
    · intro h
      refine dc_iconst (pc := 75) (v := 0) hC (show decode prog_15_method_34_code 75 = .ok (.iconst 0, 1) by decide +kernel) (by decide +kernel) ?_
      exact dc_iret (pc := 76) hC hR ⟨_, dc_some h, rfl, rfl⟩ (show decode prog_15_method_34_code 76 = .ok (.ireturn, 1) by decide +kernel)
    · intro h
      refine dc_aloadn (pc := 77) (j := 0) (i := 0) hC 0 rfl rfl (show decode prog_15_method_34_code 77 = .ok (.aload_n 0, 1) by decide +kernel) ?_
      refine md_g7 (pc := 78) hC (show decode prog_15_method_34_code 78 = .ok (.getfield 234, 3) by decide +kernel) ?_
      refine dc_letI h ?_
      intro v2 h
      refine dc_istore (pc := 81) (i := 5) (lv' := [(5, .int v2), (0, .ref o), (1, .int x1), (2, .long x2), (4, .int x4)]) hC (Nat.le_of_ble_eq_true rfl) rfl (show decode prog_15_method_34_code 81 = .ok (.istore 5, 2) by decide +kernel) ?_
      refine dc_aloadn (pc := 83) (j := 0) (i := 0) hC 1 rfl rfl (show decode prog_15_method_34_code 83 = .ok (.aload_n 0, 1) by decide +kernel) ?_
      refine mc_Vmv (pc := 84) (As := []) (rest := []) hC vw_advance_258 (mm_advance_ok l D ad de o a ca S) (by omega) (by omega) rfl (Nat.le_of_ble_eq_true rfl) (show decode prog_15_method_34_code 84 = .ok (.invokevirtual 258, 3) by decide +kernel) h ?_
      intro q3 h
      refine dc_iload (pc := 87) (i := 4) hC 4 rfl (show decode prog_15_method_34_code 87 = .ok (.iload 4, 2) by decide +kernel) ?_
      refine dc_if_eq (pc := 89) (tgt := 99) hC (show decode prog_15_method_34_code 89 = .ok (.ifCond .eq 10, 3) by decide +kernel) (by decide +kernel) h ?_ ?_
      · intro h
        refine dc_lloadn (pc := 99) (j := 2) (i := 2) hC 3 rfl rfl (show decode prog_15_method_34_code 99 = .ok (.lload_n 2, 1) by decide +kernel) ?_
        refine dc_ldc2 (pc := 100) (v := 31650977444884084) hC w_1957 (show decode prog_15_method_34_code 100 = .ok (.ldc2_w 287, 3) by decide +kernel) ?_
        refine dc_lcmp (pc := 103) hC (show decode prog_15_method_34_code 103 = .ok (.lcmp, 1) by decide +kernel) ?_
        refine dc_if_ne (pc := 104) (tgt := 115) hC (show decode prog_15_method_34_code 104 = .ok (.ifCond .ne 11, 3) by decide +kernel) (by decide +kernel) h ?_ ?_
        · intro h
          refine dc_aloadn (pc := 107) (j := 0) (i := 0) hC 1 rfl rfl (show decode prog_15_method_34_code 107 = .ok (.aload_n 0, 1) by decide +kernel) ?_
          refine dc_iloadn (pc := 108) (j := 1) (i := 1) hC 2 rfl rfl (show decode prog_15_method_34_code 108 = .ok (.iload_n 1, 1) by decide +kernel) ?_
          refine mc_Vmi (pc := 109) (As := [.int x1]) (rest := []) hC vw_present_I_408 (hT.2.2.2.2.1 q3 x1) (by omega) (by omega) rfl (Nat.le_of_ble_eq_true rfl) (show decode prog_15_method_34_code 109 = .ok (.invokevirtual 408, 3) by decide +kernel) h ?_
          intro q4 h
          refine dc_goto (pc := 112) (tgt := 236) hC (show decode prog_15_method_34_code 112 = .ok (.goto 124, 3) by decide +kernel) (by decide +kernel) ?_
          exact dc_sub [1] rfl (lab_236 q4.1 q4.2 h)
        · intro h
          refine dc_lloadn (pc := 115) (j := 2) (i := 2) hC 3 rfl rfl (show decode prog_15_method_34_code 115 = .ok (.lload_n 2, 1) by decide +kernel) ?_
          refine dc_ldc2 (pc := 116) (v := 32498760989109860) hC w_1961 (show decode prog_15_method_34_code 116 = .ok (.ldc2_w 295, 3) by decide +kernel) ?_
          refine dc_lcmp (pc := 119) hC (show decode prog_15_method_34_code 119 = .ok (.lcmp, 1) by decide +kernel) ?_
          refine dc_if_ne (pc := 120) (tgt := 131) hC (show decode prog_15_method_34_code 120 = .ok (.ifCond .ne 11, 3) by decide +kernel) (by decide +kernel) h ?_ ?_
          · intro h
            refine dc_aloadn (pc := 123) (j := 0) (i := 0) hC 1 rfl rfl (show decode prog_15_method_34_code 123 = .ok (.aload_n 0, 1) by decide +kernel) ?_
            refine dc_iloadn (pc := 124) (j := 1) (i := 1) hC 2 rfl rfl (show decode prog_15_method_34_code 124 = .ok (.iload_n 1, 1) by decide +kernel) ?_
            refine mc_Vmi (pc := 125) (As := [.int x1]) (rest := []) hC vw_suspend_411 (hT.2.2.2.2.2.1 q3 x1) (by omega) (by omega) rfl (Nat.le_of_ble_eq_true rfl) (show decode prog_15_method_34_code 125 = .ok (.invokevirtual 411, 3) by decide +kernel) h ?_
            intro q5 h
            refine dc_goto (pc := 128) (tgt := 236) hC (show decode prog_15_method_34_code 128 = .ok (.goto 108, 3) by decide +kernel) (by decide +kernel) ?_
            exact dc_sub [1] rfl (lab_236 q5.1 q5.2 h)
          · intro h
            refine dc_lloadn (pc := 131) (j := 2) (i := 2) hC 3 rfl rfl (show decode prog_15_method_34_code 131 = .ok (.lload_n 2, 1) by decide +kernel) ?_
            refine dc_ldc2 (pc := 132) (v := 1819242352) hC w_1963 (show decode prog_15_method_34_code 132 = .ok (.ldc2_w 299, 3) by decide +kernel) ?_
            refine dc_lcmp (pc := 135) hC (show decode prog_15_method_34_code 135 = .ok (.lcmp, 1) by decide +kernel) ?_
            refine dc_if_ne (pc := 136) (tgt := 149) hC (show decode prog_15_method_34_code 136 = .ok (.ifCond .ne 13, 3) by decide +kernel) (by decide +kernel) h ?_ ?_
            · intro h
              refine dc_aloadn (pc := 139) (j := 0) (i := 0) hC 1 rfl rfl (show decode prog_15_method_34_code 139 = .ok (.aload_n 0, 1) by decide +kernel) ?_
              refine dc_iloadn (pc := 140) (j := 1) (i := 1) hC 2 rfl rfl (show decode prog_15_method_34_code 140 = .ok (.iload_n 1, 1) by decide +kernel) ?_
              refine dc_iload (pc := 141) (i := 5) hC 0 rfl (show decode prog_15_method_34_code 141 = .ok (.iload 5, 2) by decide +kernel) ?_
              refine mc_Vmi (pc := 143) (As := [.int x1, .int v2]) (rest := []) hC vw_loop_414 (hT.2.2.2.2.2.2.1 q3 x1 v2) (by omega) (by omega) rfl (Nat.le_of_ble_eq_true rfl) (show decode prog_15_method_34_code 143 = .ok (.invokevirtual 414, 3) by decide +kernel) h ?_
              intro q6 h
              refine dc_goto (pc := 146) (tgt := 236) hC (show decode prog_15_method_34_code 146 = .ok (.goto 90, 3) by decide +kernel) (by decide +kernel) ?_
              exact dc_sub [1] rfl (lab_236 q6.1 q6.2 h)
            · intro h
              refine dc_lloadn (pc := 149) (j := 2) (i := 2) hC 3 rfl rfl (show decode prog_15_method_34_code 149 = .ok (.lload_n 2, 1) by decide +kernel) ?_
              refine dc_ldc2 (pc := 150) (v := 1953653104) hC w_1965 (show decode prog_15_method_34_code 150 = .ok (.ldc2_w 303, 3) by decide +kernel) ?_
              refine dc_lcmp (pc := 153) hC (show decode prog_15_method_34_code 153 = .ok (.lcmp, 1) by decide +kernel) ?_
              refine dc_if_ne (pc := 154) (tgt := 165) hC (show decode prog_15_method_34_code 154 = .ok (.ifCond .ne 11, 3) by decide +kernel) (by decide +kernel) h ?_ ?_
              · intro h
                refine dc_aloadn (pc := 157) (j := 0) (i := 0) hC 1 rfl rfl (show decode prog_15_method_34_code 157 = .ok (.aload_n 0, 1) by decide +kernel) ?_
                refine dc_iloadn (pc := 158) (j := 1) (i := 1) hC 2 rfl rfl (show decode prog_15_method_34_code 158 = .ok (.iload_n 1, 1) by decide +kernel) ?_
                refine mc_Vmi (pc := 159) (As := [.int x1]) (rest := []) hC vw_trap_417 (hT.2.2.2.2.2.2.2.1 q3 x1) (by omega) (by omega) rfl (Nat.le_of_ble_eq_true rfl) (show decode prog_15_method_34_code 159 = .ok (.invokevirtual 417, 3) by decide +kernel) h ?_
                intro q7 h
                refine dc_goto (pc := 162) (tgt := 236) hC (show decode prog_15_method_34_code 162 = .ok (.goto 74, 3) by decide +kernel) (by decide +kernel) ?_
                exact dc_sub [1] rfl (lab_236 q7.1 q7.2 h)
              · intro h
                refine dc_lloadn (pc := 165) (j := 2) (i := 2) hC 3 rfl rfl (show decode prog_15_method_34_code 165 = .ok (.lload_n 2, 1) by decide +kernel) ?_
                refine dc_ldc2 (pc := 166) (v := 126896544047468) hC w_1966 (show decode prog_15_method_34_code 166 = .ok (.ldc2_w 305, 3) by decide +kernel) ?_
                refine dc_lcmp (pc := 169) hC (show decode prog_15_method_34_code 169 = .ok (.lcmp, 1) by decide +kernel) ?_
                refine dc_if_ne (pc := 170) (tgt := 181) hC (show decode prog_15_method_34_code 170 = .ok (.ifCond .ne 11, 3) by decide +kernel) (by decide +kernel) h ?_ ?_
                · intro h
                  refine dc_aloadn (pc := 173) (j := 0) (i := 0) hC 1 rfl rfl (show decode prog_15_method_34_code 173 = .ok (.aload_n 0, 1) by decide +kernel) ?_
                  refine dc_iloadn (pc := 174) (j := 1) (i := 1) hC 2 rfl rfl (show decode prog_15_method_34_code 174 = .ok (.iload_n 1, 1) by decide +kernel) ?_
                  refine mc_Vmi (pc := 175) (As := [.int x1]) (rest := []) hC vw_locals_420 (hT.2.2.2.2.2.2.2.2.1 q3 x1) (by omega) (by omega) rfl (Nat.le_of_ble_eq_true rfl) (show decode prog_15_method_34_code 175 = .ok (.invokevirtual 420, 3) by decide +kernel) h ?_
                  intro q8 h
                  refine dc_goto (pc := 178) (tgt := 236) hC (show decode prog_15_method_34_code 178 = .ok (.goto 58, 3) by decide +kernel) (by decide +kernel) ?_
                  exact dc_sub [1] rfl (lab_236 q8.1 q8.2 h)
                · intro h
                  refine dc_lloadn (pc := 181) (j := 2) (i := 2) hC 3 rfl rfl (show decode prog_15_method_34_code 181 = .ok (.lload_n 2, 1) by decide +kernel) ?_
                  refine dc_ldc2 (pc := 182) (v := 418263298676) hC w_1971 (show decode prog_15_method_34_code 182 = .ok (.ldc2_w 315, 3) by decide +kernel) ?_
                  refine dc_lcmp (pc := 185) hC (show decode prog_15_method_34_code 185 = .ok (.lcmp, 1) by decide +kernel) ?_
                  refine dc_if_ne (pc := 186) (tgt := 198) hC (show decode prog_15_method_34_code 186 = .ok (.ifCond .ne 12, 3) by decide +kernel) (by decide +kernel) h ?_ ?_
                  · intro h
                    refine dc_aloadn (pc := 189) (j := 0) (i := 0) hC 1 rfl rfl (show decode prog_15_method_34_code 189 = .ok (.aload_n 0, 1) by decide +kernel) ?_
                    refine dc_iloadn (pc := 190) (j := 1) (i := 1) hC 2 rfl rfl (show decode prog_15_method_34_code 190 = .ok (.iload_n 1, 1) by decide +kernel) ?_
                    refine dc_iconst (pc := 191) (v := 0) hC (show decode prog_15_method_34_code 191 = .ok (.iconst 0, 1) by decide +kernel) (by decide +kernel) ?_
                    refine mc_Vmi (pc := 192) (As := [.int x1, .int 0]) (rest := []) hC vw_abort_423 (hT.2.2.2.2.2.2.2.2.2.1 q3 x1 0) (by omega) (by omega) rfl (Nat.le_of_ble_eq_true rfl) (show decode prog_15_method_34_code 192 = .ok (.invokevirtual 423, 3) by decide +kernel) h ?_
                    intro q9 h
                    refine dc_goto (pc := 195) (tgt := 236) hC (show decode prog_15_method_34_code 195 = .ok (.goto 41, 3) by decide +kernel) (by decide +kernel) ?_
                    exact dc_sub [1] rfl (lab_236 q9.1 q9.2 h)
                  · intro h
                    refine dc_lloadn (pc := 198) (j := 2) (i := 2) hC 3 rfl rfl (show decode prog_15_method_34_code 198 = .ok (.lload_n 2, 1) by decide +kernel) ?_
                    refine dc_ldc2 (pc := 199) (v := 2003132779) hC w_1972 (show decode prog_15_method_34_code 199 = .ok (.ldc2_w 317, 3) by decide +kernel) ?_
                    refine dc_lcmp (pc := 202) hC (show decode prog_15_method_34_code 202 = .ok (.lcmp, 1) by decide +kernel) ?_
                    refine dc_if_ne (pc := 203) (tgt := 214) hC (show decode prog_15_method_34_code 203 = .ok (.ifCond .ne 11, 3) by decide +kernel) (by decide +kernel) h ?_ ?_
                    · intro h
                      refine dc_aloadn (pc := 206) (j := 0) (i := 0) hC 1 rfl rfl (show decode prog_15_method_34_code 206 = .ok (.aload_n 0, 1) by decide +kernel) ?_
                      refine dc_iloadn (pc := 207) (j := 1) (i := 1) hC 2 rfl rfl (show decode prog_15_method_34_code 207 = .ok (.iload_n 1, 1) by decide +kernel) ?_
                      refine mc_Vmi (pc := 208) (As := [.int x1]) (rest := []) hC vw_weak_427 (hT.2.2.2.2.2.2.2.2.2.2.1 q3 x1) (by omega) (by omega) rfl (Nat.le_of_ble_eq_true rfl) (show decode prog_15_method_34_code 208 = .ok (.invokevirtual 427, 3) by decide +kernel) h ?_
                      intro q10 h
                      refine dc_goto (pc := 211) (tgt := 236) hC (show decode prog_15_method_34_code 211 = .ok (.goto 25, 3) by decide +kernel) (by decide +kernel) ?_
                      exact dc_sub [1] rfl (lab_236 q10.1 q10.2 h)
                    · intro h
                      refine dc_lloadn (pc := 214) (j := 2) (i := 2) hC 3 rfl rfl (show decode prog_15_method_34_code 214 = .ok (.lload_n 2, 1) by decide +kernel) ?_
                      refine dc_ldc2 (pc := 215) (v := 435778056825) hC w_1973 (show decode prog_15_method_34_code 215 = .ok (.ldc2_w 319, 3) by decide +kernel) ?_
                      refine dc_lcmp (pc := 218) hC (show decode prog_15_method_34_code 218 = .ok (.lcmp, 1) by decide +kernel) ?_
                      refine dc_if_ne (pc := 219) (tgt := 230) hC (show decode prog_15_method_34_code 219 = .ok (.ifCond .ne 11, 3) by decide +kernel) (by decide +kernel) h ?_ ?_
                      · intro h
                        refine dc_aloadn (pc := 222) (j := 0) (i := 0) hC 1 rfl rfl (show decode prog_15_method_34_code 222 = .ok (.aload_n 0, 1) by decide +kernel) ?_
                        refine dc_iloadn (pc := 223) (j := 1) (i := 1) hC 2 rfl rfl (show decode prog_15_method_34_code 223 = .ok (.iload_n 1, 1) by decide +kernel) ?_
                        refine mc_Vmi (pc := 224) (As := [.int x1]) (rest := []) hC vw_every_430 (hT.2.2.2.2.2.2.2.2.2.2.2 q3 x1) (by omega) (by omega) rfl (Nat.le_of_ble_eq_true rfl) (show decode prog_15_method_34_code 224 = .ok (.invokevirtual 430, 3) by decide +kernel) h ?_
                        intro q11 h
                        refine dc_goto (pc := 227) (tgt := 236) hC (show decode prog_15_method_34_code 227 = .ok (.goto 9, 3) by decide +kernel) (by decide +kernel) ?_
                        exact dc_sub [1] rfl (lab_236 q11.1 q11.2 h)
                      · intro h
                        refine dc_aloadn (pc := 230) (j := 0) (i := 0) hC 1 rfl rfl (show decode prog_15_method_34_code 230 = .ok (.aload_n 0, 1) by decide +kernel) ?_
                        refine dc_lloadn (pc := 231) (j := 2) (i := 2) hC 3 rfl rfl (show decode prog_15_method_34_code 231 = .ok (.lload_n 2, 1) by decide +kernel) ?_
                        refine dc_iloadn (pc := 232) (j := 1) (i := 1) hC 2 rfl rfl (show decode prog_15_method_34_code 232 = .ok (.iload_n 1, 1) by decide +kernel) ?_
                        refine mc_Vmi (pc := 233) (As := [.long x2, .int x1]) (rest := []) hC vw_simple_JI_433 (mm_simple_JI_ok l D ad de o a ca q3 x2 x1) (by omega) (by omega) rfl (Nat.le_of_ble_eq_true rfl) (show decode prog_15_method_34_code 233 = .ok (.invokevirtual 433, 3) by decide +kernel) h ?_
                        intro q12 h
                        exact dc_sub [1] rfl (lab_236 q12.1 q12.2 h)
      · intro h
        refine dc_aloadn (pc := 92) (j := 0) (i := 0) hC 1 rfl rfl (show decode prog_15_method_34_code 92 = .ok (.aload_n 0, 1) by decide +kernel) ?_
        refine mc_Vmi (pc := 93) (As := []) (rest := []) hC vw_closed_405 (hT.2.2.2.1 q3) (by omega) (by omega) rfl (Nat.le_of_ble_eq_true rfl) (show decode prog_15_method_34_code 93 = .ok (.invokevirtual 405, 3) by decide +kernel) h ?_
        intro q13 h
        refine dc_goto (pc := 96) (tgt := 236) hC (show decode prog_15_method_34_code 96 = .ok (.goto 140, 3) by decide +kernel) (by decide +kernel) ?_
        exact dc_sub [1] rfl (lab_236 q13.1 q13.2 h)
  have lab_57 : ∀ (S : md_S) (x1 : Int32) (x2 : Int64) (x4 : Int32), dc_wp (mm_statement_L57 T S x1 x2 x4) F → dc_G X l { frames := d + 1 + 306, cells := 0, slots := 0, locals := 26 * (d + 1) + 6729 } D 7 0 0 (md_W o a ca S) 57 [(0, .ref o), (1, .int x1), (2, .long x2), (4, .int x4)] [] := by
    intro S x1 x2 x4 h
    delta mm_statement_L57 at h
    refine dc_aloadn (pc := 57) (j := 0) (i := 0) hC 0 rfl rfl (show decode prog_15_method_34_code 57 = .ok (.aload_n 0, 1) by decide +kernel) ?_
    refine md_g10 (pc := 58) hC (show decode prog_15_method_34_code 58 = .ok (.getfield 221, 3) by decide +kernel) ?_
    refine dc_if_ne (pc := 61) (tgt := 68) hC (show decode prog_15_method_34_code 61 = .ok (.ifCond .ne 7, 3) by decide +kernel) (by decide +kernel) h ?_ ?_
    · intro h
      refine dc_aloadn (pc := 64) (j := 0) (i := 0) hC 0 rfl rfl (show decode prog_15_method_34_code 64 = .ok (.aload_n 0, 1) by decide +kernel) ?_
      refine mc_Vmv (pc := 65) (As := []) (rest := []) hC vw_deeper_370 (mm_deeper_ok l D ad de o a ca S) (by omega) (by omega) rfl (Nat.le_of_ble_eq_true rfl) (show decode prog_15_method_34_code 65 = .ok (.invokevirtual 370, 3) by decide +kernel) h ?_
      intro q14 h
      exact lab_68 q14 x1 x2 x4 h
    · intro h
      exact lab_68 S x1 x2 x4 h
  have lab_51 : ∀ (S : md_S) (x1 : Int32) (x2 : Int64) (x4 : Int32), dc_wp (mm_statement_L51 T S x1 x2 x4) F → dc_G X l { frames := d + 1 + 306, cells := 0, slots := 0, locals := 26 * (d + 1) + 6729 } D 7 0 0 (md_W o a ca S) 51 [(0, .ref o), (1, .int x1), (2, .long x2), (4, .int x4)] [] := by
    intro S x1 x2 x4 h
    delta mm_statement_L51 at h
    refine dc_aloadn (pc := 51) (j := 0) (i := 0) hC 0 rfl rfl (show decode prog_15_method_34_code 51 = .ok (.aload_n 0, 1) by decide +kernel) ?_
    refine dc_iconst (pc := 52) (v := 1) hC (show decode prog_15_method_34_code 52 = .ok (.iconst 1, 1) by decide +kernel) (by decide +kernel) ?_
    refine dc_iloadn (pc := 53) (j := 1) (i := 1) hC 1 rfl rfl (show decode prog_15_method_34_code 53 = .ok (.iload_n 1, 1) by decide +kernel) ?_
    refine mc_Vmv (pc := 54) (As := [.int 1, .int x1]) (rest := []) hC vw_fail_267 (mm_fail_ok l D ad de o a ca S 1 x1) (by omega) (by omega) rfl (Nat.le_of_ble_eq_true rfl) (show decode prog_15_method_34_code 54 = .ok (.invokevirtual 267, 3) by decide +kernel) h ?_
    intro q15 h
    exact lab_57 q15 x1 x2 x4 h
  have lab_23 : ∀ (S : md_S) (x1 : Int32) (y0 : Int64), dc_wp (mm_statement_L23 T S x1 y0) F → dc_G X l { frames := d + 1 + 306, cells := 0, slots := 0, locals := 26 * (d + 1) + 6729 } D 7 0 0 (md_W o a ca S) 23 [(0, .ref o), (1, .int x1)] [.long y0] := by
    intro S x1 y0 h
    delta mm_statement_L23 at h
    refine dc_lstoren (pc := 23) (j := 2) (i := 2) (lv' := [(2, .long y0), (0, .ref o), (1, .int x1)]) hC rfl (Nat.le_of_ble_eq_true rfl) rfl (show decode prog_15_method_34_code 23 = .ok (.lstore_n 2, 1) by decide +kernel) ?_
    refine dc_aloadn (pc := 24) (j := 0) (i := 0) hC 1 rfl rfl (show decode prog_15_method_34_code 24 = .ok (.aload_n 0, 1) by decide +kernel) ?_
    refine dc_bipush (pc := 25) (v := 40) hC (show decode prog_15_method_34_code 25 = .ok (.bipush 40, 2) by decide +kernel) (by decide +kernel) ?_
    refine mc_Vpi (pc := 27) (As := [.int 40]) (rest := []) hC vw_isSign_261 (mm_isSign_ok l D ad de o a ca S 40) (by omega) (by omega) rfl (Nat.le_of_ble_eq_true rfl) (show decode prog_15_method_34_code 27 = .ok (.invokevirtual 261, 3) by decide +kernel) h ?_
    intro q16 h
    refine dc_istore (pc := 30) (i := 4) (lv' := [(4, .int q16), (2, .long y0), (0, .ref o), (1, .int x1)]) hC (Nat.le_of_ble_eq_true rfl) rfl (show decode prog_15_method_34_code 30 = .ok (.istore 4, 2) by decide +kernel) ?_
    refine dc_iload (pc := 32) (i := 4) hC 0 rfl (show decode prog_15_method_34_code 32 = .ok (.iload 4, 2) by decide +kernel) ?_
    refine dc_if_ne (pc := 34) (tgt := 57) hC (show decode prog_15_method_34_code 34 = .ok (.ifCond .ne 23, 3) by decide +kernel) (by decide +kernel) h ?_ ?_
    · intro h
      refine dc_aloadn (pc := 37) (j := 0) (i := 0) hC 2 rfl rfl (show decode prog_15_method_34_code 37 = .ok (.aload_n 0, 1) by decide +kernel) ?_
      refine mc_Vpi (pc := 38) (As := []) (rest := []) hC vw_isKept_323 (mm_isKept_ok l D ad de o a ca S) (by omega) (by omega) rfl (Nat.le_of_ble_eq_true rfl) (show decode prog_15_method_34_code 38 = .ok (.invokevirtual 323, 3) by decide +kernel) h ?_
      intro q17 h
      refine dc_if_eq (pc := 41) (tgt := 51) hC (show decode prog_15_method_34_code 41 = .ok (.ifCond .eq 10, 3) by decide +kernel) (by decide +kernel) h ?_ ?_
      · intro h
        exact dc_sub [2, 3, 1, 0] rfl (lab_51 S x1 y0 q16 h)
      · intro h
        refine dc_lloadn (pc := 44) (j := 2) (i := 2) hC 1 rfl rfl (show decode prog_15_method_34_code 44 = .ok (.lload_n 2, 1) by decide +kernel) ?_
        refine mc_Spi (pc := 45) (As := [.long y0]) (rest := []) hC vs_begins_402 (mm_begins_ok l D ad de (md_W o a ca S) (md_T ca) y0) (by omega) (by omega) rfl (Nat.le_of_ble_eq_true rfl) (show decode prog_15_method_34_code 45 = .ok (.invokestatic 402, 3) by decide +kernel) h ?_
        intro q18 h
        refine dc_if_ne (pc := 48) (tgt := 57) hC (show decode prog_15_method_34_code 48 = .ok (.ifCond .ne 9, 3) by decide +kernel) (by decide +kernel) h ?_ ?_
        · intro h
          exact dc_sub [2, 3, 1, 0] rfl (lab_51 S x1 y0 q16 h)
        · intro h
          exact dc_sub [2, 3, 1, 0] rfl (lab_57 S x1 y0 q16 h)
    · intro h
      exact dc_sub [2, 3, 1, 0] rfl (lab_57 S x1 y0 q16 h)
  show dc_G X l { frames := d + 1 + 306, cells := 0, slots := 0, locals := 26 * (d + 1) + 6729 } D 7 0 0 (md_W o a ca S) 0 [(0, .ref o)] []
  delta mm_statement at h
  refine dc_aloadn (pc := 0) (j := 0) (i := 0) hC 0 rfl rfl (show decode prog_15_method_34_code 0 = .ok (.aload_n 0, 1) by decide +kernel) ?_
  refine md_g8 (pc := 1) hC (show decode prog_15_method_34_code 1 = .ok (.getfield 237, 3) by decide +kernel) ?_
  refine dc_letI h ?_
  intro v19 h
  refine dc_istoren (pc := 4) (j := 1) (i := 1) (lv' := [(1, .int v19), (0, .ref o)]) hC rfl (Nat.le_of_ble_eq_true rfl) rfl (show decode prog_15_method_34_code 4 = .ok (.istore_n 1, 1) by decide +kernel) ?_
  refine dc_aloadn (pc := 5) (j := 0) (i := 0) hC 1 rfl rfl (show decode prog_15_method_34_code 5 = .ok (.aload_n 0, 1) by decide +kernel) ?_
  refine md_g6 (pc := 6) hC (show decode prog_15_method_34_code 6 = .ok (.getfield 240, 3) by decide +kernel) ?_
  refine dc_iconst (pc := 9) (v := 1) hC (show decode prog_15_method_34_code 9 = .ok (.iconst 1, 1) by decide +kernel) (by decide +kernel) ?_
  refine dc_icmp_ne (pc := 10) (tgt := 20) hC (show decode prog_15_method_34_code 10 = .ok (.if_icmp .ne 10, 3) by decide +kernel) (by decide +kernel) h ?_ ?_
  · intro h
    refine dc_aloadn (pc := 13) (j := 0) (i := 0) hC 1 rfl rfl (show decode prog_15_method_34_code 13 = .ok (.aload_n 0, 1) by decide +kernel) ?_
    refine md_g9 (pc := 14) hC (show decode prog_15_method_34_code 14 = .ok (.getfield 243, 3) by decide +kernel) ?_
    refine dc_goto (pc := 17) (tgt := 23) hC (show decode prog_15_method_34_code 17 = .ok (.goto 6, 3) by decide +kernel) (by decide +kernel) ?_
    exact dc_sub [1, 0] rfl (lab_23 S v19 S.2.2.1 h)
  · intro h
    refine dc_ldc2 (pc := 20) (v := (-1)) hC w_1927 (show decode prog_15_method_34_code 20 = .ok (.ldc2_w 250, 3) by decide +kernel) ?_
    exact dc_sub [1, 0] rfl (lab_23 S v19 (-1) h)
noncomputable def mm_closed_L23 (T : mm_T2) (S : md_S) (x1 : Int32) : Option (md_S × Int32) :=
  some (S, x1)
noncomputable def mm_closed (T : mm_T2) (S : md_S) : Option (md_S × Int32) :=
  (T.1 S).bind fun q1 => (mm_meetsSign q1.1 41).bind fun q2 => if q2.2 = 0 then ((mm_fail q2.1 1 (q2.1.1 8)).bind fun q3 => mm_closed_L23 T q3 q1.2) else (mm_closed_L23 T q2.1 q1.2)
set_option maxHeartbeats 4000000 in
set_option maxRecDepth 100000 in
/-- closed()I -/
theorem mm_closed_ok (l : Launch) (D : va_G) (ad : Nat → Nat) (de : Nat) (o : Nat) (a : Nat → Nat) (ca : Nat → ClassId) (T : mm_T2) (d : Nat) (hT : mm_OK2 l D ad de o a ca T d) (S : md_S) (F : (md_S × Int32) → Prop) (h : dc_wp (mm_closed T S) F) : dc_Ci l ⟨"SignalEngineModel", "closed", "()I"⟩ prog_15_method_37_code 2 (some (.int)) (d + 1 + 306) (26 * (d + 1) + 6729) D (md_T ca) ad de [.ref o] (md_W o a ca S) (fun r w => ∃ q, F q ∧ r = q.2 ∧ w = md_W o a ca q.1) 0 0 := by
  refine dc_enteri (by decide +kernel) (Nat.le_of_ble_eq_true rfl) ?_
  intro X hC hR
  have lab_23 : ∀ (S : md_S) (x1 : Int32), dc_wp (mm_closed_L23 T S x1) F → dc_G X l { frames := d + 1 + 306, cells := 0, slots := 0, locals := 26 * (d + 1) + 6729 } D 2 0 0 (md_W o a ca S) 23 [(0, .ref o), (1, .int x1)] [] := by
    intro S x1 h
    delta mm_closed_L23 at h
    refine dc_iloadn (pc := 23) (j := 1) (i := 1) hC 1 rfl rfl (show decode prog_15_method_37_code 23 = .ok (.iload_n 1, 1) by decide +kernel) ?_
    exact dc_iret (pc := 24) hC hR ⟨_, dc_some h, rfl, rfl⟩ (show decode prog_15_method_37_code 24 = .ok (.ireturn, 1) by decide +kernel)
  show dc_G X l { frames := d + 1 + 306, cells := 0, slots := 0, locals := 26 * (d + 1) + 6729 } D 2 0 0 (md_W o a ca S) 0 [(0, .ref o)] []
  delta mm_closed at h
  refine dc_aloadn (pc := 0) (j := 0) (i := 0) hC 0 rfl rfl (show decode prog_15_method_37_code 0 = .ok (.aload_n 0, 1) by decide +kernel) ?_
  refine mc_Vmi (pc := 1) (As := []) (rest := []) hC vw_body_449 (hT.1 S) (by omega) (by omega) rfl (Nat.le_of_ble_eq_true rfl) (show decode prog_15_method_37_code 1 = .ok (.invokevirtual 449, 3) by decide +kernel) h ?_
  intro q1 h
  refine dc_istoren (pc := 4) (j := 1) (i := 1) (lv' := [(1, .int q1.2), (0, .ref o)]) hC rfl (Nat.le_of_ble_eq_true rfl) rfl (show decode prog_15_method_37_code 4 = .ok (.istore_n 1, 1) by decide +kernel) ?_
  refine dc_aloadn (pc := 5) (j := 0) (i := 0) hC 1 rfl rfl (show decode prog_15_method_37_code 5 = .ok (.aload_n 0, 1) by decide +kernel) ?_
  refine dc_bipush (pc := 6) (v := 41) hC (show decode prog_15_method_37_code 6 = .ok (.bipush 41, 2) by decide +kernel) (by decide +kernel) ?_
  refine mc_Vmi (pc := 8) (As := [.int 41]) (rest := []) hC vw_meetsSign_346 (mm_meetsSign_ok l D ad de o a ca q1.1 41) (by omega) (by omega) rfl (Nat.le_of_ble_eq_true rfl) (show decode prog_15_method_37_code 8 = .ok (.invokevirtual 346, 3) by decide +kernel) h ?_
  intro q2 h
  refine dc_if_ne (pc := 11) (tgt := 23) hC (show decode prog_15_method_37_code 11 = .ok (.ifCond .ne 12, 3) by decide +kernel) (by decide +kernel) h ?_ ?_
  · intro h
    refine dc_aloadn (pc := 14) (j := 0) (i := 0) hC 1 rfl rfl (show decode prog_15_method_37_code 14 = .ok (.aload_n 0, 1) by decide +kernel) ?_
    refine dc_iconst (pc := 15) (v := 1) hC (show decode prog_15_method_37_code 15 = .ok (.iconst 1, 1) by decide +kernel) (by decide +kernel) ?_
    refine dc_aloadn (pc := 16) (j := 0) (i := 0) hC 1 rfl rfl (show decode prog_15_method_37_code 16 = .ok (.aload_n 0, 1) by decide +kernel) ?_
    refine md_g8 (pc := 17) hC (show decode prog_15_method_37_code 17 = .ok (.getfield 237, 3) by decide +kernel) ?_
    refine mc_Vmv (pc := 20) (As := [.int 1, .int (q2.1.1 8)]) (rest := []) hC vw_fail_267 (mm_fail_ok l D ad de o a ca q2.1 1 (q2.1.1 8)) (by omega) (by omega) rfl (Nat.le_of_ble_eq_true rfl) (show decode prog_15_method_37_code 20 = .ok (.invokevirtual 267, 3) by decide +kernel) h ?_
    intro q3 h
    exact dc_sub [1, 0] rfl (lab_23 q3 q1.2 h)
  · intro h
    exact dc_sub [1, 0] rfl (lab_23 q2.1 q1.2 h)
noncomputable def mm_present_I_L157 (T : mm_T2) (S : md_S) (x1 : Int32) (x2 : Int32) (x3 : Int32) (y0 : Int32) : Option (md_S × Int32) :=
  (mm_node_IIIIII S 3 x3 y0 (-1) x1 x2).bind fun q1 => some (q1.1, q1.2)
noncomputable def mm_present_I_L138 (T : mm_T2) (S : md_S) (x1 : Int32) (x2 : Int32) (x4 : Int32) (y0 : Int32) : Option (md_S × Int32) :=
  if x4 = (-1) then ((mm_leaf S 0 (-1) x1).bind fun q2 => mm_present_I_L157 T q2.1 x1 x2 y0 q2.2) else (mm_present_I_L157 T S x1 x2 y0 x4)
noncomputable def mm_present_I_L109 (T : mm_T2) (S : md_S) (x1 : Int32) (x2 : Int32) (x3 : Int32) (x4 : Int32) (x5 : Int32) : Option (md_S × Int32) :=
  (mm_mustWord S 6647396).bind fun q3 => dc_let (md_i q3 29 x5) fun S4 => if x3 = (-1) then ((mm_leaf S4 0 (-1) x1).bind fun q5 => mm_present_I_L138 T q5.1 x1 x2 x4 q5.2) else (mm_present_I_L138 T S4 x1 x2 x4 x3)
noncomputable def mm_present_I_L75 (T : mm_T2) (S : md_S) (x1 : Int32) (x2 : Int32) (x3 : Int32) (x4 : Int32) (x5 : Int32) : Option (md_S × Int32) :=
  (mm_meetsWord S 1701606245).bind fun q6 => if q6.2 = 0 then (dc_let ((x5 ||| 1) : Int32) fun v7 => mm_present_I_L109 T q6.1 x1 x2 x3 x4 v7) else ((T.1 q6.1).bind fun q8 => dc_let ((x5 ||| (q8.1.1 29)) : Int32) fun v9 => mm_present_I_L109 T q8.1 x1 x2 x3 q8.2 v9)
noncomputable def mm_present_I_L34 (T : mm_T2) (S : md_S) (x1 : Int32) (x2 : Int32) : Option (md_S × Int32) :=
  (mm_meetsWord S 1952998766).bind fun q10 => if q10.2 = 0 then (dc_let (((0 : Int32) ||| 1) : Int32) fun v11 => mm_present_I_L75 T q10.1 x1 x2 (-1) (-1) v11) else ((T.1 q10.1).bind fun q12 => dc_let ((0 ||| (q12.1.1 29)) : Int32) fun v13 => mm_present_I_L75 T q12.1 x1 x2 q12.2 (-1) v13)
noncomputable def mm_present_I (T : mm_T2) (S : md_S) (p1 : Int32) : Option (md_S × Int32) :=
  (mm_asked_r S).bind fun q14 => (mm_isWord q14.1 1952998766).bind fun q15 => if q15 = 0 then ((mm_isWord q14.1 1701606245).bind fun q16 => if q16 = 0 then ((mm_fail q14.1 1 (q14.1.1 8)).bind fun q17 => mm_present_I_L34 T q17 p1 q14.2) else (mm_present_I_L34 T q14.1 p1 q14.2)) else (mm_present_I_L34 T q14.1 p1 q14.2)
set_option maxHeartbeats 4000000 in
set_option maxRecDepth 100000 in
/-- present(I)I -/
theorem mm_present_I_ok (l : Launch) (D : va_G) (ad : Nat → Nat) (de : Nat) (o : Nat) (a : Nat → Nat) (ca : Nat → ClassId) (T : mm_T2) (d : Nat) (hT : mm_OK2 l D ad de o a ca T d) (S : md_S) (p1 : Int32) (F : (md_S × Int32) → Prop) (h : dc_wp (mm_present_I T S p1) F) : dc_Ci l ⟨"SignalEngineModel", "present", "(I)I"⟩ prog_15_method_44_code 6 (some (.int)) (d + 1 + 306) (26 * (d + 1) + 6729) D (md_T ca) ad de [.ref o, .int p1] (md_W o a ca S) (fun r w => ∃ q, F q ∧ r = q.2 ∧ w = md_W o a ca q.1) 0 0 := by
  refine dc_enteri (by decide +kernel) (Nat.le_of_ble_eq_true rfl) ?_
  intro X hC hR
  have lab_157 : ∀ (S : md_S) (x1 : Int32) (x2 : Int32) (x3 : Int32) (y0 : Int32), dc_wp (mm_present_I_L157 T S x1 x2 x3 y0) F → dc_G X l { frames := d + 1 + 306, cells := 0, slots := 0, locals := 26 * (d + 1) + 6729 } D 6 0 0 (md_W o a ca S) 157 [(0, .ref o), (1, .int x1), (2, .int x2), (3, .int x3)] [.int y0] := by
    intro S x1 x2 x3 y0 h
    delta mm_present_I_L157 at h
    refine dc_istore (pc := 157) (i := 4) (lv' := [(4, .int y0), (0, .ref o), (1, .int x1), (2, .int x2), (3, .int x3)]) hC (Nat.le_of_ble_eq_true rfl) rfl (show decode prog_15_method_44_code 157 = .ok (.istore 4, 2) by decide +kernel) ?_
    refine dc_aloadn (pc := 159) (j := 0) (i := 0) hC 1 rfl rfl (show decode prog_15_method_44_code 159 = .ok (.aload_n 0, 1) by decide +kernel) ?_
    refine dc_iconst (pc := 160) (v := 3) hC (show decode prog_15_method_44_code 160 = .ok (.iconst 3, 1) by decide +kernel) (by decide +kernel) ?_
    refine dc_iloadn (pc := 161) (j := 3) (i := 3) hC 4 rfl rfl (show decode prog_15_method_44_code 161 = .ok (.iload_n 3, 1) by decide +kernel) ?_
    refine dc_iload (pc := 162) (i := 4) hC 0 rfl (show decode prog_15_method_44_code 162 = .ok (.iload 4, 2) by decide +kernel) ?_
    refine dc_iconst (pc := 164) (v := (-1)) hC (show decode prog_15_method_44_code 164 = .ok (.iconst (-1), 1) by decide +kernel) (by decide +kernel) ?_
    refine dc_iloadn (pc := 165) (j := 1) (i := 1) hC 2 rfl rfl (show decode prog_15_method_44_code 165 = .ok (.iload_n 1, 1) by decide +kernel) ?_
    refine dc_iloadn (pc := 166) (j := 2) (i := 2) hC 3 rfl rfl (show decode prog_15_method_44_code 166 = .ok (.iload_n 2, 1) by decide +kernel) ?_
    refine mc_Vmi (pc := 167) (As := [.int 3, .int x3, .int y0, .int (-1), .int x1, .int x2]) (rest := []) hC vw_node_IIIIII_382 (mm_node_IIIIII_ok l D ad de o a ca S 3 x3 y0 (-1) x1 x2) (by omega) (by omega) rfl (Nat.le_of_ble_eq_true rfl) (show decode prog_15_method_44_code 167 = .ok (.invokevirtual 382, 3) by decide +kernel) h ?_
    intro q1 h
    exact dc_iret (pc := 170) hC hR ⟨_, dc_some h, rfl, rfl⟩ (show decode prog_15_method_44_code 170 = .ok (.ireturn, 1) by decide +kernel)
  have lab_138 : ∀ (S : md_S) (x1 : Int32) (x2 : Int32) (x4 : Int32) (y0 : Int32), dc_wp (mm_present_I_L138 T S x1 x2 x4 y0) F → dc_G X l { frames := d + 1 + 306, cells := 0, slots := 0, locals := 26 * (d + 1) + 6729 } D 6 0 0 (md_W o a ca S) 138 [(0, .ref o), (1, .int x1), (2, .int x2), (4, .int x4)] [.int y0] := by
    intro S x1 x2 x4 y0 h
    delta mm_present_I_L138 at h
    refine dc_istoren (pc := 138) (j := 3) (i := 3) (lv' := [(3, .int y0), (0, .ref o), (1, .int x1), (2, .int x2), (4, .int x4)]) hC rfl (Nat.le_of_ble_eq_true rfl) rfl (show decode prog_15_method_44_code 138 = .ok (.istore_n 3, 1) by decide +kernel) ?_
    refine dc_iload (pc := 139) (i := 4) hC 4 rfl (show decode prog_15_method_44_code 139 = .ok (.iload 4, 2) by decide +kernel) ?_
    refine dc_iconst (pc := 141) (v := (-1)) hC (show decode prog_15_method_44_code 141 = .ok (.iconst (-1), 1) by decide +kernel) (by decide +kernel) ?_
    refine dc_icmp_ne (pc := 142) (tgt := 155) hC (show decode prog_15_method_44_code 142 = .ok (.if_icmp .ne 13, 3) by decide +kernel) (by decide +kernel) h ?_ ?_
    · intro h
      refine dc_aloadn (pc := 145) (j := 0) (i := 0) hC 1 rfl rfl (show decode prog_15_method_44_code 145 = .ok (.aload_n 0, 1) by decide +kernel) ?_
      refine dc_iconst (pc := 146) (v := 0) hC (show decode prog_15_method_44_code 146 = .ok (.iconst 0, 1) by decide +kernel) (by decide +kernel) ?_
      refine dc_iconst (pc := 147) (v := (-1)) hC (show decode prog_15_method_44_code 147 = .ok (.iconst (-1), 1) by decide +kernel) (by decide +kernel) ?_
      refine dc_iloadn (pc := 148) (j := 1) (i := 1) hC 2 rfl rfl (show decode prog_15_method_44_code 148 = .ok (.iload_n 1, 1) by decide +kernel) ?_
      refine mc_Vmi (pc := 149) (As := [.int 0, .int (-1), .int x1]) (rest := []) hC vw_leaf_437 (mm_leaf_ok l D ad de o a ca S 0 (-1) x1) (by omega) (by omega) rfl (Nat.le_of_ble_eq_true rfl) (show decode prog_15_method_44_code 149 = .ok (.invokevirtual 437, 3) by decide +kernel) h ?_
      intro q2 h
      refine dc_goto (pc := 152) (tgt := 157) hC (show decode prog_15_method_44_code 152 = .ok (.goto 5, 3) by decide +kernel) (by decide +kernel) ?_
      exact dc_sub [1, 2, 3, 0] rfl (lab_157 q2.1 x1 x2 y0 q2.2 h)
    · intro h
      refine dc_iload (pc := 155) (i := 4) hC 4 rfl (show decode prog_15_method_44_code 155 = .ok (.iload 4, 2) by decide +kernel) ?_
      exact dc_sub [1, 2, 3, 0] rfl (lab_157 S x1 x2 y0 x4 h)
  have lab_109 : ∀ (S : md_S) (x1 : Int32) (x2 : Int32) (x3 : Int32) (x4 : Int32) (x5 : Int32), dc_wp (mm_present_I_L109 T S x1 x2 x3 x4 x5) F → dc_G X l { frames := d + 1 + 306, cells := 0, slots := 0, locals := 26 * (d + 1) + 6729 } D 6 0 0 (md_W o a ca S) 109 [(0, .ref o), (1, .int x1), (2, .int x2), (3, .int x3), (4, .int x4), (5, .int x5)] [] := by
    intro S x1 x2 x3 x4 x5 h
    delta mm_present_I_L109 at h
    refine dc_aloadn (pc := 109) (j := 0) (i := 0) hC 0 rfl rfl (show decode prog_15_method_44_code 109 = .ok (.aload_n 0, 1) by decide +kernel) ?_
    refine dc_ldc2 (pc := 110) (v := 6647396) hC w_1960 (show decode prog_15_method_44_code 110 = .ok (.ldc2_w 293, 3) by decide +kernel) ?_
    refine mc_Vmv (pc := 113) (As := [.long 6647396]) (rest := []) hC vw_mustWord_468 (mm_mustWord_ok l D ad de o a ca S 6647396) (by omega) (by omega) rfl (Nat.le_of_ble_eq_true rfl) (show decode prog_15_method_44_code 113 = .ok (.invokevirtual 468, 3) by decide +kernel) h ?_
    intro q3 h
    refine dc_aloadn (pc := 116) (j := 0) (i := 0) hC 0 rfl rfl (show decode prog_15_method_44_code 116 = .ok (.aload_n 0, 1) by decide +kernel) ?_
    refine dc_iload (pc := 117) (i := 5) hC 5 rfl (show decode prog_15_method_44_code 117 = .ok (.iload 5, 2) by decide +kernel) ?_
    refine md_p29 (pc := 119) hC (show decode prog_15_method_44_code 119 = .ok (.putfield 389, 3) by decide +kernel) ?_
    refine dc_letS h ?_
    intro S4 h
    refine dc_iloadn (pc := 122) (j := 3) (i := 3) hC 3 rfl rfl (show decode prog_15_method_44_code 122 = .ok (.iload_n 3, 1) by decide +kernel) ?_
    refine dc_iconst (pc := 123) (v := (-1)) hC (show decode prog_15_method_44_code 123 = .ok (.iconst (-1), 1) by decide +kernel) (by decide +kernel) ?_
    refine dc_icmp_ne (pc := 124) (tgt := 137) hC (show decode prog_15_method_44_code 124 = .ok (.if_icmp .ne 13, 3) by decide +kernel) (by decide +kernel) h ?_ ?_
    · intro h
      refine dc_aloadn (pc := 127) (j := 0) (i := 0) hC 0 rfl rfl (show decode prog_15_method_44_code 127 = .ok (.aload_n 0, 1) by decide +kernel) ?_
      refine dc_iconst (pc := 128) (v := 0) hC (show decode prog_15_method_44_code 128 = .ok (.iconst 0, 1) by decide +kernel) (by decide +kernel) ?_
      refine dc_iconst (pc := 129) (v := (-1)) hC (show decode prog_15_method_44_code 129 = .ok (.iconst (-1), 1) by decide +kernel) (by decide +kernel) ?_
      refine dc_iloadn (pc := 130) (j := 1) (i := 1) hC 1 rfl rfl (show decode prog_15_method_44_code 130 = .ok (.iload_n 1, 1) by decide +kernel) ?_
      refine mc_Vmi (pc := 131) (As := [.int 0, .int (-1), .int x1]) (rest := []) hC vw_leaf_437 (mm_leaf_ok l D ad de o a ca S4 0 (-1) x1) (by omega) (by omega) rfl (Nat.le_of_ble_eq_true rfl) (show decode prog_15_method_44_code 131 = .ok (.invokevirtual 437, 3) by decide +kernel) h ?_
      intro q5 h
      refine dc_goto (pc := 134) (tgt := 138) hC (show decode prog_15_method_44_code 134 = .ok (.goto 4, 3) by decide +kernel) (by decide +kernel) ?_
      exact dc_sub [0, 1, 2, 4] rfl (lab_138 q5.1 x1 x2 x4 q5.2 h)
    · intro h
      refine dc_iloadn (pc := 137) (j := 3) (i := 3) hC 3 rfl rfl (show decode prog_15_method_44_code 137 = .ok (.iload_n 3, 1) by decide +kernel) ?_
      exact dc_sub [0, 1, 2, 4] rfl (lab_138 S4 x1 x2 x4 x3 h)
  have lab_75 : ∀ (S : md_S) (x1 : Int32) (x2 : Int32) (x3 : Int32) (x4 : Int32) (x5 : Int32), dc_wp (mm_present_I_L75 T S x1 x2 x3 x4 x5) F → dc_G X l { frames := d + 1 + 306, cells := 0, slots := 0, locals := 26 * (d + 1) + 6729 } D 6 0 0 (md_W o a ca S) 75 [(0, .ref o), (1, .int x1), (2, .int x2), (3, .int x3), (4, .int x4), (5, .int x5)] [] := by
    intro S x1 x2 x3 x4 x5 h
    delta mm_present_I_L75 at h
    refine dc_aloadn (pc := 75) (j := 0) (i := 0) hC 0 rfl rfl (show decode prog_15_method_44_code 75 = .ok (.aload_n 0, 1) by decide +kernel) ?_
    refine dc_ldc2 (pc := 76) (v := 1701606245) hC w_1959 (show decode prog_15_method_44_code 76 = .ok (.ldc2_w 291, 3) by decide +kernel) ?_
    refine mc_Vmi (pc := 79) (As := [.long 1701606245]) (rest := []) hC vw_meetsWord_264 (mm_meetsWord_ok l D ad de o a ca S 1701606245) (by omega) (by omega) rfl (Nat.le_of_ble_eq_true rfl) (show decode prog_15_method_44_code 79 = .ok (.invokevirtual 264, 3) by decide +kernel) h ?_
    intro q6 h
    refine dc_if_eq (pc := 82) (tgt := 103) hC (show decode prog_15_method_44_code 82 = .ok (.ifCond .eq 21, 3) by decide +kernel) (by decide +kernel) h ?_ ?_
    · intro h
      refine dc_iload (pc := 103) (i := 5) hC 5 rfl (show decode prog_15_method_44_code 103 = .ok (.iload 5, 2) by decide +kernel) ?_
      refine dc_iconst (pc := 105) (v := 1) hC (show decode prog_15_method_44_code 105 = .ok (.iconst 1, 1) by decide +kernel) (by decide +kernel) ?_
      refine dc_ior (pc := 106) hC (show decode prog_15_method_44_code 106 = .ok (.ior, 1) by decide +kernel) ?_
      refine dc_letI h ?_
      intro v7 h
      refine dc_istore (pc := 107) (i := 5) (lv' := [(5, .int v7), (0, .ref o), (1, .int x1), (2, .int x2), (3, .int x3), (4, .int x4)]) hC (Nat.le_of_ble_eq_true rfl) rfl (show decode prog_15_method_44_code 107 = .ok (.istore 5, 2) by decide +kernel) ?_
      exact dc_sub [1, 2, 3, 4, 5, 0] rfl (lab_109 q6.1 x1 x2 x3 x4 v7 h)
    · intro h
      refine dc_aloadn (pc := 85) (j := 0) (i := 0) hC 0 rfl rfl (show decode prog_15_method_44_code 85 = .ok (.aload_n 0, 1) by decide +kernel) ?_
      refine mc_Vmi (pc := 86) (As := []) (rest := []) hC vw_body_449 (hT.1 q6.1) (by omega) (by omega) rfl (Nat.le_of_ble_eq_true rfl) (show decode prog_15_method_44_code 86 = .ok (.invokevirtual 449, 3) by decide +kernel) h ?_
      intro q8 h
      refine dc_istore (pc := 89) (i := 4) (lv' := [(4, .int q8.2), (0, .ref o), (1, .int x1), (2, .int x2), (3, .int x3), (5, .int x5)]) hC (Nat.le_of_ble_eq_true rfl) rfl (show decode prog_15_method_44_code 89 = .ok (.istore 4, 2) by decide +kernel) ?_
      refine dc_iload (pc := 91) (i := 5) hC 5 rfl (show decode prog_15_method_44_code 91 = .ok (.iload 5, 2) by decide +kernel) ?_
      refine dc_aloadn (pc := 93) (j := 0) (i := 0) hC 1 rfl rfl (show decode prog_15_method_44_code 93 = .ok (.aload_n 0, 1) by decide +kernel) ?_
      refine md_g29 (pc := 94) hC (show decode prog_15_method_44_code 94 = .ok (.getfield 389, 3) by decide +kernel) ?_
      refine dc_ior (pc := 97) hC (show decode prog_15_method_44_code 97 = .ok (.ior, 1) by decide +kernel) ?_
      refine dc_letI h ?_
      intro v9 h
      refine dc_istore (pc := 98) (i := 5) (lv' := [(5, .int v9), (4, .int q8.2), (0, .ref o), (1, .int x1), (2, .int x2), (3, .int x3)]) hC (Nat.le_of_ble_eq_true rfl) rfl (show decode prog_15_method_44_code 98 = .ok (.istore 5, 2) by decide +kernel) ?_
      refine dc_goto (pc := 100) (tgt := 109) hC (show decode prog_15_method_44_code 100 = .ok (.goto 9, 3) by decide +kernel) (by decide +kernel) ?_
      exact dc_sub [2, 3, 4, 5, 1, 0] rfl (lab_109 q8.1 x1 x2 x3 q8.2 v9 h)
  have lab_34 : ∀ (S : md_S) (x1 : Int32) (x2 : Int32), dc_wp (mm_present_I_L34 T S x1 x2) F → dc_G X l { frames := d + 1 + 306, cells := 0, slots := 0, locals := 26 * (d + 1) + 6729 } D 6 0 0 (md_W o a ca S) 34 [(0, .ref o), (1, .int x1), (2, .int x2)] [] := by
    intro S x1 x2 h
    delta mm_present_I_L34 at h
    refine dc_iconst (pc := 34) (v := (-1)) hC (show decode prog_15_method_44_code 34 = .ok (.iconst (-1), 1) by decide +kernel) (by decide +kernel) ?_
    refine dc_istoren (pc := 35) (j := 3) (i := 3) (lv' := [(3, .int (-1)), (0, .ref o), (1, .int x1), (2, .int x2)]) hC rfl (Nat.le_of_ble_eq_true rfl) rfl (show decode prog_15_method_44_code 35 = .ok (.istore_n 3, 1) by decide +kernel) ?_
    refine dc_iconst (pc := 36) (v := (-1)) hC (show decode prog_15_method_44_code 36 = .ok (.iconst (-1), 1) by decide +kernel) (by decide +kernel) ?_
    refine dc_istore (pc := 37) (i := 4) (lv' := [(4, .int (-1)), (3, .int (-1)), (0, .ref o), (1, .int x1), (2, .int x2)]) hC (Nat.le_of_ble_eq_true rfl) rfl (show decode prog_15_method_44_code 37 = .ok (.istore 4, 2) by decide +kernel) ?_
    refine dc_iconst (pc := 39) (v := 0) hC (show decode prog_15_method_44_code 39 = .ok (.iconst 0, 1) by decide +kernel) (by decide +kernel) ?_
    refine dc_istore (pc := 40) (i := 5) (lv' := [(5, .int 0), (4, .int (-1)), (3, .int (-1)), (0, .ref o), (1, .int x1), (2, .int x2)]) hC (Nat.le_of_ble_eq_true rfl) rfl (show decode prog_15_method_44_code 40 = .ok (.istore 5, 2) by decide +kernel) ?_
    refine dc_aloadn (pc := 42) (j := 0) (i := 0) hC 3 rfl rfl (show decode prog_15_method_44_code 42 = .ok (.aload_n 0, 1) by decide +kernel) ?_
    refine dc_ldc2 (pc := 43) (v := 1952998766) hC w_1958 (show decode prog_15_method_44_code 43 = .ok (.ldc2_w 289, 3) by decide +kernel) ?_
    refine mc_Vmi (pc := 46) (As := [.long 1952998766]) (rest := []) hC vw_meetsWord_264 (mm_meetsWord_ok l D ad de o a ca S 1952998766) (by omega) (by omega) rfl (Nat.le_of_ble_eq_true rfl) (show decode prog_15_method_44_code 46 = .ok (.invokevirtual 264, 3) by decide +kernel) h ?_
    intro q10 h
    refine dc_if_eq (pc := 49) (tgt := 69) hC (show decode prog_15_method_44_code 49 = .ok (.ifCond .eq 20, 3) by decide +kernel) (by decide +kernel) h ?_ ?_
    · intro h
      refine dc_iload (pc := 69) (i := 5) hC 0 rfl (show decode prog_15_method_44_code 69 = .ok (.iload 5, 2) by decide +kernel) ?_
      refine dc_iconst (pc := 71) (v := 1) hC (show decode prog_15_method_44_code 71 = .ok (.iconst 1, 1) by decide +kernel) (by decide +kernel) ?_
      refine dc_ior (pc := 72) hC (show decode prog_15_method_44_code 72 = .ok (.ior, 1) by decide +kernel) ?_
      refine dc_letI h ?_
      intro v11 h
      refine dc_istore (pc := 73) (i := 5) (lv' := [(5, .int v11), (4, .int (-1)), (3, .int (-1)), (0, .ref o), (1, .int x1), (2, .int x2)]) hC (Nat.le_of_ble_eq_true rfl) rfl (show decode prog_15_method_44_code 73 = .ok (.istore 5, 2) by decide +kernel) ?_
      exact dc_sub [3, 4, 5, 2, 1, 0] rfl (lab_75 q10.1 x1 x2 (-1) (-1) v11 h)
    · intro h
      refine dc_aloadn (pc := 52) (j := 0) (i := 0) hC 3 rfl rfl (show decode prog_15_method_44_code 52 = .ok (.aload_n 0, 1) by decide +kernel) ?_
      refine mc_Vmi (pc := 53) (As := []) (rest := []) hC vw_body_449 (hT.1 q10.1) (by omega) (by omega) rfl (Nat.le_of_ble_eq_true rfl) (show decode prog_15_method_44_code 53 = .ok (.invokevirtual 449, 3) by decide +kernel) h ?_
      intro q12 h
      refine dc_istoren (pc := 56) (j := 3) (i := 3) (lv' := [(3, .int q12.2), (5, .int 0), (4, .int (-1)), (0, .ref o), (1, .int x1), (2, .int x2)]) hC rfl (Nat.le_of_ble_eq_true rfl) rfl (show decode prog_15_method_44_code 56 = .ok (.istore_n 3, 1) by decide +kernel) ?_
      refine dc_iload (pc := 57) (i := 5) hC 1 rfl (show decode prog_15_method_44_code 57 = .ok (.iload 5, 2) by decide +kernel) ?_
      refine dc_aloadn (pc := 59) (j := 0) (i := 0) hC 3 rfl rfl (show decode prog_15_method_44_code 59 = .ok (.aload_n 0, 1) by decide +kernel) ?_
      refine md_g29 (pc := 60) hC (show decode prog_15_method_44_code 60 = .ok (.getfield 389, 3) by decide +kernel) ?_
      refine dc_ior (pc := 63) hC (show decode prog_15_method_44_code 63 = .ok (.ior, 1) by decide +kernel) ?_
      refine dc_letI h ?_
      intro v13 h
      refine dc_istore (pc := 64) (i := 5) (lv' := [(5, .int v13), (3, .int q12.2), (4, .int (-1)), (0, .ref o), (1, .int x1), (2, .int x2)]) hC (Nat.le_of_ble_eq_true rfl) rfl (show decode prog_15_method_44_code 64 = .ok (.istore 5, 2) by decide +kernel) ?_
      refine dc_goto (pc := 66) (tgt := 75) hC (show decode prog_15_method_44_code 66 = .ok (.goto 9, 3) by decide +kernel) (by decide +kernel) ?_
      exact dc_sub [3, 4, 5, 1, 2, 0] rfl (lab_75 q12.1 x1 x2 q12.2 (-1) v13 h)
  show dc_G X l { frames := d + 1 + 306, cells := 0, slots := 0, locals := 26 * (d + 1) + 6729 } D 6 0 0 (md_W o a ca S) 0 [(0, .ref o), (1, .int p1)] []
  delta mm_present_I at h
  refine dc_aloadn (pc := 0) (j := 0) (i := 0) hC 0 rfl rfl (show decode prog_15_method_44_code 0 = .ok (.aload_n 0, 1) by decide +kernel) ?_
  refine mc_Vmi (pc := 1) (As := []) (rest := []) hC vw_asked_373 (mm_asked_r_ok l D ad de o a ca S) (by omega) (by omega) rfl (Nat.le_of_ble_eq_true rfl) (show decode prog_15_method_44_code 1 = .ok (.invokevirtual 373, 3) by decide +kernel) h ?_
  intro q14 h
  refine dc_istoren (pc := 4) (j := 2) (i := 2) (lv' := [(2, .int q14.2), (0, .ref o), (1, .int p1)]) hC rfl (Nat.le_of_ble_eq_true rfl) rfl (show decode prog_15_method_44_code 4 = .ok (.istore_n 2, 1) by decide +kernel) ?_
  refine dc_aloadn (pc := 5) (j := 0) (i := 0) hC 1 rfl rfl (show decode prog_15_method_44_code 5 = .ok (.aload_n 0, 1) by decide +kernel) ?_
  refine dc_ldc2 (pc := 6) (v := 1952998766) hC w_1958 (show decode prog_15_method_44_code 6 = .ok (.ldc2_w 289, 3) by decide +kernel) ?_
  refine mc_Vpi (pc := 9) (As := [.long 1952998766]) (rest := []) hC vw_isWord_254 (mm_isWord_ok l D ad de o a ca q14.1 1952998766) (by omega) (by omega) rfl (Nat.le_of_ble_eq_true rfl) (show decode prog_15_method_44_code 9 = .ok (.invokevirtual 254, 3) by decide +kernel) h ?_
  intro q15 h
  refine dc_if_ne (pc := 12) (tgt := 34) hC (show decode prog_15_method_44_code 12 = .ok (.ifCond .ne 22, 3) by decide +kernel) (by decide +kernel) h ?_ ?_
  · intro h
    refine dc_aloadn (pc := 15) (j := 0) (i := 0) hC 1 rfl rfl (show decode prog_15_method_44_code 15 = .ok (.aload_n 0, 1) by decide +kernel) ?_
    refine dc_ldc2 (pc := 16) (v := 1701606245) hC w_1959 (show decode prog_15_method_44_code 16 = .ok (.ldc2_w 291, 3) by decide +kernel) ?_
    refine mc_Vpi (pc := 19) (As := [.long 1701606245]) (rest := []) hC vw_isWord_254 (mm_isWord_ok l D ad de o a ca q14.1 1701606245) (by omega) (by omega) rfl (Nat.le_of_ble_eq_true rfl) (show decode prog_15_method_44_code 19 = .ok (.invokevirtual 254, 3) by decide +kernel) h ?_
    intro q16 h
    refine dc_if_ne (pc := 22) (tgt := 34) hC (show decode prog_15_method_44_code 22 = .ok (.ifCond .ne 12, 3) by decide +kernel) (by decide +kernel) h ?_ ?_
    · intro h
      refine dc_aloadn (pc := 25) (j := 0) (i := 0) hC 1 rfl rfl (show decode prog_15_method_44_code 25 = .ok (.aload_n 0, 1) by decide +kernel) ?_
      refine dc_iconst (pc := 26) (v := 1) hC (show decode prog_15_method_44_code 26 = .ok (.iconst 1, 1) by decide +kernel) (by decide +kernel) ?_
      refine dc_aloadn (pc := 27) (j := 0) (i := 0) hC 1 rfl rfl (show decode prog_15_method_44_code 27 = .ok (.aload_n 0, 1) by decide +kernel) ?_
      refine md_g8 (pc := 28) hC (show decode prog_15_method_44_code 28 = .ok (.getfield 237, 3) by decide +kernel) ?_
      refine mc_Vmv (pc := 31) (As := [.int 1, .int (q14.1.1 8)]) (rest := []) hC vw_fail_267 (mm_fail_ok l D ad de o a ca q14.1 1 (q14.1.1 8)) (by omega) (by omega) rfl (Nat.le_of_ble_eq_true rfl) (show decode prog_15_method_44_code 31 = .ok (.invokevirtual 267, 3) by decide +kernel) h ?_
      intro q17 h
      exact dc_sub [1, 2, 0] rfl (lab_34 q17 p1 q14.2 h)
    · intro h
      exact dc_sub [1, 2, 0] rfl (lab_34 q14.1 p1 q14.2 h)
  · intro h
    exact dc_sub [1, 2, 0] rfl (lab_34 q14.1 p1 q14.2 h)
noncomputable def mm_suspend_L32 (T : mm_T2) (S : md_S) (x1 : Int32) (x2 : Int32) (x3 : Int32) (y0 : Int32) : Option (md_S × Int32) :=
  (mm_mustWord S 6647396).bind fun q1 => dc_let (md_i q1 29 x3) fun S2 => (mm_node_IIIIII S2 4 x2 (-1) (-1) x1 y0).bind fun q3 => some (q3.1, q3.2)
noncomputable def mm_suspend (T : mm_T2) (S : md_S) (p1 : Int32) : Option (md_S × Int32) :=
  (T.1 S).bind fun q4 => dc_let ((q4.1.1 29) : Int32) fun v5 => (mm_mustWord q4.1 2003330414).bind fun q6 => if (0 : Int32) < (q6.1 10) then (mm_suspend_L32 T q6 p1 q4.2 v5 0) else ((mm_asked_r q6).bind fun q7 => mm_suspend_L32 T q7.1 p1 q4.2 v5 q7.2)
set_option maxHeartbeats 4000000 in
set_option maxRecDepth 100000 in
/-- suspend(I)I -/
theorem mm_suspend_ok (l : Launch) (D : va_G) (ad : Nat → Nat) (de : Nat) (o : Nat) (a : Nat → Nat) (ca : Nat → ClassId) (T : mm_T2) (d : Nat) (hT : mm_OK2 l D ad de o a ca T d) (S : md_S) (p1 : Int32) (F : (md_S × Int32) → Prop) (h : dc_wp (mm_suspend T S p1) F) : dc_Ci l ⟨"SignalEngineModel", "suspend", "(I)I"⟩ prog_15_method_45_code 5 (some (.int)) (d + 1 + 306) (26 * (d + 1) + 6729) D (md_T ca) ad de [.ref o, .int p1] (md_W o a ca S) (fun r w => ∃ q, F q ∧ r = q.2 ∧ w = md_W o a ca q.1) 0 0 := by
  refine dc_enteri (by decide +kernel) (Nat.le_of_ble_eq_true rfl) ?_
  intro X hC hR
  have lab_32 : ∀ (S : md_S) (x1 : Int32) (x2 : Int32) (x3 : Int32) (y0 : Int32), dc_wp (mm_suspend_L32 T S x1 x2 x3 y0) F → dc_G X l { frames := d + 1 + 306, cells := 0, slots := 0, locals := 26 * (d + 1) + 6729 } D 5 0 0 (md_W o a ca S) 32 [(0, .ref o), (1, .int x1), (2, .int x2), (3, .int x3)] [.int y0] := by
    intro S x1 x2 x3 y0 h
    delta mm_suspend_L32 at h
    refine dc_istore (pc := 32) (i := 4) (lv' := [(4, .int y0), (0, .ref o), (1, .int x1), (2, .int x2), (3, .int x3)]) hC (Nat.le_of_ble_eq_true rfl) rfl (show decode prog_15_method_45_code 32 = .ok (.istore 4, 2) by decide +kernel) ?_
    refine dc_aloadn (pc := 34) (j := 0) (i := 0) hC 1 rfl rfl (show decode prog_15_method_45_code 34 = .ok (.aload_n 0, 1) by decide +kernel) ?_
    refine dc_ldc2 (pc := 35) (v := 6647396) hC w_1960 (show decode prog_15_method_45_code 35 = .ok (.ldc2_w 293, 3) by decide +kernel) ?_
    refine mc_Vmv (pc := 38) (As := [.long 6647396]) (rest := []) hC vw_mustWord_468 (mm_mustWord_ok l D ad de o a ca S 6647396) (by omega) (by omega) rfl (Nat.le_of_ble_eq_true rfl) (show decode prog_15_method_45_code 38 = .ok (.invokevirtual 468, 3) by decide +kernel) h ?_
    intro q1 h
    refine dc_aloadn (pc := 41) (j := 0) (i := 0) hC 1 rfl rfl (show decode prog_15_method_45_code 41 = .ok (.aload_n 0, 1) by decide +kernel) ?_
    refine dc_iloadn (pc := 42) (j := 3) (i := 3) hC 4 rfl rfl (show decode prog_15_method_45_code 42 = .ok (.iload_n 3, 1) by decide +kernel) ?_
    refine md_p29 (pc := 43) hC (show decode prog_15_method_45_code 43 = .ok (.putfield 389, 3) by decide +kernel) ?_
    refine dc_letS h ?_
    intro S2 h
    refine dc_aloadn (pc := 46) (j := 0) (i := 0) hC 1 rfl rfl (show decode prog_15_method_45_code 46 = .ok (.aload_n 0, 1) by decide +kernel) ?_
    refine dc_iconst (pc := 47) (v := 4) hC (show decode prog_15_method_45_code 47 = .ok (.iconst 4, 1) by decide +kernel) (by decide +kernel) ?_
    refine dc_iloadn (pc := 48) (j := 2) (i := 2) hC 3 rfl rfl (show decode prog_15_method_45_code 48 = .ok (.iload_n 2, 1) by decide +kernel) ?_
    refine dc_iconst (pc := 49) (v := (-1)) hC (show decode prog_15_method_45_code 49 = .ok (.iconst (-1), 1) by decide +kernel) (by decide +kernel) ?_
    refine dc_iconst (pc := 50) (v := (-1)) hC (show decode prog_15_method_45_code 50 = .ok (.iconst (-1), 1) by decide +kernel) (by decide +kernel) ?_
    refine dc_iloadn (pc := 51) (j := 1) (i := 1) hC 2 rfl rfl (show decode prog_15_method_45_code 51 = .ok (.iload_n 1, 1) by decide +kernel) ?_
    refine dc_iload (pc := 52) (i := 4) hC 0 rfl (show decode prog_15_method_45_code 52 = .ok (.iload 4, 2) by decide +kernel) ?_
    refine mc_Vmi (pc := 54) (As := [.int 4, .int x2, .int (-1), .int (-1), .int x1, .int y0]) (rest := []) hC vw_node_IIIIII_382 (mm_node_IIIIII_ok l D ad de o a ca S2 4 x2 (-1) (-1) x1 y0) (by omega) (by omega) rfl (Nat.le_of_ble_eq_true rfl) (show decode prog_15_method_45_code 54 = .ok (.invokevirtual 382, 3) by decide +kernel) h ?_
    intro q3 h
    exact dc_iret (pc := 57) hC hR ⟨_, dc_some h, rfl, rfl⟩ (show decode prog_15_method_45_code 57 = .ok (.ireturn, 1) by decide +kernel)
  show dc_G X l { frames := d + 1 + 306, cells := 0, slots := 0, locals := 26 * (d + 1) + 6729 } D 5 0 0 (md_W o a ca S) 0 [(0, .ref o), (1, .int p1)] []
  delta mm_suspend at h
  refine dc_aloadn (pc := 0) (j := 0) (i := 0) hC 0 rfl rfl (show decode prog_15_method_45_code 0 = .ok (.aload_n 0, 1) by decide +kernel) ?_
  refine mc_Vmi (pc := 1) (As := []) (rest := []) hC vw_body_449 (hT.1 S) (by omega) (by omega) rfl (Nat.le_of_ble_eq_true rfl) (show decode prog_15_method_45_code 1 = .ok (.invokevirtual 449, 3) by decide +kernel) h ?_
  intro q4 h
  refine dc_istoren (pc := 4) (j := 2) (i := 2) (lv' := [(2, .int q4.2), (0, .ref o), (1, .int p1)]) hC rfl (Nat.le_of_ble_eq_true rfl) rfl (show decode prog_15_method_45_code 4 = .ok (.istore_n 2, 1) by decide +kernel) ?_
  refine dc_aloadn (pc := 5) (j := 0) (i := 0) hC 1 rfl rfl (show decode prog_15_method_45_code 5 = .ok (.aload_n 0, 1) by decide +kernel) ?_
  refine md_g29 (pc := 6) hC (show decode prog_15_method_45_code 6 = .ok (.getfield 389, 3) by decide +kernel) ?_
  refine dc_letI h ?_
  intro v5 h
  refine dc_istoren (pc := 9) (j := 3) (i := 3) (lv' := [(3, .int v5), (2, .int q4.2), (0, .ref o), (1, .int p1)]) hC rfl (Nat.le_of_ble_eq_true rfl) rfl (show decode prog_15_method_45_code 9 = .ok (.istore_n 3, 1) by decide +kernel) ?_
  refine dc_aloadn (pc := 10) (j := 0) (i := 0) hC 2 rfl rfl (show decode prog_15_method_45_code 10 = .ok (.aload_n 0, 1) by decide +kernel) ?_
  refine dc_ldc2 (pc := 11) (v := 2003330414) hC w_1962 (show decode prog_15_method_45_code 11 = .ok (.ldc2_w 297, 3) by decide +kernel) ?_
  refine mc_Vmv (pc := 14) (As := [.long 2003330414]) (rest := []) hC vw_mustWord_468 (mm_mustWord_ok l D ad de o a ca q4.1 2003330414) (by omega) (by omega) rfl (Nat.le_of_ble_eq_true rfl) (show decode prog_15_method_45_code 14 = .ok (.invokevirtual 468, 3) by decide +kernel) h ?_
  intro q6 h
  refine dc_aloadn (pc := 17) (j := 0) (i := 0) hC 2 rfl rfl (show decode prog_15_method_45_code 17 = .ok (.aload_n 0, 1) by decide +kernel) ?_
  refine md_g10 (pc := 18) hC (show decode prog_15_method_45_code 18 = .ok (.getfield 221, 3) by decide +kernel) ?_
  refine dc_if_le (pc := 21) (tgt := 28) hC (show decode prog_15_method_45_code 21 = .ok (.ifCond .le 7, 3) by decide +kernel) (by decide +kernel) h ?_ ?_
  · intro h
    refine dc_iconst (pc := 24) (v := 0) hC (show decode prog_15_method_45_code 24 = .ok (.iconst 0, 1) by decide +kernel) (by decide +kernel) ?_
    refine dc_goto (pc := 25) (tgt := 32) hC (show decode prog_15_method_45_code 25 = .ok (.goto 7, 3) by decide +kernel) (by decide +kernel) ?_
    exact dc_sub [2, 3, 1, 0] rfl (lab_32 q6 p1 q4.2 v5 0 h)
  · intro h
    refine dc_aloadn (pc := 28) (j := 0) (i := 0) hC 2 rfl rfl (show decode prog_15_method_45_code 28 = .ok (.aload_n 0, 1) by decide +kernel) ?_
    refine mc_Vmi (pc := 29) (As := []) (rest := []) hC vw_asked_373 (mm_asked_r_ok l D ad de o a ca q6) (by omega) (by omega) rfl (Nat.le_of_ble_eq_true rfl) (show decode prog_15_method_45_code 29 = .ok (.invokevirtual 373, 3) by decide +kernel) h ?_
    intro q7 h
    exact dc_sub [2, 3, 1, 0] rfl (lab_32 q7.1 p1 q4.2 v5 q7.2 h)
noncomputable def mm_loop_L90 (T : mm_T2) (S : md_S) (x1 : Int32) (x3 : Int32) (x4 : Int32) (y0 : Int32) : Option (md_S × Int32) :=
  (mm_mustWord S 6647396).bind fun q1 => (mm_again q1 x1 x3 y0 x4).bind fun q2 => some (q2.1, q2.2)
noncomputable def mm_loop_L56 (T : mm_T2) (S : md_S) (x1 : Int32) (x3 : Int32) : Option (md_S × Int32) :=
  (mm_node_IIIIII S 6 x3 (-1) (-1) x1 (-1)).bind fun q3 => some (q3.1, q3.2)
noncomputable def mm_loop (T : mm_T2) (S : md_S) (p1 : Int32) (p2 : Int32) : Option (md_S × Int32) :=
  (T.1 S).bind fun q4 => dc_let ((q4.1.1 29) : Int32) fun v5 => if (0 : Int32) < (q4.1.1 10) then (some (q4.1, 0)) else ((mm_meetsWord q4.1 6647396).bind fun q6 => if q6.2 = 0 then ((mm_mustWord q6.1 1700881256).bind fun q7 => if (0 : Int32) < (q7.1 10) then (mm_loop_L90 T q7 p1 q4.2 v5 0) else ((mm_asked_r q7).bind fun q8 => mm_loop_L90 T q8.1 p1 q4.2 v5 q8.2)) else (if (v5 &&& 1) = 1 then (if p2 < (q6.1.1 13) then (dc_let (md_i q6.1 13 p2) fun S9 => dc_let (md_i S9 14 p1) fun S10 => mm_loop_L56 T S10 p1 q4.2) else (mm_loop_L56 T q6.1 p1 q4.2)) else (mm_loop_L56 T q6.1 p1 q4.2)))
set_option maxHeartbeats 4000000 in
set_option maxRecDepth 100000 in
/-- loop(II)I -/
theorem mm_loop_ok (l : Launch) (D : va_G) (ad : Nat → Nat) (de : Nat) (o : Nat) (a : Nat → Nat) (ca : Nat → ClassId) (T : mm_T2) (d : Nat) (hT : mm_OK2 l D ad de o a ca T d) (S : md_S) (p1 : Int32) (p2 : Int32) (F : (md_S × Int32) → Prop) (h : dc_wp (mm_loop T S p1 p2) F) : dc_Ci l ⟨"SignalEngineModel", "loop", "(II)I"⟩ prog_15_method_46_code 6 (some (.int)) (d + 1 + 306) (26 * (d + 1) + 6729) D (md_T ca) ad de [.ref o, .int p1, .int p2] (md_W o a ca S) (fun r w => ∃ q, F q ∧ r = q.2 ∧ w = md_W o a ca q.1) 0 0 := by
  refine dc_enteri (by decide +kernel) (Nat.le_of_ble_eq_true rfl) ?_
  intro X hC hR
  have lab_90 : ∀ (S : md_S) (x1 : Int32) (x3 : Int32) (x4 : Int32) (y0 : Int32), dc_wp (mm_loop_L90 T S x1 x3 x4 y0) F → dc_G X l { frames := d + 1 + 306, cells := 0, slots := 0, locals := 26 * (d + 1) + 6729 } D 6 0 0 (md_W o a ca S) 90 [(0, .ref o), (1, .int x1), (3, .int x3), (4, .int x4)] [.int y0] := by
    intro S x1 x3 x4 y0 h
    delta mm_loop_L90 at h
    refine dc_istore (pc := 90) (i := 5) (lv' := [(5, .int y0), (0, .ref o), (1, .int x1), (3, .int x3), (4, .int x4)]) hC (Nat.le_of_ble_eq_true rfl) rfl (show decode prog_15_method_46_code 90 = .ok (.istore 5, 2) by decide +kernel) ?_
    refine dc_aloadn (pc := 92) (j := 0) (i := 0) hC 1 rfl rfl (show decode prog_15_method_46_code 92 = .ok (.aload_n 0, 1) by decide +kernel) ?_
    refine dc_ldc2 (pc := 93) (v := 6647396) hC w_1960 (show decode prog_15_method_46_code 93 = .ok (.ldc2_w 293, 3) by decide +kernel) ?_
    refine mc_Vmv (pc := 96) (As := [.long 6647396]) (rest := []) hC vw_mustWord_468 (mm_mustWord_ok l D ad de o a ca S 6647396) (by omega) (by omega) rfl (Nat.le_of_ble_eq_true rfl) (show decode prog_15_method_46_code 96 = .ok (.invokevirtual 468, 3) by decide +kernel) h ?_
    intro q1 h
    refine dc_aloadn (pc := 99) (j := 0) (i := 0) hC 1 rfl rfl (show decode prog_15_method_46_code 99 = .ok (.aload_n 0, 1) by decide +kernel) ?_
    refine dc_iloadn (pc := 100) (j := 1) (i := 1) hC 2 rfl rfl (show decode prog_15_method_46_code 100 = .ok (.iload_n 1, 1) by decide +kernel) ?_
    refine dc_iloadn (pc := 101) (j := 3) (i := 3) hC 3 rfl rfl (show decode prog_15_method_46_code 101 = .ok (.iload_n 3, 1) by decide +kernel) ?_
    refine dc_iload (pc := 102) (i := 5) hC 0 rfl (show decode prog_15_method_46_code 102 = .ok (.iload 5, 2) by decide +kernel) ?_
    refine dc_iload (pc := 104) (i := 4) hC 4 rfl (show decode prog_15_method_46_code 104 = .ok (.iload 4, 2) by decide +kernel) ?_
    refine mc_Vmi (pc := 106) (As := [.int x1, .int x3, .int y0, .int x4]) (rest := []) hC vw_again_478 (mm_again_ok l D ad de o a ca q1 x1 x3 y0 x4) (by omega) (by omega) rfl (Nat.le_of_ble_eq_true rfl) (show decode prog_15_method_46_code 106 = .ok (.invokevirtual 478, 3) by decide +kernel) h ?_
    intro q2 h
    exact dc_iret (pc := 109) hC hR ⟨_, dc_some h, rfl, rfl⟩ (show decode prog_15_method_46_code 109 = .ok (.ireturn, 1) by decide +kernel)
  have lab_56 : ∀ (S : md_S) (x1 : Int32) (x3 : Int32), dc_wp (mm_loop_L56 T S x1 x3) F → dc_G X l { frames := d + 1 + 306, cells := 0, slots := 0, locals := 26 * (d + 1) + 6729 } D 6 0 0 (md_W o a ca S) 56 [(0, .ref o), (1, .int x1), (3, .int x3)] [] := by
    intro S x1 x3 h
    delta mm_loop_L56 at h
    refine dc_aloadn (pc := 56) (j := 0) (i := 0) hC 0 rfl rfl (show decode prog_15_method_46_code 56 = .ok (.aload_n 0, 1) by decide +kernel) ?_
    refine dc_bipush (pc := 57) (v := 6) hC (show decode prog_15_method_46_code 57 = .ok (.bipush 6, 2) by decide +kernel) (by decide +kernel) ?_
    refine dc_iloadn (pc := 59) (j := 3) (i := 3) hC 2 rfl rfl (show decode prog_15_method_46_code 59 = .ok (.iload_n 3, 1) by decide +kernel) ?_
    refine dc_iconst (pc := 60) (v := (-1)) hC (show decode prog_15_method_46_code 60 = .ok (.iconst (-1), 1) by decide +kernel) (by decide +kernel) ?_
    refine dc_iconst (pc := 61) (v := (-1)) hC (show decode prog_15_method_46_code 61 = .ok (.iconst (-1), 1) by decide +kernel) (by decide +kernel) ?_
    refine dc_iloadn (pc := 62) (j := 1) (i := 1) hC 1 rfl rfl (show decode prog_15_method_46_code 62 = .ok (.iload_n 1, 1) by decide +kernel) ?_
    refine dc_iconst (pc := 63) (v := (-1)) hC (show decode prog_15_method_46_code 63 = .ok (.iconst (-1), 1) by decide +kernel) (by decide +kernel) ?_
    refine mc_Vmi (pc := 64) (As := [.int 6, .int x3, .int (-1), .int (-1), .int x1, .int (-1)]) (rest := []) hC vw_node_IIIIII_382 (mm_node_IIIIII_ok l D ad de o a ca S 6 x3 (-1) (-1) x1 (-1)) (by omega) (by omega) rfl (Nat.le_of_ble_eq_true rfl) (show decode prog_15_method_46_code 64 = .ok (.invokevirtual 382, 3) by decide +kernel) h ?_
    intro q3 h
    exact dc_iret (pc := 67) hC hR ⟨_, dc_some h, rfl, rfl⟩ (show decode prog_15_method_46_code 67 = .ok (.ireturn, 1) by decide +kernel)
  show dc_G X l { frames := d + 1 + 306, cells := 0, slots := 0, locals := 26 * (d + 1) + 6729 } D 6 0 0 (md_W o a ca S) 0 [(0, .ref o), (1, .int p1), (2, .int p2)] []
  delta mm_loop at h
  refine dc_aloadn (pc := 0) (j := 0) (i := 0) hC 0 rfl rfl (show decode prog_15_method_46_code 0 = .ok (.aload_n 0, 1) by decide +kernel) ?_
  refine mc_Vmi (pc := 1) (As := []) (rest := []) hC vw_body_449 (hT.1 S) (by omega) (by omega) rfl (Nat.le_of_ble_eq_true rfl) (show decode prog_15_method_46_code 1 = .ok (.invokevirtual 449, 3) by decide +kernel) h ?_
  intro q4 h
  refine dc_istoren (pc := 4) (j := 3) (i := 3) (lv' := [(3, .int q4.2), (0, .ref o), (1, .int p1), (2, .int p2)]) hC rfl (Nat.le_of_ble_eq_true rfl) rfl (show decode prog_15_method_46_code 4 = .ok (.istore_n 3, 1) by decide +kernel) ?_
  refine dc_aloadn (pc := 5) (j := 0) (i := 0) hC 1 rfl rfl (show decode prog_15_method_46_code 5 = .ok (.aload_n 0, 1) by decide +kernel) ?_
  refine md_g29 (pc := 6) hC (show decode prog_15_method_46_code 6 = .ok (.getfield 389, 3) by decide +kernel) ?_
  refine dc_letI h ?_
  intro v5 h
  refine dc_istore (pc := 9) (i := 4) (lv' := [(4, .int v5), (3, .int q4.2), (0, .ref o), (1, .int p1), (2, .int p2)]) hC (Nat.le_of_ble_eq_true rfl) rfl (show decode prog_15_method_46_code 9 = .ok (.istore 4, 2) by decide +kernel) ?_
  refine dc_aloadn (pc := 11) (j := 0) (i := 0) hC 2 rfl rfl (show decode prog_15_method_46_code 11 = .ok (.aload_n 0, 1) by decide +kernel) ?_
  refine md_g10 (pc := 12) hC (show decode prog_15_method_46_code 12 = .ok (.getfield 221, 3) by decide +kernel) ?_
  refine dc_if_le (pc := 15) (tgt := 20) hC (show decode prog_15_method_46_code 15 = .ok (.ifCond .le 5, 3) by decide +kernel) (by decide +kernel) h ?_ ?_
  · intro h
    refine dc_iconst (pc := 18) (v := 0) hC (show decode prog_15_method_46_code 18 = .ok (.iconst 0, 1) by decide +kernel) (by decide +kernel) ?_
    exact dc_iret (pc := 19) hC hR ⟨_, dc_some h, rfl, rfl⟩ (show decode prog_15_method_46_code 19 = .ok (.ireturn, 1) by decide +kernel)
  · intro h
    refine dc_aloadn (pc := 20) (j := 0) (i := 0) hC 2 rfl rfl (show decode prog_15_method_46_code 20 = .ok (.aload_n 0, 1) by decide +kernel) ?_
    refine dc_ldc2 (pc := 21) (v := 6647396) hC w_1960 (show decode prog_15_method_46_code 21 = .ok (.ldc2_w 293, 3) by decide +kernel) ?_
    refine mc_Vmi (pc := 24) (As := [.long 6647396]) (rest := []) hC vw_meetsWord_264 (mm_meetsWord_ok l D ad de o a ca q4.1 6647396) (by omega) (by omega) rfl (Nat.le_of_ble_eq_true rfl) (show decode prog_15_method_46_code 24 = .ok (.invokevirtual 264, 3) by decide +kernel) h ?_
    intro q6 h
    refine dc_if_eq (pc := 27) (tgt := 68) hC (show decode prog_15_method_46_code 27 = .ok (.ifCond .eq 41, 3) by decide +kernel) (by decide +kernel) h ?_ ?_
    · intro h
      refine dc_aloadn (pc := 68) (j := 0) (i := 0) hC 2 rfl rfl (show decode prog_15_method_46_code 68 = .ok (.aload_n 0, 1) by decide +kernel) ?_
      refine dc_ldc2 (pc := 69) (v := 1700881256) hC w_1964 (show decode prog_15_method_46_code 69 = .ok (.ldc2_w 301, 3) by decide +kernel) ?_
      refine mc_Vmv (pc := 72) (As := [.long 1700881256]) (rest := []) hC vw_mustWord_468 (mm_mustWord_ok l D ad de o a ca q6.1 1700881256) (by omega) (by omega) rfl (Nat.le_of_ble_eq_true rfl) (show decode prog_15_method_46_code 72 = .ok (.invokevirtual 468, 3) by decide +kernel) h ?_
      intro q7 h
      refine dc_aloadn (pc := 75) (j := 0) (i := 0) hC 2 rfl rfl (show decode prog_15_method_46_code 75 = .ok (.aload_n 0, 1) by decide +kernel) ?_
      refine md_g10 (pc := 76) hC (show decode prog_15_method_46_code 76 = .ok (.getfield 221, 3) by decide +kernel) ?_
      refine dc_if_le (pc := 79) (tgt := 86) hC (show decode prog_15_method_46_code 79 = .ok (.ifCond .le 7, 3) by decide +kernel) (by decide +kernel) h ?_ ?_
      · intro h
        refine dc_iconst (pc := 82) (v := 0) hC (show decode prog_15_method_46_code 82 = .ok (.iconst 0, 1) by decide +kernel) (by decide +kernel) ?_
        refine dc_goto (pc := 83) (tgt := 90) hC (show decode prog_15_method_46_code 83 = .ok (.goto 7, 3) by decide +kernel) (by decide +kernel) ?_
        exact dc_sub [2, 3, 1, 0] rfl (lab_90 q7 p1 q4.2 v5 0 h)
      · intro h
        refine dc_aloadn (pc := 86) (j := 0) (i := 0) hC 2 rfl rfl (show decode prog_15_method_46_code 86 = .ok (.aload_n 0, 1) by decide +kernel) ?_
        refine mc_Vmi (pc := 87) (As := []) (rest := []) hC vw_asked_373 (mm_asked_r_ok l D ad de o a ca q7) (by omega) (by omega) rfl (Nat.le_of_ble_eq_true rfl) (show decode prog_15_method_46_code 87 = .ok (.invokevirtual 373, 3) by decide +kernel) h ?_
        intro q8 h
        exact dc_sub [2, 3, 1, 0] rfl (lab_90 q8.1 p1 q4.2 v5 q8.2 h)
    · intro h
      refine dc_iload (pc := 30) (i := 4) hC 0 rfl (show decode prog_15_method_46_code 30 = .ok (.iload 4, 2) by decide +kernel) ?_
      refine dc_iconst (pc := 32) (v := 1) hC (show decode prog_15_method_46_code 32 = .ok (.iconst 1, 1) by decide +kernel) (by decide +kernel) ?_
      refine dc_iand (pc := 33) hC (show decode prog_15_method_46_code 33 = .ok (.iand, 1) by decide +kernel) ?_
      refine dc_iconst (pc := 34) (v := 1) hC (show decode prog_15_method_46_code 34 = .ok (.iconst 1, 1) by decide +kernel) (by decide +kernel) ?_
      refine dc_icmp_ne (pc := 35) (tgt := 56) hC (show decode prog_15_method_46_code 35 = .ok (.if_icmp .ne 21, 3) by decide +kernel) (by decide +kernel) h ?_ ?_
      · intro h
        refine dc_iloadn (pc := 38) (j := 2) (i := 2) hC 4 rfl rfl (show decode prog_15_method_46_code 38 = .ok (.iload_n 2, 1) by decide +kernel) ?_
        refine dc_aloadn (pc := 39) (j := 0) (i := 0) hC 2 rfl rfl (show decode prog_15_method_46_code 39 = .ok (.aload_n 0, 1) by decide +kernel) ?_
        refine md_g13 (pc := 40) hC (show decode prog_15_method_46_code 40 = .ok (.getfield 472, 3) by decide +kernel) ?_
        refine dc_icmp_ge (pc := 43) (tgt := 56) hC (show decode prog_15_method_46_code 43 = .ok (.if_icmp .ge 13, 3) by decide +kernel) (by decide +kernel) h ?_ ?_
        · intro h
          refine dc_aloadn (pc := 46) (j := 0) (i := 0) hC 2 rfl rfl (show decode prog_15_method_46_code 46 = .ok (.aload_n 0, 1) by decide +kernel) ?_
          refine dc_iloadn (pc := 47) (j := 2) (i := 2) hC 4 rfl rfl (show decode prog_15_method_46_code 47 = .ok (.iload_n 2, 1) by decide +kernel) ?_
          refine md_p13 (pc := 48) hC (show decode prog_15_method_46_code 48 = .ok (.putfield 472, 3) by decide +kernel) ?_
          refine dc_letS h ?_
          intro S9 h
          refine dc_aloadn (pc := 51) (j := 0) (i := 0) hC 2 rfl rfl (show decode prog_15_method_46_code 51 = .ok (.aload_n 0, 1) by decide +kernel) ?_
          refine dc_iloadn (pc := 52) (j := 1) (i := 1) hC 3 rfl rfl (show decode prog_15_method_46_code 52 = .ok (.iload_n 1, 1) by decide +kernel) ?_
          refine md_p14 (pc := 53) hC (show decode prog_15_method_46_code 53 = .ok (.putfield 475, 3) by decide +kernel) ?_
          refine dc_letS h ?_
          intro S10 h
          exact dc_sub [2, 3, 1] rfl (lab_56 S10 p1 q4.2 h)
        · intro h
          exact dc_sub [2, 3, 1] rfl (lab_56 q6.1 p1 q4.2 h)
      · intro h
        exact dc_sub [2, 3, 1] rfl (lab_56 q6.1 p1 q4.2 h)
noncomputable def mm_trap_L117 (T : mm_T2) (S : md_S) (x1 : Int32) (x2 : Int32) (y0 : Int32) : Option (md_S × Int32) :=
  (mm_mustWord S 6647396).bind fun q1 => dc_let (md_i q1 19 ((q1.1 19) - 1)) fun S2 => (mm_caught (S2.1 29)).bind fun q3 => dc_let (md_i S2 29 q3) fun S4 => (mm_node_IIIIII S4 8 y0 (-1) x2 x1 (-1)).bind fun q5 => some (q5.1, q5.2)
noncomputable def mm_trap_L16 (T : mm_T2) (S : md_S) (x1 : Int32) : Option (md_S × Int32) :=
  if (0 : Int32) < (S.1 10) then (some (S, 0)) else (dc_let (md_i S 20 ((S.1 20) + 1)) fun S6 => dc_let ((S6.1 20) : Int32) fun v7 => (dc_ix (S6.1 19) 32).bind fun j8 => dc_let (md_a S6 24 j8 (S6.1 7)) fun S9 => (dc_ix (S9.1 19) 32).bind fun j10 => dc_let (md_a S9 25 j10 ((S9.1 4) - (S9.1 7))) fun S11 => (dc_ix (S11.1 19) 32).bind fun j12 => dc_let (md_a S11 26 j12 v7) fun S13 => dc_let (md_i S13 19 ((S13.1 19) + 1)) fun S14 => (mm_advance S14).bind fun q15 => (mm_mustWord q15 26990).bind fun q16 => if (0 : Int32) < (q16.1 10) then (mm_trap_L117 T q16 x1 v7 0) else ((T.1 q16).bind fun q17 => mm_trap_L117 T q17.1 x1 v7 q17.2))
noncomputable def mm_trap (T : mm_T2) (S : md_S) (p1 : Int32) : Option (md_S × Int32) :=
  (mm_isName S).bind fun q18 => if q18 = 0 then ((mm_fail S 1 (S.1 8)).bind fun q19 => mm_trap_L16 T q19 p1) else (mm_trap_L16 T S p1)
set_option maxHeartbeats 4000000 in
set_option maxRecDepth 100000 in
/-- trap(I)I -/
theorem mm_trap_ok (l : Launch) (D : va_G) (ad : Nat → Nat) (de : Nat) (o : Nat) (a : Nat → Nat) (ca : Nat → ClassId) (T : mm_T2) (d : Nat) (hT : mm_OK2 l D ad de o a ca T d) (S : md_S) (p1 : Int32) (F : (md_S × Int32) → Prop) (h : dc_wp (mm_trap T S p1) F) : dc_Ci l ⟨"SignalEngineModel", "trap", "(I)I"⟩ prog_15_method_47_code 4 (some (.int)) (d + 1 + 306) (26 * (d + 1) + 6729) D (md_T ca) ad de [.ref o, .int p1] (md_W o a ca S) (fun r w => ∃ q, F q ∧ r = q.2 ∧ w = md_W o a ca q.1) 0 0 := by
  refine dc_enteri (by decide +kernel) (Nat.le_of_ble_eq_true rfl) ?_
  intro X hC hR
  have lab_117 : ∀ (S : md_S) (x1 : Int32) (x2 : Int32) (y0 : Int32), dc_wp (mm_trap_L117 T S x1 x2 y0) F → dc_G X l { frames := d + 1 + 306, cells := 0, slots := 0, locals := 26 * (d + 1) + 6729 } D 4 0 0 (md_W o a ca S) 117 [(0, .ref o), (1, .int x1), (2, .int x2)] [.int y0] := by
    intro S x1 x2 y0 h
    delta mm_trap_L117 at h
    refine dc_istoren (pc := 117) (j := 3) (i := 3) (lv' := [(3, .int y0), (0, .ref o), (1, .int x1), (2, .int x2)]) hC rfl (Nat.le_of_ble_eq_true rfl) rfl (show decode prog_15_method_47_code 117 = .ok (.istore_n 3, 1) by decide +kernel) ?_
    refine dc_aloadn (pc := 118) (j := 0) (i := 0) hC 1 rfl rfl (show decode prog_15_method_47_code 118 = .ok (.aload_n 0, 1) by decide +kernel) ?_
    refine dc_ldc2 (pc := 119) (v := 6647396) hC w_1960 (show decode prog_15_method_47_code 119 = .ok (.ldc2_w 293, 3) by decide +kernel) ?_
    refine mc_Vmv (pc := 122) (As := [.long 6647396]) (rest := []) hC vw_mustWord_468 (mm_mustWord_ok l D ad de o a ca S 6647396) (by omega) (by omega) rfl (Nat.le_of_ble_eq_true rfl) (show decode prog_15_method_47_code 122 = .ok (.invokevirtual 468, 3) by decide +kernel) h ?_
    intro q1 h
    refine dc_aloadn (pc := 125) (j := 0) (i := 0) hC 1 rfl rfl (show decode prog_15_method_47_code 125 = .ok (.aload_n 0, 1) by decide +kernel) ?_
    refine dc_dup (pc := 126) hC (show decode prog_15_method_47_code 126 = .ok (.dup, 1) by decide +kernel) rfl ?_
    refine md_g19 (pc := 127) hC (show decode prog_15_method_47_code 127 = .ok (.getfield 465, 3) by decide +kernel) ?_
    refine dc_iconst (pc := 130) (v := 1) hC (show decode prog_15_method_47_code 130 = .ok (.iconst 1, 1) by decide +kernel) (by decide +kernel) ?_
    refine dc_isub (pc := 131) hC (show decode prog_15_method_47_code 131 = .ok (.isub, 1) by decide +kernel) ?_
    refine md_p19 (pc := 132) hC (show decode prog_15_method_47_code 132 = .ok (.putfield 465, 3) by decide +kernel) ?_
    refine dc_letS h ?_
    intro S2 h
    refine dc_aloadn (pc := 135) (j := 0) (i := 0) hC 1 rfl rfl (show decode prog_15_method_47_code 135 = .ok (.aload_n 0, 1) by decide +kernel) ?_
    refine dc_aloadn (pc := 136) (j := 0) (i := 0) hC 1 rfl rfl (show decode prog_15_method_47_code 136 = .ok (.aload_n 0, 1) by decide +kernel) ?_
    refine md_g29 (pc := 137) hC (show decode prog_15_method_47_code 137 = .ok (.getfield 389, 3) by decide +kernel) ?_
    refine mc_Spi (pc := 140) (As := [.int (S2.1 29)]) (rest := [.ref o]) hC vs_caught_458 (mm_caught_ok l D ad de (md_W o a ca S2) (md_T ca) (S2.1 29)) (by omega) (by omega) rfl (Nat.le_of_ble_eq_true rfl) (show decode prog_15_method_47_code 140 = .ok (.invokestatic 458, 3) by decide +kernel) h ?_
    intro q3 h
    refine md_p29 (pc := 143) hC (show decode prog_15_method_47_code 143 = .ok (.putfield 389, 3) by decide +kernel) ?_
    refine dc_letS h ?_
    intro S4 h
    refine dc_aloadn (pc := 146) (j := 0) (i := 0) hC 1 rfl rfl (show decode prog_15_method_47_code 146 = .ok (.aload_n 0, 1) by decide +kernel) ?_
    refine dc_bipush (pc := 147) (v := 8) hC (show decode prog_15_method_47_code 147 = .ok (.bipush 8, 2) by decide +kernel) (by decide +kernel) ?_
    refine dc_iloadn (pc := 149) (j := 3) (i := 3) hC 0 rfl rfl (show decode prog_15_method_47_code 149 = .ok (.iload_n 3, 1) by decide +kernel) ?_
    refine dc_iconst (pc := 150) (v := (-1)) hC (show decode prog_15_method_47_code 150 = .ok (.iconst (-1), 1) by decide +kernel) (by decide +kernel) ?_
    refine dc_iloadn (pc := 151) (j := 2) (i := 2) hC 3 rfl rfl (show decode prog_15_method_47_code 151 = .ok (.iload_n 2, 1) by decide +kernel) ?_
    refine dc_iloadn (pc := 152) (j := 1) (i := 1) hC 2 rfl rfl (show decode prog_15_method_47_code 152 = .ok (.iload_n 1, 1) by decide +kernel) ?_
    refine dc_iconst (pc := 153) (v := (-1)) hC (show decode prog_15_method_47_code 153 = .ok (.iconst (-1), 1) by decide +kernel) (by decide +kernel) ?_
    refine mc_Vmi (pc := 154) (As := [.int 8, .int y0, .int (-1), .int x2, .int x1, .int (-1)]) (rest := []) hC vw_node_IIIIII_382 (mm_node_IIIIII_ok l D ad de o a ca S4 8 y0 (-1) x2 x1 (-1)) (by omega) (by omega) rfl (Nat.le_of_ble_eq_true rfl) (show decode prog_15_method_47_code 154 = .ok (.invokevirtual 382, 3) by decide +kernel) h ?_
    intro q5 h
    exact dc_iret (pc := 157) hC hR ⟨_, dc_some h, rfl, rfl⟩ (show decode prog_15_method_47_code 157 = .ok (.ireturn, 1) by decide +kernel)
  have lab_16 : ∀ (S : md_S) (x1 : Int32), dc_wp (mm_trap_L16 T S x1) F → dc_G X l { frames := d + 1 + 306, cells := 0, slots := 0, locals := 26 * (d + 1) + 6729 } D 4 0 0 (md_W o a ca S) 16 [(0, .ref o), (1, .int x1)] [] := by
    intro S x1 h
    delta mm_trap_L16 at h
    refine dc_aloadn (pc := 16) (j := 0) (i := 0) hC 0 rfl rfl (show decode prog_15_method_47_code 16 = .ok (.aload_n 0, 1) by decide +kernel) ?_
    refine md_g10 (pc := 17) hC (show decode prog_15_method_47_code 17 = .ok (.getfield 221, 3) by decide +kernel) ?_
    refine dc_if_le (pc := 20) (tgt := 25) hC (show decode prog_15_method_47_code 20 = .ok (.ifCond .le 5, 3) by decide +kernel) (by decide +kernel) h ?_ ?_
    · intro h
      refine dc_iconst (pc := 23) (v := 0) hC (show decode prog_15_method_47_code 23 = .ok (.iconst 0, 1) by decide +kernel) (by decide +kernel) ?_
      exact dc_iret (pc := 24) hC hR ⟨_, dc_some h, rfl, rfl⟩ (show decode prog_15_method_47_code 24 = .ok (.ireturn, 1) by decide +kernel)
    · intro h
      refine dc_aloadn (pc := 25) (j := 0) (i := 0) hC 0 rfl rfl (show decode prog_15_method_47_code 25 = .ok (.aload_n 0, 1) by decide +kernel) ?_
      refine dc_dup (pc := 26) hC (show decode prog_15_method_47_code 26 = .ok (.dup, 1) by decide +kernel) rfl ?_
      refine md_g20 (pc := 27) hC (show decode prog_15_method_47_code 27 = .ok (.getfield 452, 3) by decide +kernel) ?_
      refine dc_iconst (pc := 30) (v := 1) hC (show decode prog_15_method_47_code 30 = .ok (.iconst 1, 1) by decide +kernel) (by decide +kernel) ?_
      refine dc_iadd (pc := 31) hC (show decode prog_15_method_47_code 31 = .ok (.iadd, 1) by decide +kernel) ?_
      refine md_p20 (pc := 32) hC (show decode prog_15_method_47_code 32 = .ok (.putfield 452, 3) by decide +kernel) ?_
      refine dc_letS h ?_
      intro S6 h
      refine dc_aloadn (pc := 35) (j := 0) (i := 0) hC 0 rfl rfl (show decode prog_15_method_47_code 35 = .ok (.aload_n 0, 1) by decide +kernel) ?_
      refine md_g20 (pc := 36) hC (show decode prog_15_method_47_code 36 = .ok (.getfield 452, 3) by decide +kernel) ?_
      refine dc_letI h ?_
      intro v7 h
      refine dc_istoren (pc := 39) (j := 2) (i := 2) (lv' := [(2, .int v7), (0, .ref o), (1, .int x1)]) hC rfl (Nat.le_of_ble_eq_true rfl) rfl (show decode prog_15_method_47_code 39 = .ok (.istore_n 2, 1) by decide +kernel) ?_
      refine dc_aloadn (pc := 40) (j := 0) (i := 0) hC 1 rfl rfl (show decode prog_15_method_47_code 40 = .ok (.aload_n 0, 1) by decide +kernel) ?_
      refine md_g24 (pc := 41) hC (show decode prog_15_method_47_code 41 = .ok (.getfield 24, 3) by decide +kernel) ?_
      refine dc_aloadn (pc := 44) (j := 0) (i := 0) hC 1 rfl rfl (show decode prog_15_method_47_code 44 = .ok (.aload_n 0, 1) by decide +kernel) ?_
      refine md_g19 (pc := 45) hC (show decode prog_15_method_47_code 45 = .ok (.getfield 465, 3) by decide +kernel) ?_
      refine dc_aloadn (pc := 48) (j := 0) (i := 0) hC 1 rfl rfl (show decode prog_15_method_47_code 48 = .ok (.aload_n 0, 1) by decide +kernel) ?_
      refine md_g7 (pc := 49) hC (show decode prog_15_method_47_code 49 = .ok (.getfield 234, 3) by decide +kernel) ?_
      refine md_s24 (pc := 52) hC (show decode prog_15_method_47_code 52 = .ok (.iastore, 1) by decide +kernel) h ?_
      intro j8 h
      refine dc_letS h ?_
      intro S9 h
      refine dc_aloadn (pc := 53) (j := 0) (i := 0) hC 1 rfl rfl (show decode prog_15_method_47_code 53 = .ok (.aload_n 0, 1) by decide +kernel) ?_
      refine md_g25 (pc := 54) hC (show decode prog_15_method_47_code 54 = .ok (.getfield 27, 3) by decide +kernel) ?_
      refine dc_aloadn (pc := 57) (j := 0) (i := 0) hC 1 rfl rfl (show decode prog_15_method_47_code 57 = .ok (.aload_n 0, 1) by decide +kernel) ?_
      refine md_g19 (pc := 58) hC (show decode prog_15_method_47_code 58 = .ok (.getfield 465, 3) by decide +kernel) ?_
      refine dc_aloadn (pc := 61) (j := 0) (i := 0) hC 1 rfl rfl (show decode prog_15_method_47_code 61 = .ok (.aload_n 0, 1) by decide +kernel) ?_
      refine md_g4 (pc := 62) hC (show decode prog_15_method_47_code 62 = .ok (.getfield 224, 3) by decide +kernel) ?_
      refine dc_aloadn (pc := 65) (j := 0) (i := 0) hC 1 rfl rfl (show decode prog_15_method_47_code 65 = .ok (.aload_n 0, 1) by decide +kernel) ?_
      refine md_g7 (pc := 66) hC (show decode prog_15_method_47_code 66 = .ok (.getfield 234, 3) by decide +kernel) ?_
      refine dc_isub (pc := 69) hC (show decode prog_15_method_47_code 69 = .ok (.isub, 1) by decide +kernel) ?_
      refine md_s25 (pc := 70) hC (show decode prog_15_method_47_code 70 = .ok (.iastore, 1) by decide +kernel) h ?_
      intro j10 h
      refine dc_letS h ?_
      intro S11 h
      refine dc_aloadn (pc := 71) (j := 0) (i := 0) hC 1 rfl rfl (show decode prog_15_method_47_code 71 = .ok (.aload_n 0, 1) by decide +kernel) ?_
      refine md_g26 (pc := 72) hC (show decode prog_15_method_47_code 72 = .ok (.getfield 30, 3) by decide +kernel) ?_
      refine dc_aloadn (pc := 75) (j := 0) (i := 0) hC 1 rfl rfl (show decode prog_15_method_47_code 75 = .ok (.aload_n 0, 1) by decide +kernel) ?_
      refine md_g19 (pc := 76) hC (show decode prog_15_method_47_code 76 = .ok (.getfield 465, 3) by decide +kernel) ?_
      refine dc_iloadn (pc := 79) (j := 2) (i := 2) hC 0 rfl rfl (show decode prog_15_method_47_code 79 = .ok (.iload_n 2, 1) by decide +kernel) ?_
      refine md_s26 (pc := 80) hC (show decode prog_15_method_47_code 80 = .ok (.iastore, 1) by decide +kernel) h ?_
      intro j12 h
      refine dc_letS h ?_
      intro S13 h
      refine dc_aloadn (pc := 81) (j := 0) (i := 0) hC 1 rfl rfl (show decode prog_15_method_47_code 81 = .ok (.aload_n 0, 1) by decide +kernel) ?_
      refine dc_dup (pc := 82) hC (show decode prog_15_method_47_code 82 = .ok (.dup, 1) by decide +kernel) rfl ?_
      refine md_g19 (pc := 83) hC (show decode prog_15_method_47_code 83 = .ok (.getfield 465, 3) by decide +kernel) ?_
      refine dc_iconst (pc := 86) (v := 1) hC (show decode prog_15_method_47_code 86 = .ok (.iconst 1, 1) by decide +kernel) (by decide +kernel) ?_
      refine dc_iadd (pc := 87) hC (show decode prog_15_method_47_code 87 = .ok (.iadd, 1) by decide +kernel) ?_
      refine md_p19 (pc := 88) hC (show decode prog_15_method_47_code 88 = .ok (.putfield 465, 3) by decide +kernel) ?_
      refine dc_letS h ?_
      intro S14 h
      refine dc_aloadn (pc := 91) (j := 0) (i := 0) hC 1 rfl rfl (show decode prog_15_method_47_code 91 = .ok (.aload_n 0, 1) by decide +kernel) ?_
      refine mc_Vmv (pc := 92) (As := []) (rest := []) hC vw_advance_258 (mm_advance_ok l D ad de o a ca S14) (by omega) (by omega) rfl (Nat.le_of_ble_eq_true rfl) (show decode prog_15_method_47_code 92 = .ok (.invokevirtual 258, 3) by decide +kernel) h ?_
      intro q15 h
      refine dc_aloadn (pc := 95) (j := 0) (i := 0) hC 1 rfl rfl (show decode prog_15_method_47_code 95 = .ok (.aload_n 0, 1) by decide +kernel) ?_
      refine dc_ldc2 (pc := 96) (v := 26990) hC w_1929 (show decode prog_15_method_47_code 96 = .ok (.ldc2_w 271, 3) by decide +kernel) ?_
      refine mc_Vmv (pc := 99) (As := [.long 26990]) (rest := []) hC vw_mustWord_468 (mm_mustWord_ok l D ad de o a ca q15 26990) (by omega) (by omega) rfl (Nat.le_of_ble_eq_true rfl) (show decode prog_15_method_47_code 99 = .ok (.invokevirtual 468, 3) by decide +kernel) h ?_
      intro q16 h
      refine dc_aloadn (pc := 102) (j := 0) (i := 0) hC 1 rfl rfl (show decode prog_15_method_47_code 102 = .ok (.aload_n 0, 1) by decide +kernel) ?_
      refine md_g10 (pc := 103) hC (show decode prog_15_method_47_code 103 = .ok (.getfield 221, 3) by decide +kernel) ?_
      refine dc_if_le (pc := 106) (tgt := 113) hC (show decode prog_15_method_47_code 106 = .ok (.ifCond .le 7, 3) by decide +kernel) (by decide +kernel) h ?_ ?_
      · intro h
        refine dc_iconst (pc := 109) (v := 0) hC (show decode prog_15_method_47_code 109 = .ok (.iconst 0, 1) by decide +kernel) (by decide +kernel) ?_
        refine dc_goto (pc := 110) (tgt := 117) hC (show decode prog_15_method_47_code 110 = .ok (.goto 7, 3) by decide +kernel) (by decide +kernel) ?_
        exact dc_sub [1, 2, 0] rfl (lab_117 q16 x1 v7 0 h)
      · intro h
        refine dc_aloadn (pc := 113) (j := 0) (i := 0) hC 1 rfl rfl (show decode prog_15_method_47_code 113 = .ok (.aload_n 0, 1) by decide +kernel) ?_
        refine mc_Vmi (pc := 114) (As := []) (rest := []) hC vw_body_449 (hT.1 q16) (by omega) (by omega) rfl (Nat.le_of_ble_eq_true rfl) (show decode prog_15_method_47_code 114 = .ok (.invokevirtual 449, 3) by decide +kernel) h ?_
        intro q17 h
        exact dc_sub [1, 2, 0] rfl (lab_117 q17.1 x1 v7 q17.2 h)
  show dc_G X l { frames := d + 1 + 306, cells := 0, slots := 0, locals := 26 * (d + 1) + 6729 } D 4 0 0 (md_W o a ca S) 0 [(0, .ref o), (1, .int p1)] []
  delta mm_trap at h
  refine dc_aloadn (pc := 0) (j := 0) (i := 0) hC 0 rfl rfl (show decode prog_15_method_47_code 0 = .ok (.aload_n 0, 1) by decide +kernel) ?_
  refine mc_Vpi (pc := 1) (As := []) (rest := []) hC vw_isName_337 (mm_isName_ok l D ad de o a ca S) (by omega) (by omega) rfl (Nat.le_of_ble_eq_true rfl) (show decode prog_15_method_47_code 1 = .ok (.invokevirtual 337, 3) by decide +kernel) h ?_
  intro q18 h
  refine dc_if_ne (pc := 4) (tgt := 16) hC (show decode prog_15_method_47_code 4 = .ok (.ifCond .ne 12, 3) by decide +kernel) (by decide +kernel) h ?_ ?_
  · intro h
    refine dc_aloadn (pc := 7) (j := 0) (i := 0) hC 0 rfl rfl (show decode prog_15_method_47_code 7 = .ok (.aload_n 0, 1) by decide +kernel) ?_
    refine dc_iconst (pc := 8) (v := 1) hC (show decode prog_15_method_47_code 8 = .ok (.iconst 1, 1) by decide +kernel) (by decide +kernel) ?_
    refine dc_aloadn (pc := 9) (j := 0) (i := 0) hC 0 rfl rfl (show decode prog_15_method_47_code 9 = .ok (.aload_n 0, 1) by decide +kernel) ?_
    refine md_g8 (pc := 10) hC (show decode prog_15_method_47_code 10 = .ok (.getfield 237, 3) by decide +kernel) ?_
    refine mc_Vmv (pc := 13) (As := [.int 1, .int (S.1 8)]) (rest := []) hC vw_fail_267 (mm_fail_ok l D ad de o a ca S 1 (S.1 8)) (by omega) (by omega) rfl (Nat.le_of_ble_eq_true rfl) (show decode prog_15_method_47_code 13 = .ok (.invokevirtual 267, 3) by decide +kernel) h ?_
    intro q19 h
    exact lab_16 q19 p1 h
  · intro h
    exact lab_16 S p1 h
