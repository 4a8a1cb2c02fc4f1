noncomputable def mm_locals_L97 (T : mm_T2) (S : md_S) (x5 : Int32) : Option (md_S × Int32) :=
  some (S, x5)
noncomputable def mm_locals_b63 (T : mm_T2) (S : md_S) (x1 : Int32) (x3 : Int32) (x5 : Int32) (x6 : Int32) : Option ((md_S × Int32 × Int32) ⊕ ((md_S × Int32))) :=
  if x6 < x3 then (some (.inr (S, x5))) else (if (S.1 10) = 0 then ((mm_node_IIIIII S 10 x5 (-1) x6 x1 (-1)).bind fun q1 => some (.inl (q1.1, q1.2, (x6 + (-1))))) else (some (.inr (S, x5))))
noncomputable def mm_locals_s63 (T : mm_T2) (x1 : Int32) (x3 : Int32) (q : md_S × Int32 × Int32) : Option ((md_S × Int32 × Int32) ⊕ ((md_S × Int32))) :=
  mm_locals_b63 T q.1 x1 x3 q.2.1 q.2.2
noncomputable def mm_locals_L63 (T : mm_T2) (S : md_S) (x1 : Int32) (x3 : Int32) (x5 : Int32) (x6 : Int32) : Option (md_S × Int32) :=
  (dc_it (mm_locals_s63 T x1 x3) (S, x5, x6)).bind (fun (z : md_S × Int32) => mm_locals_L97 T z.1 z.2)
noncomputable def mm_locals_L43 (T : mm_T2) (S : md_S) (x1 : Int32) (x2 : Int32) (x3 : Int32) (x4 : Int32) (y0 : Int32) : Option (md_S × Int32) :=
  (mm_mustWord S 6647396).bind fun q2 => dc_let (md_i q2 18 x2) fun S3 => dc_let ((x4 - 1) : Int32) fun v4 => mm_locals_L63 T S3 x1 x3 y0 v4
noncomputable def mm_locals (T : mm_T2) (S : md_S) (p1 : Int32) : Option (md_S × Int32) :=
  dc_let ((S.1 18) : Int32) fun v5 => dc_let ((S.1 15) : Int32) fun v6 => (mm_list S v5).bind fun q7 => (mm_mustWord q7 26990).bind fun q8 => dc_let ((q8.1 15) : Int32) fun v9 => if (0 : Int32) < (q8.1 10) then (mm_locals_L43 T q8 p1 v5 v6 v9 0) else ((T.1 q8).bind fun q10 => mm_locals_L43 T q10.1 p1 v5 v6 v9 q10.2)
set_option maxHeartbeats 4000000 in
set_option maxRecDepth 100000 in
/-- locals(I)I -/
theorem mm_locals_ok (l : Launch) (D : va_G) (ad : Nat → Nat) (de : Nat) (o : Nat) (a : Nat → Nat) (ca : Nat → ClassId) (T : mm_T2) (d : Nat) (hT : mm_OK2 l D ad de o a ca T d) (S : md_S) (p1 : Int32) (F : (md_S × Int32) → Prop) (h : dc_wp (mm_locals T S p1) F) : dc_Ci l ⟨"SignalEngineModel", "locals", "(I)I"⟩ prog_15_method_48_code 7 (some (.int)) (d + 1 + 306) (26 * (d + 1) + 6729) D (md_T ca) ad de [.ref o, .int p1] (md_W o a ca S) (fun r w => ∃ q, F q ∧ r = q.2 ∧ w = md_W o a ca q.1) 0 0 := by
  refine dc_enteri (by decide +kernel) (Nat.le_of_ble_eq_true rfl) ?_
  intro X hC hR
  have lab_97 : ∀ (S : md_S) (x5 : Int32), dc_wp (mm_locals_L97 T S x5) F → dc_G X l { frames := d + 1 + 306, cells := 0, slots := 0, locals := 26 * (d + 1) + 6729 } D 7 0 0 (md_W o a ca S) 97 [(0, .ref o), (5, .int x5)] [] := by
    intro S x5 h
    delta mm_locals_L97 at h
    refine dc_iload (pc := 97) (i := 5) hC 1 rfl (show decode prog_15_method_48_code 97 = .ok (.iload 5, 2) by decide +kernel) ?_
    exact dc_iret (pc := 99) hC hR ⟨_, dc_some h, rfl, rfl⟩ (show decode prog_15_method_48_code 99 = .ok (.ireturn, 1) by decide +kernel)
  have loop_63 : ∀ (x1 : Int32) (x3 : Int32) (q : md_S × Int32 × Int32), dc_wp (dc_it (mm_locals_s63 T x1 x3) q) (fun z => dc_wp ((fun (z : md_S × Int32) => mm_locals_L97 T z.1 z.2) z) F) → dc_G X l { frames := d + 1 + 306, cells := 0, slots := 0, locals := 26 * (d + 1) + 6729 } D 7 0 0 (md_W o a ca q.1) 63 [(0, .ref o), (1, .int x1), (3, .int x3), (5, .int q.2.1), (6, .int q.2.2)] [] := by
    intro x1 x3
    refine dc_loopF ?_
    intro F_63 hl_63 hr_63
    rintro ⟨S, x5, x6⟩ h
    have h : dc_wp (mm_locals_b63 T S x1 x3 x5 x6) F_63 := h
    delta mm_locals_b63 at h
    refine dc_iload (pc := 63) (i := 6) hC 4 rfl (show decode prog_15_method_48_code 63 = .ok (.iload 6, 2) by decide +kernel) ?_
    refine dc_iloadn (pc := 65) (j := 3) (i := 3) hC 2 rfl rfl (show decode prog_15_method_48_code 65 = .ok (.iload_n 3, 1) by decide +kernel) ?_
    refine dc_icmp_lt (pc := 66) (tgt := 97) hC (show decode prog_15_method_48_code 66 = .ok (.if_icmp .lt 31, 3) by decide +kernel) (by decide +kernel) h ?_ ?_
    · intro h
      have h : dc_wp (mm_locals_L97 T S x5) F := hr_63 (S, x5) (dc_some h)
      exact dc_sub [0, 3] rfl (lab_97 S x5 h)
    · intro h
      refine dc_aloadn (pc := 69) (j := 0) (i := 0) hC 0 rfl rfl (show decode prog_15_method_48_code 69 = .ok (.aload_n 0, 1) by decide +kernel) ?_
      refine md_g10 (pc := 70) hC (show decode prog_15_method_48_code 70 = .ok (.getfield 221, 3) by decide +kernel) ?_
      refine dc_if_ne (pc := 73) (tgt := 97) hC (show decode prog_15_method_48_code 73 = .ok (.ifCond .ne 24, 3) by decide +kernel) (by decide +kernel) h ?_ ?_
      · intro h
        refine dc_aloadn (pc := 76) (j := 0) (i := 0) hC 0 rfl rfl (show decode prog_15_method_48_code 76 = .ok (.aload_n 0, 1) by decide +kernel) ?_
        refine dc_bipush (pc := 77) (v := 10) hC (show decode prog_15_method_48_code 77 = .ok (.bipush 10, 2) by decide +kernel) (by decide +kernel) ?_
        refine dc_iload (pc := 79) (i := 5) hC 3 rfl (show decode prog_15_method_48_code 79 = .ok (.iload 5, 2) by decide +kernel) ?_
        refine dc_iconst (pc := 81) (v := (-1)) hC (show decode prog_15_method_48_code 81 = .ok (.iconst (-1), 1) by decide +kernel) (by decide +kernel) ?_
        refine dc_iload (pc := 82) (i := 6) hC 4 rfl (show decode prog_15_method_48_code 82 = .ok (.iload 6, 2) by decide +kernel) ?_
        refine dc_iloadn (pc := 84) (j := 1) (i := 1) hC 1 rfl rfl (show decode prog_15_method_48_code 84 = .ok (.iload_n 1, 1) by decide +kernel) ?_
        refine dc_iconst (pc := 85) (v := (-1)) hC (show decode prog_15_method_48_code 85 = .ok (.iconst (-1), 1) by decide +kernel) (by decide +kernel) ?_
        refine mc_Vmi (pc := 86) (As := [.int 10, .int x5, .int (-1), .int x6, .int x1, .int (-1)]) (rest := []) hC vw_node_IIIIII_382 (mm_node_IIIIII_ok l D ad de o a ca S 10 x5 (-1) x6 x1 (-1)) (by omega) (by omega) rfl (Nat.le_of_ble_eq_true rfl) (show decode prog_15_method_48_code 86 = .ok (.invokevirtual 382, 3) by decide +kernel) h ?_
        intro q1 h
        refine dc_istore (pc := 89) (i := 5) (lv' := [(5, .int q1.2), (0, .ref o), (1, .int x1), (3, .int x3), (6, .int x6)]) hC (Nat.le_of_ble_eq_true rfl) rfl (show decode prog_15_method_48_code 89 = .ok (.istore 5, 2) by decide +kernel) ?_
        refine dc_iinc (pc := 91) (i := 6) (v := (x6 + (-1))) (lv' := [(6, .int (x6 + (-1))), (5, .int q1.2), (0, .ref o), (1, .int x1), (3, .int x3)]) hC 4 rfl (congrArg (fun z => x6 + z) (show Int32.ofInt (-1) = (-1 : Int32) by decide +kernel)) (Nat.le_of_ble_eq_true rfl) rfl (show decode prog_15_method_48_code 91 = .ok (.iinc 6 (-1), 3) by decide +kernel) ?_
        refine dc_goto (pc := 94) (tgt := 63) hC (show decode prog_15_method_48_code 94 = .ok (.goto (-31), 3) by decide +kernel) (by decide +kernel) ?_
        exact dc_sub [2, 3, 4, 1, 0] rfl (hl_63 (q1.1, q1.2, (x6 + (-1))) (dc_some h))
      · intro h
        have h : dc_wp (mm_locals_L97 T S x5) F := hr_63 (S, x5) (dc_some h)
        exact dc_sub [0, 3] rfl (lab_97 S x5 h)
  have lab_63 : ∀ (S : md_S) (x1 : Int32) (x3 : Int32) (x5 : Int32) (x6 : Int32), dc_wp (mm_locals_L63 T S x1 x3 x5 x6) F → dc_G X l { frames := d + 1 + 306, cells := 0, slots := 0, locals := 26 * (d + 1) + 6729 } D 7 0 0 (md_W o a ca S) 63 [(0, .ref o), (1, .int x1), (3, .int x3), (5, .int x5), (6, .int x6)] [] := fun S x1 x3 x5 x6 h => loop_63 x1 x3 (S, x5, x6) (dc_bind h)
  have lab_43 : ∀ (S : md_S) (x1 : Int32) (x2 : Int32) (x3 : Int32) (x4 : Int32) (y0 : Int32), dc_wp (mm_locals_L43 T S x1 x2 x3 x4 y0) F → dc_G X l { frames := d + 1 + 306, cells := 0, slots := 0, locals := 26 * (d + 1) + 6729 } D 7 0 0 (md_W o a ca S) 43 [(0, .ref o), (1, .int x1), (2, .int x2), (3, .int x3), (4, .int x4)] [.int y0] := by
    intro S x1 x2 x3 x4 y0 h
    delta mm_locals_L43 at h
    refine dc_istore (pc := 43) (i := 5) (lv' := [(5, .int y0), (0, .ref o), (1, .int x1), (2, .int x2), (3, .int x3), (4, .int x4)]) hC (Nat.le_of_ble_eq_true rfl) rfl (show decode prog_15_method_48_code 43 = .ok (.istore 5, 2) by decide +kernel) ?_
    refine dc_aloadn (pc := 45) (j := 0) (i := 0) hC 1 rfl rfl (show decode prog_15_method_48_code 45 = .ok (.aload_n 0, 1) by decide +kernel) ?_
    refine dc_ldc2 (pc := 46) (v := 6647396) hC w_1960 (show decode prog_15_method_48_code 46 = .ok (.ldc2_w 293, 3) by decide +kernel) ?_
    refine mc_Vmv (pc := 49) (As := [.long 6647396]) (rest := []) hC vw_mustWord_468 (mm_mustWord_ok l D ad de o a ca S 6647396) (by omega) (by omega) rfl (Nat.le_of_ble_eq_true rfl) (show decode prog_15_method_48_code 49 = .ok (.invokevirtual 468, 3) by decide +kernel) h ?_
    intro q2 h
    refine dc_aloadn (pc := 52) (j := 0) (i := 0) hC 1 rfl rfl (show decode prog_15_method_48_code 52 = .ok (.aload_n 0, 1) by decide +kernel) ?_
    refine dc_iloadn (pc := 53) (j := 2) (i := 2) hC 3 rfl rfl (show decode prog_15_method_48_code 53 = .ok (.iload_n 2, 1) by decide +kernel) ?_
    refine md_p18 (pc := 54) hC (show decode prog_15_method_48_code 54 = .ok (.putfield 327, 3) by decide +kernel) ?_
    refine dc_letS h ?_
    intro S3 h
    refine dc_iload (pc := 57) (i := 4) hC 5 rfl (show decode prog_15_method_48_code 57 = .ok (.iload 4, 2) by decide +kernel) ?_
    refine dc_iconst (pc := 59) (v := 1) hC (show decode prog_15_method_48_code 59 = .ok (.iconst 1, 1) by decide +kernel) (by decide +kernel) ?_
    refine dc_isub (pc := 60) hC (show decode prog_15_method_48_code 60 = .ok (.isub, 1) by decide +kernel) ?_
    refine dc_letI h ?_
    intro v4 h
    refine dc_istore (pc := 61) (i := 6) (lv' := [(6, .int v4), (5, .int y0), (0, .ref o), (1, .int x1), (2, .int x2), (3, .int x3), (4, .int x4)]) hC (Nat.le_of_ble_eq_true rfl) rfl (show decode prog_15_method_48_code 61 = .ok (.istore 6, 2) by decide +kernel) ?_
    exact dc_sub [2, 3, 5, 1, 0] rfl (lab_63 S3 x1 x3 y0 v4 h)
  show dc_G X l { frames := d + 1 + 306, cells := 0, slots := 0, locals := 26 * (d + 1) + 6729 } D 7 0 0 (md_W o a ca S) 0 [(0, .ref o), (1, .int p1)] []
  delta mm_locals at h
  refine dc_aloadn (pc := 0) (j := 0) (i := 0) hC 0 rfl rfl (show decode prog_15_method_48_code 0 = .ok (.aload_n 0, 1) by decide +kernel) ?_
  refine md_g18 (pc := 1) hC (show decode prog_15_method_48_code 1 = .ok (.getfield 327, 3) by decide +kernel) ?_
  refine dc_letI h ?_
  intro v5 h
  refine dc_istoren (pc := 4) (j := 2) (i := 2) (lv' := [(2, .int v5), (0, .ref o), (1, .int p1)]) hC rfl (Nat.le_of_ble_eq_true rfl) rfl (show decode prog_15_method_48_code 4 = .ok (.istore_n 2, 1) by decide +kernel) ?_
  refine dc_aloadn (pc := 5) (j := 0) (i := 0) hC 1 rfl rfl (show decode prog_15_method_48_code 5 = .ok (.aload_n 0, 1) by decide +kernel) ?_
  refine md_g15 (pc := 6) hC (show decode prog_15_method_48_code 6 = .ok (.getfield 343, 3) by decide +kernel) ?_
  refine dc_letI h ?_
  intro v6 h
  refine dc_istoren (pc := 9) (j := 3) (i := 3) (lv' := [(3, .int v6), (2, .int v5), (0, .ref o), (1, .int p1)]) hC rfl (Nat.le_of_ble_eq_true rfl) rfl (show decode prog_15_method_48_code 9 = .ok (.istore_n 3, 1) by decide +kernel) ?_
  refine dc_aloadn (pc := 10) (j := 0) (i := 0) hC 2 rfl rfl (show decode prog_15_method_48_code 10 = .ok (.aload_n 0, 1) by decide +kernel) ?_
  refine dc_iloadn (pc := 11) (j := 2) (i := 2) hC 1 rfl rfl (show decode prog_15_method_48_code 11 = .ok (.iload_n 2, 1) by decide +kernel) ?_
  refine mc_Vmv (pc := 12) (As := [.int v5]) (rest := []) hC vw_list_482 (mm_list_ok l D ad de o a ca S v5) (by omega) (by omega) rfl (Nat.le_of_ble_eq_true rfl) (show decode prog_15_method_48_code 12 = .ok (.invokevirtual 482, 3) by decide +kernel) h ?_
  intro q7 h
  refine dc_aloadn (pc := 15) (j := 0) (i := 0) hC 2 rfl rfl (show decode prog_15_method_48_code 15 = .ok (.aload_n 0, 1) by decide +kernel) ?_
  refine dc_ldc2 (pc := 16) (v := 26990) hC w_1929 (show decode prog_15_method_48_code 16 = .ok (.ldc2_w 271, 3) by decide +kernel) ?_
  refine mc_Vmv (pc := 19) (As := [.long 26990]) (rest := []) hC vw_mustWord_468 (mm_mustWord_ok l D ad de o a ca q7 26990) (by omega) (by omega) rfl (Nat.le_of_ble_eq_true rfl) (show decode prog_15_method_48_code 19 = .ok (.invokevirtual 468, 3) by decide +kernel) h ?_
  intro q8 h
  refine dc_aloadn (pc := 22) (j := 0) (i := 0) hC 2 rfl rfl (show decode prog_15_method_48_code 22 = .ok (.aload_n 0, 1) by decide +kernel) ?_
  refine md_g15 (pc := 23) hC (show decode prog_15_method_48_code 23 = .ok (.getfield 343, 3) by decide +kernel) ?_
  refine dc_letI h ?_
  intro v9 h
  refine dc_istore (pc := 26) (i := 4) (lv' := [(4, .int v9), (3, .int v6), (2, .int v5), (0, .ref o), (1, .int p1)]) hC (Nat.le_of_ble_eq_true rfl) rfl (show decode prog_15_method_48_code 26 = .ok (.istore 4, 2) by decide +kernel) ?_
  refine dc_aloadn (pc := 28) (j := 0) (i := 0) hC 3 rfl rfl (show decode prog_15_method_48_code 28 = .ok (.aload_n 0, 1) by decide +kernel) ?_
  refine md_g10 (pc := 29) hC (show decode prog_15_method_48_code 29 = .ok (.getfield 221, 3) by decide +kernel) ?_
  refine dc_if_le (pc := 32) (tgt := 39) hC (show decode prog_15_method_48_code 32 = .ok (.ifCond .le 7, 3) by decide +kernel) (by decide +kernel) h ?_ ?_
  · intro h
    refine dc_iconst (pc := 35) (v := 0) hC (show decode prog_15_method_48_code 35 = .ok (.iconst 0, 1) by decide +kernel) (by decide +kernel) ?_
    refine dc_goto (pc := 36) (tgt := 43) hC (show decode prog_15_method_48_code 36 = .ok (.goto 7, 3) by decide +kernel) (by decide +kernel) ?_
    exact dc_sub [3, 4, 2, 1, 0] rfl (lab_43 q8 p1 v5 v6 v9 0 h)
  · intro h
    refine dc_aloadn (pc := 39) (j := 0) (i := 0) hC 3 rfl rfl (show decode prog_15_method_48_code 39 = .ok (.aload_n 0, 1) by decide +kernel) ?_
    refine mc_Vmi (pc := 40) (As := []) (rest := []) hC vw_body_449 (hT.1 q8) (by omega) (by omega) rfl (Nat.le_of_ble_eq_true rfl) (show decode prog_15_method_48_code 40 = .ok (.invokevirtual 449, 3) by decide +kernel) h ?_
    intro q10 h
    exact dc_sub [3, 4, 2, 1, 0] rfl (lab_43 q10.1 p1 v5 v6 v9 q10.2 h)
noncomputable def mm_abort_L33 (T : mm_T2) (S : md_S) (x1 : Int32) (x2 : Int32) (x3 : Int32) (x4 : Int32) (y0 : Int32) : Option (md_S × Int32) :=
  (mm_mustWord S 6647396).bind fun q1 => (mm_aborted q1 x1 x3 y0 x2 x4).bind fun q2 => some (q2.1, q2.2)
noncomputable def mm_abort (T : mm_T2) (S : md_S) (p1 : Int32) (p2 : Int32) : Option (md_S × Int32) :=
  (T.1 S).bind fun q3 => dc_let ((q3.1.1 29) : Int32) fun v4 => (mm_mustWord q3.1 2003330414).bind fun q5 => if (0 : Int32) < (q5.1 10) then (mm_abort_L33 T q5 p1 p2 q3.2 v4 0) else ((mm_asked_r q5).bind fun q6 => mm_abort_L33 T q6.1 p1 p2 q3.2 v4 q6.2)
set_option maxHeartbeats 4000000 in
set_option maxRecDepth 100000 in
/-- abort(IZ)I -/
theorem mm_abort_ok (l : Launch) (D : va_G) (ad : Nat → Nat) (de : Nat) (o : Nat) (a : Nat → Nat) (ca : Nat → ClassId) (T : mm_T2) (d : Nat) (hT : mm_OK2 l D ad de o a ca T d) (S : md_S) (p1 : Int32) (p2 : Int32) (F : (md_S × Int32) → Prop) (h : dc_wp (mm_abort T S p1 p2) F) : dc_Ci l ⟨"SignalEngineModel", "abort", "(IZ)I"⟩ prog_15_method_49_code 6 (some (.int)) (d + 1 + 306) (26 * (d + 1) + 6729) D (md_T ca) ad de [.ref o, .int p1, .int p2] (md_W o a ca S) (fun r w => ∃ q, F q ∧ r = q.2 ∧ w = md_W o a ca q.1) 0 0 := by
  refine dc_enteri (by decide +kernel) (Nat.le_of_ble_eq_true rfl) ?_
  intro X hC hR
  have lab_33 : ∀ (S : md_S) (x1 : Int32) (x2 : Int32) (x3 : Int32) (x4 : Int32) (y0 : Int32), dc_wp (mm_abort_L33 T S x1 x2 x3 x4 y0) F → dc_G X l { frames := d + 1 + 306, cells := 0, slots := 0, locals := 26 * (d + 1) + 6729 } D 6 0 0 (md_W o a ca S) 33 [(0, .ref o), (1, .int x1), (2, .int x2), (3, .int x3), (4, .int x4)] [.int y0] := by
    intro S x1 x2 x3 x4 y0 h
    delta mm_abort_L33 at h
    refine dc_istore (pc := 33) (i := 5) (lv' := [(5, .int y0), (0, .ref o), (1, .int x1), (2, .int x2), (3, .int x3), (4, .int x4)]) hC (Nat.le_of_ble_eq_true rfl) rfl (show decode prog_15_method_49_code 33 = .ok (.istore 5, 2) by decide +kernel) ?_
    refine dc_aloadn (pc := 35) (j := 0) (i := 0) hC 1 rfl rfl (show decode prog_15_method_49_code 35 = .ok (.aload_n 0, 1) by decide +kernel) ?_
    refine dc_ldc2 (pc := 36) (v := 6647396) hC w_1960 (show decode prog_15_method_49_code 36 = .ok (.ldc2_w 293, 3) by decide +kernel) ?_
    refine mc_Vmv (pc := 39) (As := [.long 6647396]) (rest := []) hC vw_mustWord_468 (mm_mustWord_ok l D ad de o a ca S 6647396) (by omega) (by omega) rfl (Nat.le_of_ble_eq_true rfl) (show decode prog_15_method_49_code 39 = .ok (.invokevirtual 468, 3) by decide +kernel) h ?_
    intro q1 h
    refine dc_aloadn (pc := 42) (j := 0) (i := 0) hC 1 rfl rfl (show decode prog_15_method_49_code 42 = .ok (.aload_n 0, 1) by decide +kernel) ?_
    refine dc_iloadn (pc := 43) (j := 1) (i := 1) hC 2 rfl rfl (show decode prog_15_method_49_code 43 = .ok (.iload_n 1, 1) by decide +kernel) ?_
    refine dc_iloadn (pc := 44) (j := 3) (i := 3) hC 4 rfl rfl (show decode prog_15_method_49_code 44 = .ok (.iload_n 3, 1) by decide +kernel) ?_
    refine dc_iload (pc := 45) (i := 5) hC 0 rfl (show decode prog_15_method_49_code 45 = .ok (.iload 5, 2) by decide +kernel) ?_
    refine dc_iloadn (pc := 47) (j := 2) (i := 2) hC 3 rfl rfl (show decode prog_15_method_49_code 47 = .ok (.iload_n 2, 1) by decide +kernel) ?_
    refine dc_iload (pc := 48) (i := 4) hC 5 rfl (show decode prog_15_method_49_code 48 = .ok (.iload 4, 2) by decide +kernel) ?_
    refine mc_Vmi (pc := 50) (As := [.int x1, .int x3, .int y0, .int x2, .int x4]) (rest := []) hC vw_aborted_461 (mm_aborted_ok l D ad de o a ca q1 x1 x3 y0 x2 x4) (by omega) (by omega) rfl (Nat.le_of_ble_eq_true rfl) (show decode prog_15_method_49_code 50 = .ok (.invokevirtual 461, 3) by decide +kernel) h ?_
    intro q2 h
    exact dc_iret (pc := 53) hC hR ⟨_, dc_some h, rfl, rfl⟩ (show decode prog_15_method_49_code 53 = .ok (.ireturn, 1) by decide +kernel)
  show dc_G X l { frames := d + 1 + 306, cells := 0, slots := 0, locals := 26 * (d + 1) + 6729 } D 6 0 0 (md_W o a ca S) 0 [(0, .ref o), (1, .int p1), (2, .int p2)] []
  delta mm_abort at h
  refine dc_aloadn (pc := 0) (j := 0) (i := 0) hC 0 rfl rfl (show decode prog_15_method_49_code 0 = .ok (.aload_n 0, 1) by decide +kernel) ?_
  refine mc_Vmi (pc := 1) (As := []) (rest := []) hC vw_body_449 (hT.1 S) (by omega) (by omega) rfl (Nat.le_of_ble_eq_true rfl) (show decode prog_15_method_49_code 1 = .ok (.invokevirtual 449, 3) by decide +kernel) h ?_
  intro q3 h
  refine dc_istoren (pc := 4) (j := 3) (i := 3) (lv' := [(3, .int q3.2), (0, .ref o), (1, .int p1), (2, .int p2)]) hC rfl (Nat.le_of_ble_eq_true rfl) rfl (show decode prog_15_method_49_code 4 = .ok (.istore_n 3, 1) by decide +kernel) ?_
  refine dc_aloadn (pc := 5) (j := 0) (i := 0) hC 1 rfl rfl (show decode prog_15_method_49_code 5 = .ok (.aload_n 0, 1) by decide +kernel) ?_
  refine md_g29 (pc := 6) hC (show decode prog_15_method_49_code 6 = .ok (.getfield 389, 3) by decide +kernel) ?_
  refine dc_letI h ?_
  intro v4 h
  refine dc_istore (pc := 9) (i := 4) (lv' := [(4, .int v4), (3, .int q3.2), (0, .ref o), (1, .int p1), (2, .int p2)]) hC (Nat.le_of_ble_eq_true rfl) rfl (show decode prog_15_method_49_code 9 = .ok (.istore 4, 2) by decide +kernel) ?_
  refine dc_aloadn (pc := 11) (j := 0) (i := 0) hC 2 rfl rfl (show decode prog_15_method_49_code 11 = .ok (.aload_n 0, 1) by decide +kernel) ?_
  refine dc_ldc2 (pc := 12) (v := 2003330414) hC w_1962 (show decode prog_15_method_49_code 12 = .ok (.ldc2_w 297, 3) by decide +kernel) ?_
  refine mc_Vmv (pc := 15) (As := [.long 2003330414]) (rest := []) hC vw_mustWord_468 (mm_mustWord_ok l D ad de o a ca q3.1 2003330414) (by omega) (by omega) rfl (Nat.le_of_ble_eq_true rfl) (show decode prog_15_method_49_code 15 = .ok (.invokevirtual 468, 3) by decide +kernel) h ?_
  intro q5 h
  refine dc_aloadn (pc := 18) (j := 0) (i := 0) hC 2 rfl rfl (show decode prog_15_method_49_code 18 = .ok (.aload_n 0, 1) by decide +kernel) ?_
  refine md_g10 (pc := 19) hC (show decode prog_15_method_49_code 19 = .ok (.getfield 221, 3) by decide +kernel) ?_
  refine dc_if_le (pc := 22) (tgt := 29) hC (show decode prog_15_method_49_code 22 = .ok (.ifCond .le 7, 3) by decide +kernel) (by decide +kernel) h ?_ ?_
  · intro h
    refine dc_iconst (pc := 25) (v := 0) hC (show decode prog_15_method_49_code 25 = .ok (.iconst 0, 1) by decide +kernel) (by decide +kernel) ?_
    refine dc_goto (pc := 26) (tgt := 33) hC (show decode prog_15_method_49_code 26 = .ok (.goto 7, 3) by decide +kernel) (by decide +kernel) ?_
    exact dc_sub [2, 3, 4, 1, 0] rfl (lab_33 q5 p1 p2 q3.2 v4 0 h)
  · intro h
    refine dc_aloadn (pc := 29) (j := 0) (i := 0) hC 2 rfl rfl (show decode prog_15_method_49_code 29 = .ok (.aload_n 0, 1) by decide +kernel) ?_
    refine mc_Vmi (pc := 30) (As := []) (rest := []) hC vw_asked_373 (mm_asked_r_ok l D ad de o a ca q5) (by omega) (by omega) rfl (Nat.le_of_ble_eq_true rfl) (show decode prog_15_method_49_code 30 = .ok (.invokevirtual 373, 3) by decide +kernel) h ?_
    intro q6 h
    exact dc_sub [2, 3, 4, 1, 0] rfl (lab_33 q6.1 p1 p2 q3.2 v4 q6.2 h)
noncomputable def mm_weak_L24 (T : mm_T2) (S : md_S) (y0 : Int32) : Option (md_S × Int32) :=
  some (S, y0)
noncomputable def mm_weak (T : mm_T2) (S : md_S) (p1 : Int32) : Option (md_S × Int32) :=
  (mm_mustWord S 418263298676).bind fun q1 => if (0 : Int32) < (q1.1 10) then (mm_weak_L24 T q1 0) else ((T.2.2.2.2.2.2.2.2.2.1 q1 p1 1).bind fun q2 => mm_weak_L24 T q2.1 q2.2)
set_option maxHeartbeats 4000000 in
set_option maxRecDepth 100000 in
/-- weak(I)I -/
theorem mm_weak_ok (l : Launch) (D : va_G) (ad : Nat → Nat) (de : Nat) (o : Nat) (a : Nat → Nat) (ca : Nat → ClassId) (T : mm_T2) (d : Nat) (hT : mm_OK2 l D ad de o a ca T d) (S : md_S) (p1 : Int32) (F : (md_S × Int32) → Prop) (h : dc_wp (mm_weak T S p1) F) : dc_Ci l ⟨"SignalEngineModel", "weak", "(I)I"⟩ prog_15_method_50_code 2 (some (.int)) (d + 1 + 306) (26 * (d + 1) + 6729) D (md_T ca) ad de [.ref o, .int p1] (md_W o a ca S) (fun r w => ∃ q, F q ∧ r = q.2 ∧ w = md_W o a ca q.1) 0 0 := by
  refine dc_enteri (by decide +kernel) (Nat.le_of_ble_eq_true rfl) ?_
  intro X hC hR
  have lab_24 : ∀ (S : md_S) (y0 : Int32), dc_wp (mm_weak_L24 T S y0) F → dc_G X l { frames := d + 1 + 306, cells := 0, slots := 0, locals := 26 * (d + 1) + 6729 } D 2 0 0 (md_W o a ca S) 24 [(0, .ref o)] [.int y0] := by
    intro S y0 h
    delta mm_weak_L24 at h
    exact dc_iret (pc := 24) hC hR ⟨_, dc_some h, rfl, rfl⟩ (show decode prog_15_method_50_code 24 = .ok (.ireturn, 1) by decide +kernel)
  show dc_G X l { frames := d + 1 + 306, cells := 0, slots := 0, locals := 26 * (d + 1) + 6729 } D 2 0 0 (md_W o a ca S) 0 [(0, .ref o), (1, .int p1)] []
  delta mm_weak at h
  refine dc_aloadn (pc := 0) (j := 0) (i := 0) hC 0 rfl rfl (show decode prog_15_method_50_code 0 = .ok (.aload_n 0, 1) by decide +kernel) ?_
  refine dc_ldc2 (pc := 1) (v := 418263298676) hC w_1971 (show decode prog_15_method_50_code 1 = .ok (.ldc2_w 315, 3) by decide +kernel) ?_
  refine mc_Vmv (pc := 4) (As := [.long 418263298676]) (rest := []) hC vw_mustWord_468 (mm_mustWord_ok l D ad de o a ca S 418263298676) (by omega) (by omega) rfl (Nat.le_of_ble_eq_true rfl) (show decode prog_15_method_50_code 4 = .ok (.invokevirtual 468, 3) by decide +kernel) h ?_
  intro q1 h
  refine dc_aloadn (pc := 7) (j := 0) (i := 0) hC 0 rfl rfl (show decode prog_15_method_50_code 7 = .ok (.aload_n 0, 1) by decide +kernel) ?_
  refine md_g10 (pc := 8) hC (show decode prog_15_method_50_code 8 = .ok (.getfield 221, 3) by decide +kernel) ?_
  refine dc_if_le (pc := 11) (tgt := 18) hC (show decode prog_15_method_50_code 11 = .ok (.ifCond .le 7, 3) by decide +kernel) (by decide +kernel) h ?_ ?_
  · intro h
    refine dc_iconst (pc := 14) (v := 0) hC (show decode prog_15_method_50_code 14 = .ok (.iconst 0, 1) by decide +kernel) (by decide +kernel) ?_
    refine dc_goto (pc := 15) (tgt := 24) hC (show decode prog_15_method_50_code 15 = .ok (.goto 9, 3) by decide +kernel) (by decide +kernel) ?_
    exact dc_sub [0] rfl (lab_24 q1 0 h)
  · intro h
    refine dc_aloadn (pc := 18) (j := 0) (i := 0) hC 0 rfl rfl (show decode prog_15_method_50_code 18 = .ok (.aload_n 0, 1) by decide +kernel) ?_
    refine dc_iloadn (pc := 19) (j := 1) (i := 1) hC 1 rfl rfl (show decode prog_15_method_50_code 19 = .ok (.iload_n 1, 1) by decide +kernel) ?_
    refine dc_iconst (pc := 20) (v := 1) hC (show decode prog_15_method_50_code 20 = .ok (.iconst 1, 1) by decide +kernel) (by decide +kernel) ?_
    refine mc_Vmi (pc := 21) (As := [.int p1, .int 1]) (rest := []) hC vw_abort_423 (hT.2.2.2.2.2.2.2.2.2.1 q1 p1 1) (by omega) (by omega) rfl (Nat.le_of_ble_eq_true rfl) (show decode prog_15_method_50_code 21 = .ok (.invokevirtual 423, 3) by decide +kernel) h ?_
    intro q2 h
    exact dc_sub [0] rfl (lab_24 q2.1 q2.2 h)
noncomputable def mm_every_L27 (T : mm_T2) (S : md_S) (x1 : Int32) (x2 : Int32) (y0 : Int32) : Option (md_S × Int32) :=
  dc_let ((S.1 29) : Int32) fun v1 => (mm_mustWord S 6647396).bind fun q2 => (mm_await q2 x1 x2).bind fun q3 => (mm_again q3.1 x1 y0 x2 v1).bind fun q4 => (mm_then 2 (q4.1.1 29)).bind fun q5 => dc_let (md_i q4.1 29 q5) fun S6 => (mm_node_IIIIII S6 5 q3.2 q4.2 (-1) x1 (-1)).bind fun q7 => some (q7.1, q7.2)
noncomputable def mm_every (T : mm_T2) (S : md_S) (p1 : Int32) : Option (md_S × Int32) :=
  (mm_asked_r S).bind fun q8 => (mm_mustWord q8.1 25711).bind fun q9 => if (0 : Int32) < (q9.1 10) then (mm_every_L27 T q9 p1 q8.2 0) else ((T.1 q9).bind fun q10 => mm_every_L27 T q10.1 p1 q8.2 q10.2)
set_option maxHeartbeats 4000000 in
set_option maxRecDepth 100000 in
/-- every(I)I -/
theorem mm_every_ok (l : Launch) (D : va_G) (ad : Nat → Nat) (de : Nat) (o : Nat) (a : Nat → Nat) (ca : Nat → ClassId) (T : mm_T2) (d : Nat) (hT : mm_OK2 l D ad de o a ca T d) (S : md_S) (p1 : Int32) (F : (md_S × Int32) → Prop) (h : dc_wp (mm_every T S p1) F) : dc_Ci l ⟨"SignalEngineModel", "every", "(I)I"⟩ prog_15_method_51_code 7 (some (.int)) (d + 1 + 306) (26 * (d + 1) + 6729) D (md_T ca) ad de [.ref o, .int p1] (md_W o a ca S) (fun r w => ∃ q, F q ∧ r = q.2 ∧ w = md_W o a ca q.1) 0 0 := by
  refine dc_enteri (by decide +kernel) (Nat.le_of_ble_eq_true rfl) ?_
  intro X hC hR
  have lab_27 : ∀ (S : md_S) (x1 : Int32) (x2 : Int32) (y0 : Int32), dc_wp (mm_every_L27 T S x1 x2 y0) F → dc_G X l { frames := d + 1 + 306, cells := 0, slots := 0, locals := 26 * (d + 1) + 6729 } D 7 0 0 (md_W o a ca S) 27 [(0, .ref o), (1, .int x1), (2, .int x2)] [.int y0] := by
    intro S x1 x2 y0 h
    delta mm_every_L27 at h
    refine dc_istoren (pc := 27) (j := 3) (i := 3) (lv' := [(3, .int y0), (0, .ref o), (1, .int x1), (2, .int x2)]) hC rfl (Nat.le_of_ble_eq_true rfl) rfl (show decode prog_15_method_51_code 27 = .ok (.istore_n 3, 1) by decide +kernel) ?_
    refine dc_aloadn (pc := 28) (j := 0) (i := 0) hC 1 rfl rfl (show decode prog_15_method_51_code 28 = .ok (.aload_n 0, 1) by decide +kernel) ?_
    refine md_g29 (pc := 29) hC (show decode prog_15_method_51_code 29 = .ok (.getfield 389, 3) by decide +kernel) ?_
    refine dc_letI h ?_
    intro v1 h
    refine dc_istore (pc := 32) (i := 4) (lv' := [(4, .int v1), (3, .int y0), (0, .ref o), (1, .int x1), (2, .int x2)]) hC (Nat.le_of_ble_eq_true rfl) rfl (show decode prog_15_method_51_code 32 = .ok (.istore 4, 2) by decide +kernel) ?_
    refine dc_aloadn (pc := 34) (j := 0) (i := 0) hC 2 rfl rfl (show decode prog_15_method_51_code 34 = .ok (.aload_n 0, 1) by decide +kernel) ?_
    refine dc_ldc2 (pc := 35) (v := 6647396) hC w_1960 (show decode prog_15_method_51_code 35 = .ok (.ldc2_w 293, 3) by decide +kernel) ?_
    refine mc_Vmv (pc := 38) (As := [.long 6647396]) (rest := []) hC vw_mustWord_468 (mm_mustWord_ok l D ad de o a ca S 6647396) (by omega) (by omega) rfl (Nat.le_of_ble_eq_true rfl) (show decode prog_15_method_51_code 38 = .ok (.invokevirtual 468, 3) by decide +kernel) h ?_
    intro q2 h
    refine dc_aloadn (pc := 41) (j := 0) (i := 0) hC 2 rfl rfl (show decode prog_15_method_51_code 41 = .ok (.aload_n 0, 1) by decide +kernel) ?_
    refine dc_iloadn (pc := 42) (j := 1) (i := 1) hC 3 rfl rfl (show decode prog_15_method_51_code 42 = .ok (.iload_n 1, 1) by decide +kernel) ?_
    refine dc_iloadn (pc := 43) (j := 2) (i := 2) hC 4 rfl rfl (show decode prog_15_method_51_code 43 = .ok (.iload_n 2, 1) by decide +kernel) ?_
    refine mc_Vmi (pc := 44) (As := [.int x1, .int x2]) (rest := []) hC vw_await_446 (mm_await_ok l D ad de o a ca q2 x1 x2) (by omega) (by omega) rfl (Nat.le_of_ble_eq_true rfl) (show decode prog_15_method_51_code 44 = .ok (.invokevirtual 446, 3) by decide +kernel) h ?_
    intro q3 h
    refine dc_istore (pc := 47) (i := 5) (lv' := [(5, .int q3.2), (4, .int v1), (3, .int y0), (0, .ref o), (1, .int x1), (2, .int x2)]) hC (Nat.le_of_ble_eq_true rfl) rfl (show decode prog_15_method_51_code 47 = .ok (.istore 5, 2) by decide +kernel) ?_
    refine dc_aloadn (pc := 49) (j := 0) (i := 0) hC 3 rfl rfl (show decode prog_15_method_51_code 49 = .ok (.aload_n 0, 1) by decide +kernel) ?_
    refine dc_iloadn (pc := 50) (j := 1) (i := 1) hC 4 rfl rfl (show decode prog_15_method_51_code 50 = .ok (.iload_n 1, 1) by decide +kernel) ?_
    refine dc_iloadn (pc := 51) (j := 3) (i := 3) hC 2 rfl rfl (show decode prog_15_method_51_code 51 = .ok (.iload_n 3, 1) by decide +kernel) ?_
    refine dc_iloadn (pc := 52) (j := 2) (i := 2) hC 5 rfl rfl (show decode prog_15_method_51_code 52 = .ok (.iload_n 2, 1) by decide +kernel) ?_
    refine dc_iload (pc := 53) (i := 4) hC 1 rfl (show decode prog_15_method_51_code 53 = .ok (.iload 4, 2) by decide +kernel) ?_
    refine mc_Vmi (pc := 55) (As := [.int x1, .int y0, .int x2, .int v1]) (rest := []) hC vw_again_478 (mm_again_ok l D ad de o a ca q3.1 x1 y0 x2 v1) (by omega) (by omega) rfl (Nat.le_of_ble_eq_true rfl) (show decode prog_15_method_51_code 55 = .ok (.invokevirtual 478, 3) by decide +kernel) h ?_
    intro q4 h
    refine dc_istore (pc := 58) (i := 6) (lv' := [(6, .int q4.2), (5, .int q3.2), (4, .int v1), (3, .int y0), (0, .ref o), (1, .int x1), (2, .int x2)]) hC (Nat.le_of_ble_eq_true rfl) rfl (show decode prog_15_method_51_code 58 = .ok (.istore 6, 2) by decide +kernel) ?_
    refine dc_aloadn (pc := 60) (j := 0) (i := 0) hC 4 rfl rfl (show decode prog_15_method_51_code 60 = .ok (.aload_n 0, 1) by decide +kernel) ?_
    refine dc_iconst (pc := 61) (v := 2) hC (show decode prog_15_method_51_code 61 = .ok (.iconst 2, 1) by decide +kernel) (by decide +kernel) ?_
    refine dc_aloadn (pc := 62) (j := 0) (i := 0) hC 4 rfl rfl (show decode prog_15_method_51_code 62 = .ok (.aload_n 0, 1) by decide +kernel) ?_
    refine md_g29 (pc := 63) hC (show decode prog_15_method_51_code 63 = .ok (.getfield 389, 3) by decide +kernel) ?_
    refine mc_Spi (pc := 66) (As := [.int 2, .int (q4.1.1 29)]) (rest := [.ref o]) hC vs_then_399 (mm_then_ok l D ad de (md_W o a ca q4.1) (md_T ca) 2 (q4.1.1 29)) (by omega) (by omega) rfl (Nat.le_of_ble_eq_true rfl) (show decode prog_15_method_51_code 66 = .ok (.invokestatic 399, 3) by decide +kernel) h ?_
    intro q5 h
    refine md_p29 (pc := 69) hC (show decode prog_15_method_51_code 69 = .ok (.putfield 389, 3) by decide +kernel) ?_
    refine dc_letS h ?_
    intro S6 h
    refine dc_aloadn (pc := 72) (j := 0) (i := 0) hC 4 rfl rfl (show decode prog_15_method_51_code 72 = .ok (.aload_n 0, 1) by decide +kernel) ?_
    refine dc_iconst (pc := 73) (v := 5) hC (show decode prog_15_method_51_code 73 = .ok (.iconst 5, 1) by decide +kernel) (by decide +kernel) ?_
    refine dc_iload (pc := 74) (i := 5) hC 1 rfl (show decode prog_15_method_51_code 74 = .ok (.iload 5, 2) by decide +kernel) ?_
    refine dc_iload (pc := 76) (i := 6) hC 0 rfl (show decode prog_15_method_51_code 76 = .ok (.iload 6, 2) by decide +kernel) ?_
    refine dc_iconst (pc := 78) (v := (-1)) hC (show decode prog_15_method_51_code 78 = .ok (.iconst (-1), 1) by decide +kernel) (by decide +kernel) ?_
    refine dc_iloadn (pc := 79) (j := 1) (i := 1) hC 5 rfl rfl (show decode prog_15_method_51_code 79 = .ok (.iload_n 1, 1) by decide +kernel) ?_
    refine dc_iconst (pc := 80) (v := (-1)) hC (show decode prog_15_method_51_code 80 = .ok (.iconst (-1), 1) by decide +kernel) (by decide +kernel) ?_
    refine mc_Vmi (pc := 81) (As := [.int 5, .int q3.2, .int q4.2, .int (-1), .int x1, .int (-1)]) (rest := []) hC vw_node_IIIIII_382 (mm_node_IIIIII_ok l D ad de o a ca S6 5 q3.2 q4.2 (-1) x1 (-1)) (by omega) (by omega) rfl (Nat.le_of_ble_eq_true rfl) (show decode prog_15_method_51_code 81 = .ok (.invokevirtual 382, 3) by decide +kernel) h ?_
    intro q7 h
    exact dc_iret (pc := 84) hC hR ⟨_, dc_some h, rfl, rfl⟩ (show decode prog_15_method_51_code 84 = .ok (.ireturn, 1) by decide +kernel)
  show dc_G X l { frames := d + 1 + 306, cells := 0, slots := 0, locals := 26 * (d + 1) + 6729 } D 7 0 0 (md_W o a ca S) 0 [(0, .ref o), (1, .int p1)] []
  delta mm_every at h
  refine dc_aloadn (pc := 0) (j := 0) (i := 0) hC 0 rfl rfl (show decode prog_15_method_51_code 0 = .ok (.aload_n 0, 1) by decide +kernel) ?_
  refine mc_Vmi (pc := 1) (As := []) (rest := []) hC vw_asked_373 (mm_asked_r_ok l D ad de o a ca S) (by omega) (by omega) rfl (Nat.le_of_ble_eq_true rfl) (show decode prog_15_method_51_code 1 = .ok (.invokevirtual 373, 3) by decide +kernel) h ?_
  intro q8 h
  refine dc_istoren (pc := 4) (j := 2) (i := 2) (lv' := [(2, .int q8.2), (0, .ref o), (1, .int p1)]) hC rfl (Nat.le_of_ble_eq_true rfl) rfl (show decode prog_15_method_51_code 4 = .ok (.istore_n 2, 1) by decide +kernel) ?_
  refine dc_aloadn (pc := 5) (j := 0) (i := 0) hC 1 rfl rfl (show decode prog_15_method_51_code 5 = .ok (.aload_n 0, 1) by decide +kernel) ?_
  refine dc_ldc2 (pc := 6) (v := 25711) hC w_1974 (show decode prog_15_method_51_code 6 = .ok (.ldc2_w 321, 3) by decide +kernel) ?_
  refine mc_Vmv (pc := 9) (As := [.long 25711]) (rest := []) hC vw_mustWord_468 (mm_mustWord_ok l D ad de o a ca q8.1 25711) (by omega) (by omega) rfl (Nat.le_of_ble_eq_true rfl) (show decode prog_15_method_51_code 9 = .ok (.invokevirtual 468, 3) by decide +kernel) h ?_
  intro q9 h
  refine dc_aloadn (pc := 12) (j := 0) (i := 0) hC 1 rfl rfl (show decode prog_15_method_51_code 12 = .ok (.aload_n 0, 1) by decide +kernel) ?_
  refine md_g10 (pc := 13) hC (show decode prog_15_method_51_code 13 = .ok (.getfield 221, 3) by decide +kernel) ?_
  refine dc_if_le (pc := 16) (tgt := 23) hC (show decode prog_15_method_51_code 16 = .ok (.ifCond .le 7, 3) by decide +kernel) (by decide +kernel) h ?_ ?_
  · intro h
    refine dc_iconst (pc := 19) (v := 0) hC (show decode prog_15_method_51_code 19 = .ok (.iconst 0, 1) by decide +kernel) (by decide +kernel) ?_
    refine dc_goto (pc := 20) (tgt := 27) hC (show decode prog_15_method_51_code 20 = .ok (.goto 7, 3) by decide +kernel) (by decide +kernel) ?_
    exact dc_sub [1, 2, 0] rfl (lab_27 q9 p1 q8.2 0 h)
  · intro h
    refine dc_aloadn (pc := 23) (j := 0) (i := 0) hC 1 rfl rfl (show decode prog_15_method_51_code 23 = .ok (.aload_n 0, 1) by decide +kernel) ?_
    refine mc_Vmi (pc := 24) (As := []) (rest := []) hC vw_body_449 (hT.1 q9) (by omega) (by omega) rfl (Nat.le_of_ble_eq_true rfl) (show decode prog_15_method_51_code 24 = .ok (.invokevirtual 449, 3) by decide +kernel) h ?_
    intro q10 h
    exact dc_sub [1, 2, 0] rfl (lab_27 q10.1 p1 q8.2 q10.2 h)
noncomputable def mm_P2 : Nat → mm_T2
  | 0 => (fun _ => none, fun _ => none, fun _ => none, fun _ => none, fun _ _ => none, fun _ _ => none, fun _ _ _ => none, fun _ _ => none, fun _ _ => none, fun _ _ _ => none, fun _ _ => none, fun _ _ => none)
  | d + 1 => (mm_body (mm_P2 d), mm_row (mm_P2 d), mm_statement (mm_P2 d), mm_closed (mm_P2 d), mm_present_I (mm_P2 d), mm_suspend (mm_P2 d), mm_loop (mm_P2 d), mm_trap (mm_P2 d), mm_locals (mm_P2 d), mm_abort (mm_P2 d), mm_weak (mm_P2 d), mm_every (mm_P2 d))
theorem mm_P2_ok (l : Launch) (D : va_G) (ad : Nat → Nat) (de : Nat) (o : Nat) (a : Nat → Nat) (ca : Nat → ClassId) : ∀ d : Nat, mm_OK2 l D ad de o a ca (mm_P2 d) d
  | 0 => ⟨fun _ _ h => (dc_not h).elim, fun _ _ h => (dc_not h).elim, fun _ _ h => (dc_not h).elim, fun _ _ h => (dc_not h).elim, fun _ _ _ h => (dc_not h).elim, fun _ _ _ h => (dc_not h).elim, fun _ _ _ _ h => (dc_not h).elim, fun _ _ _ h => (dc_not h).elim, fun _ _ _ h => (dc_not h).elim, fun _ _ _ _ h => (dc_not h).elim, fun _ _ _ h => (dc_not h).elim, fun _ _ _ h => (dc_not h).elim⟩
  | d + 1 => ⟨mm_body_ok l D ad de o a ca (mm_P2 d) d (mm_P2_ok l D ad de o a ca d), mm_row_ok l D ad de o a ca (mm_P2 d) d (mm_P2_ok l D ad de o a ca d), mm_statement_ok l D ad de o a ca (mm_P2 d) d (mm_P2_ok l D ad de o a ca d), mm_closed_ok l D ad de o a ca (mm_P2 d) d (mm_P2_ok l D ad de o a ca d), mm_present_I_ok l D ad de o a ca (mm_P2 d) d (mm_P2_ok l D ad de o a ca d), mm_suspend_ok l D ad de o a ca (mm_P2 d) d (mm_P2_ok l D ad de o a ca d), mm_loop_ok l D ad de o a ca (mm_P2 d) d (mm_P2_ok l D ad de o a ca d), mm_trap_ok l D ad de o a ca (mm_P2 d) d (mm_P2_ok l D ad de o a ca d), mm_locals_ok l D ad de o a ca (mm_P2 d) d (mm_P2_ok l D ad de o a ca d), mm_abort_ok l D ad de o a ca (mm_P2 d) d (mm_P2_ok l D ad de o a ca d), mm_weak_ok l D ad de o a ca (mm_P2 d) d (mm_P2_ok l D ad de o a ca d), mm_every_ok l D ad de o a ca (mm_P2 d) d (mm_P2_ok l D ad de o a ca d)⟩
def mm_d2 : Nat := 300
noncomputable def mm_body_r (S : md_S) : Option (md_S × Int32) := (mm_P2 mm_d2).1 S
theorem mm_body_r_ok (l : Launch) (D : va_G) (ad : Nat → Nat) (de : Nat) (o : Nat) (a : Nat → Nat) (ca : Nat → ClassId) (S : md_S) (F : (md_S × Int32) → Prop) (h : dc_wp (mm_body_r S) F) : dc_Ci l ⟨"SignalEngineModel", "body", "()I"⟩ prog_15_method_32_code 4 (some (.int)) 606 14529 D (md_T ca) ad de [.ref o] (md_W o a ca S) (fun r w => ∃ q, F q ∧ r = q.2 ∧ w = md_W o a ca q.1) 0 0 :=
  (mm_P2_ok l D ad de o a ca mm_d2).1 S F h
noncomputable def mm_row_r (S : md_S) : Option (md_S × Int32) := (mm_P2 mm_d2).2.1 S
theorem mm_row_r_ok (l : Launch) (D : va_G) (ad : Nat → Nat) (de : Nat) (o : Nat) (a : Nat → Nat) (ca : Nat → ClassId) (S : md_S) (F : (md_S × Int32) → Prop) (h : dc_wp (mm_row_r S) F) : dc_Ci l ⟨"SignalEngineModel", "row", "()I"⟩ prog_15_method_33_code 4 (some (.int)) 606 14529 D (md_T ca) ad de [.ref o] (md_W o a ca S) (fun r w => ∃ q, F q ∧ r = q.2 ∧ w = md_W o a ca q.1) 0 0 :=
  (mm_P2_ok l D ad de o a ca mm_d2).2.1 S F h
noncomputable def mm_statement_r (S : md_S) : Option (md_S × Int32) := (mm_P2 mm_d2).2.2.1 S
theorem mm_statement_r_ok (l : Launch) (D : va_G) (ad : Nat → Nat) (de : Nat) (o : Nat) (a : Nat → Nat) (ca : Nat → ClassId) (S : md_S) (F : (md_S × Int32) → Prop) (h : dc_wp (mm_statement_r S) F) : dc_Ci l ⟨"SignalEngineModel", "statement", "()I"⟩ prog_15_method_34_code 7 (some (.int)) 606 14529 D (md_T ca) ad de [.ref o] (md_W o a ca S) (fun r w => ∃ q, F q ∧ r = q.2 ∧ w = md_W o a ca q.1) 0 0 :=
  (mm_P2_ok l D ad de o a ca mm_d2).2.2.1 S F h
noncomputable def mm_closed_r (S : md_S) : Option (md_S × Int32) := (mm_P2 mm_d2).2.2.2.1 S
theorem mm_closed_r_ok (l : Launch) (D : va_G) (ad : Nat → Nat) (de : Nat) (o : Nat) (a : Nat → Nat) (ca : Nat → ClassId) (S : md_S) (F : (md_S × Int32) → Prop) (h : dc_wp (mm_closed_r S) F) : dc_Ci l ⟨"SignalEngineModel", "closed", "()I"⟩ prog_15_method_37_code 2 (some (.int)) 606 14529 D (md_T ca) ad de [.ref o] (md_W o a ca S) (fun r w => ∃ q, F q ∧ r = q.2 ∧ w = md_W o a ca q.1) 0 0 :=
  (mm_P2_ok l D ad de o a ca mm_d2).2.2.2.1 S F h
noncomputable def mm_present_I_r (S : md_S) (p1 : Int32) : Option (md_S × Int32) := (mm_P2 mm_d2).2.2.2.2.1 S p1
theorem mm_present_I_r_ok (l : Launch) (D : va_G) (ad : Nat → Nat) (de : Nat) (o : Nat) (a : Nat → Nat) (ca : Nat → ClassId) (S : md_S) (p1 : Int32) (F : (md_S × Int32) → Prop) (h : dc_wp (mm_present_I_r S p1) F) : dc_Ci l ⟨"SignalEngineModel", "present", "(I)I"⟩ prog_15_method_44_code 6 (some (.int)) 606 14529 D (md_T ca) ad de [.ref o, .int p1] (md_W o a ca S) (fun r w => ∃ q, F q ∧ r = q.2 ∧ w = md_W o a ca q.1) 0 0 :=
  (mm_P2_ok l D ad de o a ca mm_d2).2.2.2.2.1 S p1 F h
noncomputable def mm_suspend_r (S : md_S) (p1 : Int32) : Option (md_S × Int32) := (mm_P2 mm_d2).2.2.2.2.2.1 S p1
theorem mm_suspend_r_ok (l : Launch) (D : va_G) (ad : Nat → Nat) (de : Nat) (o : Nat) (a : Nat → Nat) (ca : Nat → ClassId) (S : md_S) (p1 : Int32) (F : (md_S × Int32) → Prop) (h : dc_wp (mm_suspend_r S p1) F) : dc_Ci l ⟨"SignalEngineModel", "suspend", "(I)I"⟩ prog_15_method_45_code 5 (some (.int)) 606 14529 D (md_T ca) ad de [.ref o, .int p1] (md_W o a ca S) (fun r w => ∃ q, F q ∧ r = q.2 ∧ w = md_W o a ca q.1) 0 0 :=
  (mm_P2_ok l D ad de o a ca mm_d2).2.2.2.2.2.1 S p1 F h
noncomputable def mm_loop_r (S : md_S) (p1 : Int32) (p2 : Int32) : Option (md_S × Int32) := (mm_P2 mm_d2).2.2.2.2.2.2.1 S p1 p2
theorem mm_loop_r_ok (l : Launch) (D : va_G) (ad : Nat → Nat) (de : Nat) (o : Nat) (a : Nat → Nat) (ca : Nat → ClassId) (S : md_S) (p1 : Int32) (p2 : Int32) (F : (md_S × Int32) → Prop) (h : dc_wp (mm_loop_r S p1 p2) F) : dc_Ci l ⟨"SignalEngineModel", "loop", "(II)I"⟩ prog_15_method_46_code 6 (some (.int)) 606 14529 D (md_T ca) ad de [.ref o, .int p1, .int p2] (md_W o a ca S) (fun r w => ∃ q, F q ∧ r = q.2 ∧ w = md_W o a ca q.1) 0 0 :=
  (mm_P2_ok l D ad de o a ca mm_d2).2.2.2.2.2.2.1 S p1 p2 F h
noncomputable def mm_trap_r (S : md_S) (p1 : Int32) : Option (md_S × Int32) := (mm_P2 mm_d2).2.2.2.2.2.2.2.1 S p1
theorem mm_trap_r_ok (l : Launch) (D : va_G) (ad : Nat → Nat) (de : Nat) (o : Nat) (a : Nat → Nat) (ca : Nat → ClassId) (S : md_S) (p1 : Int32) (F : (md_S × Int32) → Prop) (h : dc_wp (mm_trap_r S p1) F) : dc_Ci l ⟨"SignalEngineModel", "trap", "(I)I"⟩ prog_15_method_47_code 4 (some (.int)) 606 14529 D (md_T ca) ad de [.ref o, .int p1] (md_W o a ca S) (fun r w => ∃ q, F q ∧ r = q.2 ∧ w = md_W o a ca q.1) 0 0 :=
  (mm_P2_ok l D ad de o a ca mm_d2).2.2.2.2.2.2.2.1 S p1 F h
noncomputable def mm_locals_r (S : md_S) (p1 : Int32) : Option (md_S × Int32) := (mm_P2 mm_d2).2.2.2.2.2.2.2.2.1 S p1
theorem mm_locals_r_ok (l : Launch) (D : va_G) (ad : Nat → Nat) (de : Nat) (o : Nat) (a : Nat → Nat) (ca : Nat → ClassId) (S : md_S) (p1 : Int32) (F : (md_S × Int32) → Prop) (h : dc_wp (mm_locals_r S p1) F) : dc_Ci l ⟨"SignalEngineModel", "locals", "(I)I"⟩ prog_15_method_48_code 7 (some (.int)) 606 14529 D (md_T ca) ad de [.ref o, .int p1] (md_W o a ca S) (fun r w => ∃ q, F q ∧ r = q.2 ∧ w = md_W o a ca q.1) 0 0 :=
  (mm_P2_ok l D ad de o a ca mm_d2).2.2.2.2.2.2.2.2.1 S p1 F h
noncomputable def mm_abort_r (S : md_S) (p1 : Int32) (p2 : Int32) : Option (md_S × Int32) := (mm_P2 mm_d2).2.2.2.2.2.2.2.2.2.1 S p1 p2
theorem mm_abort_r_ok (l : Launch) (D : va_G) (ad : Nat → Nat) (de : Nat) (o : Nat) (a : Nat → Nat) (ca : Nat → ClassId) (S : md_S) (p1 : Int32) (p2 : Int32) (F : (md_S × Int32) → Prop) (h : dc_wp (mm_abort_r S p1 p2) F) : dc_Ci l ⟨"SignalEngineModel", "abort", "(IZ)I"⟩ prog_15_method_49_code 6 (some (.int)) 606 14529 D (md_T ca) ad de [.ref o, .int p1, .int p2] (md_W o a ca S) (fun r w => ∃ q, F q ∧ r = q.2 ∧ w = md_W o a ca q.1) 0 0 :=
  (mm_P2_ok l D ad de o a ca mm_d2).2.2.2.2.2.2.2.2.2.1 S p1 p2 F h
noncomputable def mm_weak_r (S : md_S) (p1 : Int32) : Option (md_S × Int32) := (mm_P2 mm_d2).2.2.2.2.2.2.2.2.2.2.1 S p1
theorem mm_weak_r_ok (l : Launch) (D : va_G) (ad : Nat → Nat) (de : Nat) (o : Nat) (a : Nat → Nat) (ca : Nat → ClassId) (S : md_S) (p1 : Int32) (F : (md_S × Int32) → Prop) (h : dc_wp (mm_weak_r S p1) F) : dc_Ci l ⟨"SignalEngineModel", "weak", "(I)I"⟩ prog_15_method_50_code 2 (some (.int)) 606 14529 D (md_T ca) ad de [.ref o, .int p1] (md_W o a ca S) (fun r w => ∃ q, F q ∧ r = q.2 ∧ w = md_W o a ca q.1) 0 0 :=
  (mm_P2_ok l D ad de o a ca mm_d2).2.2.2.2.2.2.2.2.2.2.1 S p1 F h
noncomputable def mm_every_r (S : md_S) (p1 : Int32) : Option (md_S × Int32) := (mm_P2 mm_d2).2.2.2.2.2.2.2.2.2.2.2 S p1
theorem mm_every_r_ok (l : Launch) (D : va_G) (ad : Nat → Nat) (de : Nat) (o : Nat) (a : Nat → Nat) (ca : Nat → ClassId) (S : md_S) (p1 : Int32) (F : (md_S × Int32) → Prop) (h : dc_wp (mm_every_r S p1) F) : dc_Ci l ⟨"SignalEngineModel", "every", "(I)I"⟩ prog_15_method_51_code 7 (some (.int)) 606 14529 D (md_T ca) ad de [.ref o, .int p1] (md_W o a ca S) (fun r w => ∃ q, F q ∧ r = q.2 ∧ w = md_W o a ca q.1) 0 0 :=
  (mm_P2_ok l D ad de o a ca mm_d2).2.2.2.2.2.2.2.2.2.2.2 S p1 F h
noncomputable def mm_program_L241 (S : md_S) (x1 : Int32) : Option (md_S × Int32) :=
  some (S, x1)
noncomputable def mm_program_L224 (S : md_S) (y0 : Int32) : Option (md_S × Int32) :=
  if (S.1 6) = 0 then (mm_program_L241 S y0) else ((mm_fail S 1 (S.1 8)).bind fun q1 => mm_program_L241 q1 y0)
noncomputable def mm_program_L196 (S : md_S) : Option (md_S × Int32) :=
  dc_let (md_i S 17 ((S.1 15) - (S.1 16))) fun S2 => if (0 : Int32) < (S2.1 10) then (mm_program_L224 S2 0) else ((mm_body_r S2).bind fun q3 => mm_program_L224 q3.1 q3.2)
noncomputable def mm_program_L155 (S : md_S) : Option (md_S × Int32) :=
  dc_let (md_i S 16 (S.1 15)) fun S4 => (mm_meetsWord S4 7304564).bind fun q5 => if q5.2 = 0 then (mm_program_L196 q5.1) else ((mm_list q5.1 0).bind fun q6 => (mm_meetsSign q6 59).bind fun q7 => if q7.2 = 0 then ((mm_fail q7.1 1 (q7.1.1 8)).bind fun q8 => mm_program_L196 q8) else (mm_program_L196 q7.1))
noncomputable def mm_program_L104 (S : md_S) : Option (md_S × Int32) :=
  if (0 : Int32) < (S.1 10) then (some (S, 0)) else (dc_let (md_i S 5 1) fun S9 => (mm_advance S9).bind fun q10 => (mm_meetsWord q10 26990).bind fun q11 => if q11.2 = 0 then (mm_program_L155 q11.1) else ((mm_list q11.1 0).bind fun q12 => (mm_meetsSign q12 59).bind fun q13 => if q13.2 = 0 then ((mm_fail q13.1 1 (q13.1.1 8)).bind fun q14 => mm_program_L155 q14) else (mm_program_L155 q13.1)))
noncomputable def mm_program_L94 (S : md_S) (x1 : Int32) (y0 : Int32) (y1 : Int32) : Option ((md_S × Int32) ⊕ ((md_S))) :=
  dc_let (md_i S 5 (y1 + y0)) fun S15 => some (.inl (S15, (x1 + 1)))
noncomputable def mm_program_L73 (S : md_S) (x1 : Int32) : Option ((md_S × Int32) ⊕ ((md_S))) :=
  (dc_ix x1 32768).bind fun j16 => if (S.2.1 1 j16) = 10 then (mm_program_L94 S x1 1 (S.1 5)) else (mm_program_L94 S x1 0 (S.1 5))
noncomputable def mm_program_L59 (S : md_S) (x1 : Int32) (y0 : Int32) : Option ((md_S × Int32) ⊕ ((md_S))) :=
  if y0 = 0 then ((mm_fail S 1 (S.1 5)).bind fun q17 => mm_program_L73 q17 x1) else (mm_program_L73 S x1)
noncomputable def mm_program_L54 (S : md_S) (x1 : Int32) : Option ((md_S × Int32) ⊕ ((md_S))) :=
  mm_program_L59 S x1 1
noncomputable def mm_program_L32 (S : md_S) (x1 : Int32) : Option ((md_S × Int32) ⊕ ((md_S))) :=
  (dc_ix x1 32768).bind fun j18 => if (S.2.1 1 j18) = 9 then (mm_program_L54 S x1) else ((dc_ix x1 32768).bind fun j19 => if (S.2.1 1 j19) = 10 then (mm_program_L54 S x1) else (mm_program_L59 S x1 0))
noncomputable def mm_program_b2 (S : md_S) (x1 : Int32) : Option ((md_S × Int32) ⊕ ((md_S))) :=
  if x1 < (S.1 2) then ((dc_ix x1 32768).bind fun j20 => if (31 : Int32) < (S.2.1 1 j20) then ((dc_ix x1 32768).bind fun j21 => if (S.2.1 1 j21) < 127 then (mm_program_L54 S x1) else (mm_program_L32 S x1)) else (mm_program_L32 S x1)) else (some (.inr S))
noncomputable def mm_program_s2 (q : md_S × Int32) : Option ((md_S × Int32) ⊕ ((md_S))) :=
  mm_program_b2 q.1 q.2
noncomputable def mm_program_L2 (S : md_S) (x1 : Int32) : Option (md_S × Int32) :=
  (dc_it (mm_program_s2) (S, x1)).bind (fun (z : md_S) => mm_program_L104 z)
noncomputable def mm_program (S : md_S) : Option (md_S × Int32) :=
  mm_program_L2 S 0
set_option maxHeartbeats 4000000 in
set_option maxRecDepth 100000 in
/-- program()I -/
theorem mm_program_ok (l : Launch) (D : va_G) (ad : Nat → Nat) (de : Nat) (o : Nat) (a : Nat → Nat) (ca : Nat → ClassId) (S : md_S) (F : (md_S × Int32) → Prop) (h : dc_wp (mm_program S) F) : dc_Ci l ⟨"SignalEngineModel", "program", "()I"⟩ prog_15_method_52_code 3 (some (.int)) 607 14552 D (md_T ca) ad de [.ref o] (md_W o a ca S) (fun r w => ∃ q, F q ∧ r = q.2 ∧ w = md_W o a ca q.1) 0 0 := by
  refine dc_enteri (by decide +kernel) (Nat.le_of_ble_eq_true rfl) ?_
  intro X hC hR
  have lab_241 : ∀ (S : md_S) (x1 : Int32), dc_wp (mm_program_L241 S x1) F → dc_G X l { frames := 607, cells := 0, slots := 0, locals := 14552 } D 3 0 0 (md_W o a ca S) 241 [(0, .ref o), (1, .int x1)] [] := by
    intro S x1 h
    delta mm_program_L241 at h
    refine dc_iloadn (pc := 241) (j := 1) (i := 1) hC 1 rfl rfl (show decode prog_15_method_52_code 241 = .ok (.iload_n 1, 1) by decide +kernel) ?_
    exact dc_iret (pc := 242) hC hR ⟨_, dc_some h, rfl, rfl⟩ (show decode prog_15_method_52_code 242 = .ok (.ireturn, 1) by decide +kernel)
  have lab_224 : ∀ (S : md_S) (y0 : Int32), dc_wp (mm_program_L224 S y0) F → dc_G X l { frames := 607, cells := 0, slots := 0, locals := 14552 } D 3 0 0 (md_W o a ca S) 224 [(0, .ref o)] [.int y0] := by
    intro S y0 h
    delta mm_program_L224 at h
    refine dc_istoren (pc := 224) (j := 1) (i := 1) (lv' := [(1, .int y0), (0, .ref o)]) hC rfl (Nat.le_of_ble_eq_true rfl) rfl (show decode prog_15_method_52_code 224 = .ok (.istore_n 1, 1) by decide +kernel) ?_
    refine dc_aloadn (pc := 225) (j := 0) (i := 0) hC 1 rfl rfl (show decode prog_15_method_52_code 225 = .ok (.aload_n 0, 1) by decide +kernel) ?_
    refine md_g6 (pc := 226) hC (show decode prog_15_method_52_code 226 = .ok (.getfield 240, 3) by decide +kernel) ?_
    refine dc_if_eq (pc := 229) (tgt := 241) hC (show decode prog_15_method_52_code 229 = .ok (.ifCond .eq 12, 3) by decide +kernel) (by decide +kernel) h ?_ ?_
    · intro h
      exact dc_sub [1, 0] rfl (lab_241 S y0 h)
    · intro h
      refine dc_aloadn (pc := 232) (j := 0) (i := 0) hC 1 rfl rfl (show decode prog_15_method_52_code 232 = .ok (.aload_n 0, 1) by decide +kernel) ?_
      refine dc_iconst (pc := 233) (v := 1) hC (show decode prog_15_method_52_code 233 = .ok (.iconst 1, 1) by decide +kernel) (by decide +kernel) ?_
      refine dc_aloadn (pc := 234) (j := 0) (i := 0) hC 1 rfl rfl (show decode prog_15_method_52_code 234 = .ok (.aload_n 0, 1) by decide +kernel) ?_
      refine md_g8 (pc := 235) hC (show decode prog_15_method_52_code 235 = .ok (.getfield 237, 3) by decide +kernel) ?_
      refine mc_Vmv (pc := 238) (As := [.int 1, .int (S.1 8)]) (rest := []) hC vw_fail_267 (mm_fail_ok l D ad de o a ca S 1 (S.1 8)) (Nat.le_of_ble_eq_true rfl) (Nat.le_of_ble_eq_true rfl) rfl (Nat.le_of_ble_eq_true rfl) (show decode prog_15_method_52_code 238 = .ok (.invokevirtual 267, 3) by decide +kernel) h ?_
      intro q1 h
      exact dc_sub [1, 0] rfl (lab_241 q1 y0 h)
  have lab_196 : ∀ (S : md_S), dc_wp (mm_program_L196 S) F → dc_G X l { frames := 607, cells := 0, slots := 0, locals := 14552 } D 3 0 0 (md_W o a ca S) 196 [(0, .ref o)] [] := by
    intro S  h
    delta mm_program_L196 at h
    refine dc_aloadn (pc := 196) (j := 0) (i := 0) hC 0 rfl rfl (show decode prog_15_method_52_code 196 = .ok (.aload_n 0, 1) by decide +kernel) ?_
    refine dc_aloadn (pc := 197) (j := 0) (i := 0) hC 0 rfl rfl (show decode prog_15_method_52_code 197 = .ok (.aload_n 0, 1) by decide +kernel) ?_
    refine md_g15 (pc := 198) hC (show decode prog_15_method_52_code 198 = .ok (.getfield 343, 3) by decide +kernel) ?_
    refine dc_aloadn (pc := 201) (j := 0) (i := 0) hC 0 rfl rfl (show decode prog_15_method_52_code 201 = .ok (.aload_n 0, 1) by decide +kernel) ?_
    refine md_g16 (pc := 202) hC (show decode prog_15_method_52_code 202 = .ok (.getfield 376, 3) by decide +kernel) ?_
    refine dc_isub (pc := 205) hC (show decode prog_15_method_52_code 205 = .ok (.isub, 1) by decide +kernel) ?_
    refine md_p17 (pc := 206) hC (show decode prog_15_method_52_code 206 = .ok (.putfield 486, 3) by decide +kernel) ?_
    refine dc_letS h ?_
    intro S2 h
    refine dc_aloadn (pc := 209) (j := 0) (i := 0) hC 0 rfl rfl (show decode prog_15_method_52_code 209 = .ok (.aload_n 0, 1) by decide +kernel) ?_
    refine md_g10 (pc := 210) hC (show decode prog_15_method_52_code 210 = .ok (.getfield 221, 3) by decide +kernel) ?_
    refine dc_if_le (pc := 213) (tgt := 220) hC (show decode prog_15_method_52_code 213 = .ok (.ifCond .le 7, 3) by decide +kernel) (by decide +kernel) h ?_ ?_
    · intro h
      refine dc_iconst (pc := 216) (v := 0) hC (show decode prog_15_method_52_code 216 = .ok (.iconst 0, 1) by decide +kernel) (by decide +kernel) ?_
      refine dc_goto (pc := 217) (tgt := 224) hC (show decode prog_15_method_52_code 217 = .ok (.goto 7, 3) by decide +kernel) (by decide +kernel) ?_
      exact lab_224 S2 0 h
    · intro h
      refine dc_aloadn (pc := 220) (j := 0) (i := 0) hC 0 rfl rfl (show decode prog_15_method_52_code 220 = .ok (.aload_n 0, 1) by decide +kernel) ?_
      refine mc_Vmi (pc := 221) (As := []) (rest := []) hC vw_body_449 (mm_body_r_ok l D ad de o a ca S2) (Nat.le_of_ble_eq_true rfl) (Nat.le_of_ble_eq_true rfl) rfl (Nat.le_of_ble_eq_true rfl) (show decode prog_15_method_52_code 221 = .ok (.invokevirtual 449, 3) by decide +kernel) h ?_
      intro q3 h
      exact lab_224 q3.1 q3.2 h
  have lab_155 : ∀ (S : md_S), dc_wp (mm_program_L155 S) F → dc_G X l { frames := 607, cells := 0, slots := 0, locals := 14552 } D 3 0 0 (md_W o a ca S) 155 [(0, .ref o)] [] := by
    intro S  h
    delta mm_program_L155 at h
    refine dc_aloadn (pc := 155) (j := 0) (i := 0) hC 0 rfl rfl (show decode prog_15_method_52_code 155 = .ok (.aload_n 0, 1) by decide +kernel) ?_
    refine dc_aloadn (pc := 156) (j := 0) (i := 0) hC 0 rfl rfl (show decode prog_15_method_52_code 156 = .ok (.aload_n 0, 1) by decide +kernel) ?_
    refine md_g15 (pc := 157) hC (show decode prog_15_method_52_code 157 = .ok (.getfield 343, 3) by decide +kernel) ?_
    refine md_p16 (pc := 160) hC (show decode prog_15_method_52_code 160 = .ok (.putfield 376, 3) by decide +kernel) ?_
    refine dc_letS h ?_
    intro S4 h
    refine dc_aloadn (pc := 163) (j := 0) (i := 0) hC 0 rfl rfl (show decode prog_15_method_52_code 163 = .ok (.aload_n 0, 1) by decide +kernel) ?_
    refine dc_ldc2 (pc := 164) (v := 7304564) hC w_1950 (show decode prog_15_method_52_code 164 = .ok (.ldc2_w 273, 3) by decide +kernel) ?_
    refine mc_Vmi (pc := 167) (As := [.long 7304564]) (rest := []) hC vw_meetsWord_264 (mm_meetsWord_ok l D ad de o a ca S4 7304564) (Nat.le_of_ble_eq_true rfl) (Nat.le_of_ble_eq_true rfl) rfl (Nat.le_of_ble_eq_true rfl) (show decode prog_15_method_52_code 167 = .ok (.invokevirtual 264, 3) by decide +kernel) h ?_
    intro q5 h
    refine dc_if_eq (pc := 170) (tgt := 196) hC (show decode prog_15_method_52_code 170 = .ok (.ifCond .eq 26, 3) by decide +kernel) (by decide +kernel) h ?_ ?_
    · intro h
      exact lab_196 q5.1 h
    · intro h
      refine dc_aloadn (pc := 173) (j := 0) (i := 0) hC 0 rfl rfl (show decode prog_15_method_52_code 173 = .ok (.aload_n 0, 1) by decide +kernel) ?_
      refine dc_iconst (pc := 174) (v := 0) hC (show decode prog_15_method_52_code 174 = .ok (.iconst 0, 1) by decide +kernel) (by decide +kernel) ?_
      refine mc_Vmv (pc := 175) (As := [.int 0]) (rest := []) hC vw_list_482 (mm_list_ok l D ad de o a ca q5.1 0) (Nat.le_of_ble_eq_true rfl) (Nat.le_of_ble_eq_true rfl) rfl (Nat.le_of_ble_eq_true rfl) (show decode prog_15_method_52_code 175 = .ok (.invokevirtual 482, 3) by decide +kernel) h ?_
      intro q6 h
      refine dc_aloadn (pc := 178) (j := 0) (i := 0) hC 0 rfl rfl (show decode prog_15_method_52_code 178 = .ok (.aload_n 0, 1) by decide +kernel) ?_
      refine dc_bipush (pc := 179) (v := 59) hC (show decode prog_15_method_52_code 179 = .ok (.bipush 59, 2) by decide +kernel) (by decide +kernel) ?_
      refine mc_Vmi (pc := 181) (As := [.int 59]) (rest := []) hC vw_meetsSign_346 (mm_meetsSign_ok l D ad de o a ca q6 59) (Nat.le_of_ble_eq_true rfl) (Nat.le_of_ble_eq_true rfl) rfl (Nat.le_of_ble_eq_true rfl) (show decode prog_15_method_52_code 181 = .ok (.invokevirtual 346, 3) by decide +kernel) h ?_
      intro q7 h
      refine dc_if_ne (pc := 184) (tgt := 196) hC (show decode prog_15_method_52_code 184 = .ok (.ifCond .ne 12, 3) by decide +kernel) (by decide +kernel) h ?_ ?_
      · intro h
        refine dc_aloadn (pc := 187) (j := 0) (i := 0) hC 0 rfl rfl (show decode prog_15_method_52_code 187 = .ok (.aload_n 0, 1) by decide +kernel) ?_
        refine dc_iconst (pc := 188) (v := 1) hC (show decode prog_15_method_52_code 188 = .ok (.iconst 1, 1) by decide +kernel) (by decide +kernel) ?_
        refine dc_aloadn (pc := 189) (j := 0) (i := 0) hC 0 rfl rfl (show decode prog_15_method_52_code 189 = .ok (.aload_n 0, 1) by decide +kernel) ?_
        refine md_g8 (pc := 190) hC (show decode prog_15_method_52_code 190 = .ok (.getfield 237, 3) by decide +kernel) ?_
        refine mc_Vmv (pc := 193) (As := [.int 1, .int (q7.1.1 8)]) (rest := []) hC vw_fail_267 (mm_fail_ok l D ad de o a ca q7.1 1 (q7.1.1 8)) (Nat.le_of_ble_eq_true rfl) (Nat.le_of_ble_eq_true rfl) rfl (Nat.le_of_ble_eq_true rfl) (show decode prog_15_method_52_code 193 = .ok (.invokevirtual 267, 3) by decide +kernel) h ?_
        intro q8 h
        exact lab_196 q8 h
      · intro h
        exact lab_196 q7.1 h
  have lab_104 : ∀ (S : md_S), dc_wp (mm_program_L104 S) F → dc_G X l { frames := 607, cells := 0, slots := 0, locals := 14552 } D 3 0 0 (md_W o a ca S) 104 [(0, .ref o)] [] := by
    intro S  h
    delta mm_program_L104 at h
    refine dc_aloadn (pc := 104) (j := 0) (i := 0) hC 0 rfl rfl (show decode prog_15_method_52_code 104 = .ok (.aload_n 0, 1) by decide +kernel) ?_
    refine md_g10 (pc := 105) hC (show decode prog_15_method_52_code 105 = .ok (.getfield 221, 3) by decide +kernel) ?_
    refine dc_if_le (pc := 108) (tgt := 113) hC (show decode prog_15_method_52_code 108 = .ok (.ifCond .le 5, 3) by decide +kernel) (by decide +kernel) h ?_ ?_
    · intro h
      refine dc_iconst (pc := 111) (v := 0) hC (show decode prog_15_method_52_code 111 = .ok (.iconst 0, 1) by decide +kernel) (by decide +kernel) ?_
      exact dc_iret (pc := 112) hC hR ⟨_, dc_some h, rfl, rfl⟩ (show decode prog_15_method_52_code 112 = .ok (.ireturn, 1) by decide +kernel)
    · intro h
      refine dc_aloadn (pc := 113) (j := 0) (i := 0) hC 0 rfl rfl (show decode prog_15_method_52_code 113 = .ok (.aload_n 0, 1) by decide +kernel) ?_
      refine dc_iconst (pc := 114) (v := 1) hC (show decode prog_15_method_52_code 114 = .ok (.iconst 1, 1) by decide +kernel) (by decide +kernel) ?_
      refine md_p5 (pc := 115) hC (show decode prog_15_method_52_code 115 = .ok (.putfield 231, 3) by decide +kernel) ?_
      refine dc_letS h ?_
      intro S9 h
      refine dc_aloadn (pc := 118) (j := 0) (i := 0) hC 0 rfl rfl (show decode prog_15_method_52_code 118 = .ok (.aload_n 0, 1) by decide +kernel) ?_
      refine mc_Vmv (pc := 119) (As := []) (rest := []) hC vw_advance_258 (mm_advance_ok l D ad de o a ca S9) (Nat.le_of_ble_eq_true rfl) (Nat.le_of_ble_eq_true rfl) rfl (Nat.le_of_ble_eq_true rfl) (show decode prog_15_method_52_code 119 = .ok (.invokevirtual 258, 3) by decide +kernel) h ?_
      intro q10 h
      refine dc_aloadn (pc := 122) (j := 0) (i := 0) hC 0 rfl rfl (show decode prog_15_method_52_code 122 = .ok (.aload_n 0, 1) by decide +kernel) ?_
      refine dc_ldc2 (pc := 123) (v := 26990) hC w_1929 (show decode prog_15_method_52_code 123 = .ok (.ldc2_w 271, 3) by decide +kernel) ?_
      refine mc_Vmi (pc := 126) (As := [.long 26990]) (rest := []) hC vw_meetsWord_264 (mm_meetsWord_ok l D ad de o a ca q10 26990) (Nat.le_of_ble_eq_true rfl) (Nat.le_of_ble_eq_true rfl) rfl (Nat.le_of_ble_eq_true rfl) (show decode prog_15_method_52_code 126 = .ok (.invokevirtual 264, 3) by decide +kernel) h ?_
      intro q11 h
      refine dc_if_eq (pc := 129) (tgt := 155) hC (show decode prog_15_method_52_code 129 = .ok (.ifCond .eq 26, 3) by decide +kernel) (by decide +kernel) h ?_ ?_
      · intro h
        exact lab_155 q11.1 h
      · intro h
        refine dc_aloadn (pc := 132) (j := 0) (i := 0) hC 0 rfl rfl (show decode prog_15_method_52_code 132 = .ok (.aload_n 0, 1) by decide +kernel) ?_
        refine dc_iconst (pc := 133) (v := 0) hC (show decode prog_15_method_52_code 133 = .ok (.iconst 0, 1) by decide +kernel) (by decide +kernel) ?_
        refine mc_Vmv (pc := 134) (As := [.int 0]) (rest := []) hC vw_list_482 (mm_list_ok l D ad de o a ca q11.1 0) (Nat.le_of_ble_eq_true rfl) (Nat.le_of_ble_eq_true rfl) rfl (Nat.le_of_ble_eq_true rfl) (show decode prog_15_method_52_code 134 = .ok (.invokevirtual 482, 3) by decide +kernel) h ?_
        intro q12 h
        refine dc_aloadn (pc := 137) (j := 0) (i := 0) hC 0 rfl rfl (show decode prog_15_method_52_code 137 = .ok (.aload_n 0, 1) by decide +kernel) ?_
        refine dc_bipush (pc := 138) (v := 59) hC (show decode prog_15_method_52_code 138 = .ok (.bipush 59, 2) by decide +kernel) (by decide +kernel) ?_
        refine mc_Vmi (pc := 140) (As := [.int 59]) (rest := []) hC vw_meetsSign_346 (mm_meetsSign_ok l D ad de o a ca q12 59) (Nat.le_of_ble_eq_true rfl) (Nat.le_of_ble_eq_true rfl) rfl (Nat.le_of_ble_eq_true rfl) (show decode prog_15_method_52_code 140 = .ok (.invokevirtual 346, 3) by decide +kernel) h ?_
        intro q13 h
        refine dc_if_ne (pc := 143) (tgt := 155) hC (show decode prog_15_method_52_code 143 = .ok (.ifCond .ne 12, 3) by decide +kernel) (by decide +kernel) h ?_ ?_
        · intro h
          refine dc_aloadn (pc := 146) (j := 0) (i := 0) hC 0 rfl rfl (show decode prog_15_method_52_code 146 = .ok (.aload_n 0, 1) by decide +kernel) ?_
          refine dc_iconst (pc := 147) (v := 1) hC (show decode prog_15_method_52_code 147 = .ok (.iconst 1, 1) by decide +kernel) (by decide +kernel) ?_
          refine dc_aloadn (pc := 148) (j := 0) (i := 0) hC 0 rfl rfl (show decode prog_15_method_52_code 148 = .ok (.aload_n 0, 1) by decide +kernel) ?_
          refine md_g8 (pc := 149) hC (show decode prog_15_method_52_code 149 = .ok (.getfield 237, 3) by decide +kernel) ?_
          refine mc_Vmv (pc := 152) (As := [.int 1, .int (q13.1.1 8)]) (rest := []) hC vw_fail_267 (mm_fail_ok l D ad de o a ca q13.1 1 (q13.1.1 8)) (Nat.le_of_ble_eq_true rfl) (Nat.le_of_ble_eq_true rfl) rfl (Nat.le_of_ble_eq_true rfl) (show decode prog_15_method_52_code 152 = .ok (.invokevirtual 267, 3) by decide +kernel) h ?_
          intro q14 h
          exact lab_155 q14 h
        · intro h
          exact lab_155 q13.1 h
  have loop_2 : ∀ (q : md_S × Int32), dc_wp (dc_it (mm_program_s2) q) (fun z => dc_wp ((fun (z : md_S) => mm_program_L104 z) z) F) → dc_G X l { frames := 607, cells := 0, slots := 0, locals := 14552 } D 3 0 0 (md_W o a ca q.1) 2 [(0, .ref o), (1, .int q.2)] [] := by
    refine dc_loopF ?_
    intro F_2 hl_2 hr_2
    have lab_94 : ∀ (S : md_S) (x1 : Int32) (y0 : Int32) (y1 : Int32), dc_wp (mm_program_L94 S x1 y0 y1) F_2 → dc_G X l { frames := 607, cells := 0, slots := 0, locals := 14552 } D 3 0 0 (md_W o a ca S) 94 [(0, .ref o), (1, .int x1)] [.int y0, .int y1, .ref o] := by
      intro S x1 y0 y1 h
      delta mm_program_L94 at h
      refine dc_iadd (pc := 94) hC (show decode prog_15_method_52_code 94 = .ok (.iadd, 1) by decide +kernel) ?_
      refine md_p5 (pc := 95) hC (show decode prog_15_method_52_code 95 = .ok (.putfield 231, 3) by decide +kernel) ?_
      refine dc_letS h ?_
      intro S15 h
      refine dc_iinc (pc := 98) (i := 1) (v := (x1 + 1)) (lv' := [(1, .int (x1 + 1)), (0, .ref o)]) hC 1 rfl rfl (Nat.le_of_ble_eq_true rfl) rfl (show decode prog_15_method_52_code 98 = .ok (.iinc 1 1, 3) by decide +kernel) ?_
      refine dc_goto (pc := 101) (tgt := 2) hC (show decode prog_15_method_52_code 101 = .ok (.goto (-99), 3) by decide +kernel) (by decide +kernel) ?_
      exact dc_sub [1, 0] rfl (hl_2 (S15, (x1 + 1)) (dc_some h))
    have lab_73 : ∀ (S : md_S) (x1 : Int32), dc_wp (mm_program_L73 S x1) F_2 → dc_G X l { frames := 607, cells := 0, slots := 0, locals := 14552 } D 3 0 0 (md_W o a ca S) 73 [(0, .ref o), (1, .int x1)] [] := by
      intro S x1 h
      delta mm_program_L73 at h
      refine dc_aloadn (pc := 73) (j := 0) (i := 0) hC 0 rfl rfl (show decode prog_15_method_52_code 73 = .ok (.aload_n 0, 1) by decide +kernel) ?_
      refine dc_dup (pc := 74) hC (show decode prog_15_method_52_code 74 = .ok (.dup, 1) by decide +kernel) rfl ?_
      refine md_g5 (pc := 75) hC (show decode prog_15_method_52_code 75 = .ok (.getfield 231, 3) by decide +kernel) ?_
      refine dc_aloadn (pc := 78) (j := 0) (i := 0) hC 0 rfl rfl (show decode prog_15_method_52_code 78 = .ok (.aload_n 0, 1) by decide +kernel) ?_
      refine md_g1 (pc := 79) hC (show decode prog_15_method_52_code 79 = .ok (.getfield 10, 3) by decide +kernel) ?_
      refine dc_iloadn (pc := 82) (j := 1) (i := 1) hC 1 rfl rfl (show decode prog_15_method_52_code 82 = .ok (.iload_n 1, 1) by decide +kernel) ?_
      refine md_l1 (pc := 83) hC (show decode prog_15_method_52_code 83 = .ok (.baload, 1) by decide +kernel) h ?_
      intro j16 h
      refine dc_bipush (pc := 84) (v := 10) hC (show decode prog_15_method_52_code 84 = .ok (.bipush 10, 2) by decide +kernel) (by decide +kernel) ?_
      refine dc_icmp_ne (pc := 86) (tgt := 93) hC (show decode prog_15_method_52_code 86 = .ok (.if_icmp .ne 7, 3) by decide +kernel) (by decide +kernel) h ?_ ?_
      · intro h
        refine dc_iconst (pc := 89) (v := 1) hC (show decode prog_15_method_52_code 89 = .ok (.iconst 1, 1) by decide +kernel) (by decide +kernel) ?_
        refine dc_goto (pc := 90) (tgt := 94) hC (show decode prog_15_method_52_code 90 = .ok (.goto 4, 3) by decide +kernel) (by decide +kernel) ?_
        exact lab_94 S x1 1 (S.1 5) h
      · intro h
        refine dc_iconst (pc := 93) (v := 0) hC (show decode prog_15_method_52_code 93 = .ok (.iconst 0, 1) by decide +kernel) (by decide +kernel) ?_
        exact lab_94 S x1 0 (S.1 5) h
    have lab_59 : ∀ (S : md_S) (x1 : Int32) (y0 : Int32), dc_wp (mm_program_L59 S x1 y0) F_2 → dc_G X l { frames := 607, cells := 0, slots := 0, locals := 14552 } D 3 0 0 (md_W o a ca S) 59 [(0, .ref o), (1, .int x1)] [.int y0] := by
      intro S x1 y0 h
      delta mm_program_L59 at h
      refine dc_istoren (pc := 59) (j := 2) (i := 2) (lv' := [(2, .int y0), (0, .ref o), (1, .int x1)]) hC rfl (Nat.le_of_ble_eq_true rfl) rfl (show decode prog_15_method_52_code 59 = .ok (.istore_n 2, 1) by decide +kernel) ?_
      refine dc_iloadn (pc := 60) (j := 2) (i := 2) hC 0 rfl rfl (show decode prog_15_method_52_code 60 = .ok (.iload_n 2, 1) by decide +kernel) ?_
      refine dc_if_ne (pc := 61) (tgt := 73) hC (show decode prog_15_method_52_code 61 = .ok (.ifCond .ne 12, 3) by decide +kernel) (by decide +kernel) h ?_ ?_
      · intro h
        refine dc_aloadn (pc := 64) (j := 0) (i := 0) hC 1 rfl rfl (show decode prog_15_method_52_code 64 = .ok (.aload_n 0, 1) by decide +kernel) ?_
        refine dc_iconst (pc := 65) (v := 1) hC (show decode prog_15_method_52_code 65 = .ok (.iconst 1, 1) by decide +kernel) (by decide +kernel) ?_
        refine dc_aloadn (pc := 66) (j := 0) (i := 0) hC 1 rfl rfl (show decode prog_15_method_52_code 66 = .ok (.aload_n 0, 1) by decide +kernel) ?_
        refine md_g5 (pc := 67) hC (show decode prog_15_method_52_code 67 = .ok (.getfield 231, 3) by decide +kernel) ?_
        refine mc_Vmv (pc := 70) (As := [.int 1, .int (S.1 5)]) (rest := []) hC vw_fail_267 (mm_fail_ok l D ad de o a ca S 1 (S.1 5)) (Nat.le_of_ble_eq_true rfl) (Nat.le_of_ble_eq_true rfl) rfl (Nat.le_of_ble_eq_true rfl) (show decode prog_15_method_52_code 70 = .ok (.invokevirtual 267, 3) by decide +kernel) h ?_
        intro q17 h
        exact dc_sub [1, 2] rfl (lab_73 q17 x1 h)
      · intro h
        exact dc_sub [1, 2] rfl (lab_73 S x1 h)
    have lab_54 : ∀ (S : md_S) (x1 : Int32), dc_wp (mm_program_L54 S x1) F_2 → dc_G X l { frames := 607, cells := 0, slots := 0, locals := 14552 } D 3 0 0 (md_W o a ca S) 54 [(0, .ref o), (1, .int x1)] [] := by
      intro S x1 h
      delta mm_program_L54 at h
      refine dc_iconst (pc := 54) (v := 1) hC (show decode prog_15_method_52_code 54 = .ok (.iconst 1, 1) by decide +kernel) (by decide +kernel) ?_
      refine dc_goto (pc := 55) (tgt := 59) hC (show decode prog_15_method_52_code 55 = .ok (.goto 4, 3) by decide +kernel) (by decide +kernel) ?_
      exact lab_59 S x1 1 h
    have lab_32 : ∀ (S : md_S) (x1 : Int32), dc_wp (mm_program_L32 S x1) F_2 → dc_G X l { frames := 607, cells := 0, slots := 0, locals := 14552 } D 3 0 0 (md_W o a ca S) 32 [(0, .ref o), (1, .int x1)] [] := by
      intro S x1 h
      delta mm_program_L32 at h
      refine dc_aloadn (pc := 32) (j := 0) (i := 0) hC 0 rfl rfl (show decode prog_15_method_52_code 32 = .ok (.aload_n 0, 1) by decide +kernel) ?_
      refine md_g1 (pc := 33) hC (show decode prog_15_method_52_code 33 = .ok (.getfield 10, 3) by decide +kernel) ?_
      refine dc_iloadn (pc := 36) (j := 1) (i := 1) hC 1 rfl rfl (show decode prog_15_method_52_code 36 = .ok (.iload_n 1, 1) by decide +kernel) ?_
      refine md_l1 (pc := 37) hC (show decode prog_15_method_52_code 37 = .ok (.baload, 1) by decide +kernel) h ?_
      intro j18 h
      refine dc_bipush (pc := 38) (v := 9) hC (show decode prog_15_method_52_code 38 = .ok (.bipush 9, 2) by decide +kernel) (by decide +kernel) ?_
      refine dc_icmp_eq (pc := 40) (tgt := 54) hC (show decode prog_15_method_52_code 40 = .ok (.if_icmp .eq 14, 3) by decide +kernel) (by decide +kernel) h ?_ ?_
      · intro h
        exact lab_54 S x1 h
      · intro h
        refine dc_aloadn (pc := 43) (j := 0) (i := 0) hC 0 rfl rfl (show decode prog_15_method_52_code 43 = .ok (.aload_n 0, 1) by decide +kernel) ?_
        refine md_g1 (pc := 44) hC (show decode prog_15_method_52_code 44 = .ok (.getfield 10, 3) by decide +kernel) ?_
        refine dc_iloadn (pc := 47) (j := 1) (i := 1) hC 1 rfl rfl (show decode prog_15_method_52_code 47 = .ok (.iload_n 1, 1) by decide +kernel) ?_
        refine md_l1 (pc := 48) hC (show decode prog_15_method_52_code 48 = .ok (.baload, 1) by decide +kernel) h ?_
        intro j19 h
        refine dc_bipush (pc := 49) (v := 10) hC (show decode prog_15_method_52_code 49 = .ok (.bipush 10, 2) by decide +kernel) (by decide +kernel) ?_
        refine dc_icmp_ne (pc := 51) (tgt := 58) hC (show decode prog_15_method_52_code 51 = .ok (.if_icmp .ne 7, 3) by decide +kernel) (by decide +kernel) h ?_ ?_
        · intro h
          exact lab_54 S x1 h
        · intro h
          refine dc_iconst (pc := 58) (v := 0) hC (show decode prog_15_method_52_code 58 = .ok (.iconst 0, 1) by decide +kernel) (by decide +kernel) ?_
          exact lab_59 S x1 0 h
    rintro ⟨S, x1⟩ h
    have h : dc_wp (mm_program_b2 S x1) F_2 := h
    delta mm_program_b2 at h
    refine dc_iloadn (pc := 2) (j := 1) (i := 1) hC 1 rfl rfl (show decode prog_15_method_52_code 2 = .ok (.iload_n 1, 1) by decide +kernel) ?_
    refine dc_aloadn (pc := 3) (j := 0) (i := 0) hC 0 rfl rfl (show decode prog_15_method_52_code 3 = .ok (.aload_n 0, 1) by decide +kernel) ?_
    refine md_g2 (pc := 4) hC (show decode prog_15_method_52_code 4 = .ok (.getfield 210, 3) by decide +kernel) ?_
    refine dc_icmp_ge (pc := 7) (tgt := 104) hC (show decode prog_15_method_52_code 7 = .ok (.if_icmp .ge 97, 3) by decide +kernel) (by decide +kernel) h ?_ ?_
    · intro h
      refine dc_aloadn (pc := 10) (j := 0) (i := 0) hC 0 rfl rfl (show decode prog_15_method_52_code 10 = .ok (.aload_n 0, 1) by decide +kernel) ?_
      refine md_g1 (pc := 11) hC (show decode prog_15_method_52_code 11 = .ok (.getfield 10, 3) by decide +kernel) ?_
      refine dc_iloadn (pc := 14) (j := 1) (i := 1) hC 1 rfl rfl (show decode prog_15_method_52_code 14 = .ok (.iload_n 1, 1) by decide +kernel) ?_
      refine md_l1 (pc := 15) hC (show decode prog_15_method_52_code 15 = .ok (.baload, 1) by decide +kernel) h ?_
      intro j20 h
      refine dc_bipush (pc := 16) (v := 31) hC (show decode prog_15_method_52_code 16 = .ok (.bipush 31, 2) by decide +kernel) (by decide +kernel) ?_
      refine dc_icmp_le (pc := 18) (tgt := 32) hC (show decode prog_15_method_52_code 18 = .ok (.if_icmp .le 14, 3) by decide +kernel) (by decide +kernel) h ?_ ?_
      · intro h
        refine dc_aloadn (pc := 21) (j := 0) (i := 0) hC 0 rfl rfl (show decode prog_15_method_52_code 21 = .ok (.aload_n 0, 1) by decide +kernel) ?_
        refine md_g1 (pc := 22) hC (show decode prog_15_method_52_code 22 = .ok (.getfield 10, 3) by decide +kernel) ?_
        refine dc_iloadn (pc := 25) (j := 1) (i := 1) hC 1 rfl rfl (show decode prog_15_method_52_code 25 = .ok (.iload_n 1, 1) by decide +kernel) ?_
        refine md_l1 (pc := 26) hC (show decode prog_15_method_52_code 26 = .ok (.baload, 1) by decide +kernel) h ?_
        intro j21 h
        refine dc_bipush (pc := 27) (v := 127) hC (show decode prog_15_method_52_code 27 = .ok (.bipush 127, 2) by decide +kernel) (by decide +kernel) ?_
        refine dc_icmp_lt (pc := 29) (tgt := 54) hC (show decode prog_15_method_52_code 29 = .ok (.if_icmp .lt 25, 3) by decide +kernel) (by decide +kernel) h ?_ ?_
        · intro h
          exact lab_54 S x1 h
        · intro h
          exact lab_32 S x1 h
      · intro h
        exact lab_32 S x1 h
    · intro h
      have h : dc_wp (mm_program_L104 S) F := hr_2 S (dc_some h)
      exact dc_sub [0] rfl (lab_104 S h)
  have lab_2 : ∀ (S : md_S) (x1 : Int32), dc_wp (mm_program_L2 S x1) F → dc_G X l { frames := 607, cells := 0, slots := 0, locals := 14552 } D 3 0 0 (md_W o a ca S) 2 [(0, .ref o), (1, .int x1)] [] := fun S x1 h => loop_2  (S, x1) (dc_bind h)
  show dc_G X l { frames := 607, cells := 0, slots := 0, locals := 14552 } D 3 0 0 (md_W o a ca S) 0 [(0, .ref o)] []
  delta mm_program at h
  refine dc_iconst (pc := 0) (v := 0) hC (show decode prog_15_method_52_code 0 = .ok (.iconst 0, 1) by decide +kernel) (by decide +kernel) ?_
  refine dc_istoren (pc := 1) (j := 1) (i := 1) (lv' := [(1, .int 0), (0, .ref o)]) hC rfl (Nat.le_of_ble_eq_true rfl) rfl (show decode prog_15_method_52_code 1 = .ok (.istore_n 1, 1) by decide +kernel) ?_
  exact dc_sub [1, 0] rfl (lab_2 S 0 h)
noncomputable def mm_ask_L279 (S : md_S) (x2 : Int32) : Option (md_S × Int32) :=
  some (S, x2)
noncomputable def mm_ask_L262 (S : md_S) (x2 : Int32) : Option (md_S × Int32) :=
  if x2 < 1000 then ((dc_ix x2 1000).bind fun j1 => dc_let (md_a S 66 j1 (S.1 43)) fun S2 => mm_ask_L279 S2 x2) else (mm_ask_L279 S x2)
noncomputable def mm_ask_L259 (S : md_S) (x2 : Int32) (x3 : Int32) : Option ((md_S × Int32) ⊕ ((md_S))) :=
  some (.inl (S, x3))
noncomputable def mm_ask_L221 (S : md_S) (x2 : Int32) (x3 : Int32) (x5 : Int32) (x7 : Int32) : Option ((md_S × Int32) ⊕ ((md_S))) :=
  (dc_ix x5 1000).bind fun j3 => if (0 : Int32) < (S.2.1 36 j3) then ((dc_ix x5 1000).bind fun j4 => (dc_ix (2 * x3) 8192).bind fun j5 => dc_let (md_a S 99 j5 (S.2.1 37 j4)) fun S6 => (dc_ix ((2 * x3) + 1) 8192).bind fun j7 => dc_let (md_a S6 99 j7 (2 * x7)) fun S8 => mm_ask_L259 S8 x2 (x3 + 1)) else (mm_ask_L259 S x2 x3)
noncomputable def mm_ask_L117 (S : md_S) (x2 : Int32) (x3 : Int32) (x5 : Int32) : Option ((md_S × Int32) ⊕ ((md_S))) :=
  dc_let ((S.1 43) : Int32) fun v9 => dc_let (md_i S 43 ((S.1 43) + 1)) fun S10 => if v9 < 1000 then ((dc_ix x5 1000).bind fun j11 => (dc_ix v9 1000).bind fun j12 => dc_let (md_a S10 63 j12 (S10.2.1 36 j11)) fun S13 => (dc_ix x5 1000).bind fun j14 => (dc_ix v9 1000).bind fun j15 => dc_let (md_a S13 64 j15 (S13.2.1 37 j14)) fun S16 => (dc_ix v9 1000).bind fun j17 => dc_let (md_a S16 65 j17 (-1)) fun S18 => (dc_ix x5 1000).bind fun j19 => if (S18.2.1 38 j19) = (-1) then (mm_ask_L221 S18 x2 x3 x5 v9) else ((dc_ix x5 1000).bind fun j20 => (dc_ix (2 * x3) 8192).bind fun j21 => dc_let (md_a S18 99 j21 (S18.2.1 38 j20)) fun S22 => (dc_ix ((2 * x3) + 1) 8192).bind fun j23 => dc_let (md_a S22 99 j23 ((2 * v9) + 1)) fun S24 => mm_ask_L221 S24 x2 (x3 + 1) x5 v9)) else (some (.inl (S10, x3)))
noncomputable def mm_ask_L88 (S : md_S) (x2 : Int32) (x3 : Int32) (x5 : Int32) (x6 : Int32) : Option ((md_S × Int32) ⊕ ((md_S))) :=
  if x6 = (-1) then (mm_ask_L117 S x2 x3 x5) else (if (S.1 43) < 1000 then ((dc_ix (x6 >>> (1 &&& (31 : Int32))) 1000).bind fun j25 => dc_let (md_a S 64 j25 (S.1 43)) fun S26 => mm_ask_L117 S26 x2 x3 x5) else (mm_ask_L117 S x2 x3 x5))
noncomputable def mm_ask_b23 (S : md_S) (x2 : Int32) (x3 : Int32) : Option ((md_S × Int32) ⊕ ((md_S))) :=
  if (0 : Int32) < x3 then ((dc_ix (2 * (x3 + (-1))) 8192).bind fun j27 => dc_let ((S.2.1 99 j27) : Int32) fun v28 => (dc_ix ((2 * (x3 + (-1))) + 1) 8192).bind fun j29 => dc_let ((S.2.1 99 j29) : Int32) fun v30 => if v30 = (-1) then (mm_ask_L88 S x2 (x3 + (-1)) v28 v30) else (if (v30 &&& 1) = 1 then (if (S.1 43) < 1000 then ((dc_ix (v30 >>> (1 &&& (31 : Int32))) 1000).bind fun j31 => dc_let (md_a S 65 j31 (S.1 43)) fun S32 => mm_ask_L117 S32 x2 (x3 + (-1)) v28) else (mm_ask_L88 S x2 (x3 + (-1)) v28 v30)) else (mm_ask_L88 S x2 (x3 + (-1)) v28 v30))) else (some (.inr S))
noncomputable def mm_ask_s23 (x2 : Int32) (q : md_S × Int32) : Option ((md_S × Int32) ⊕ ((md_S))) :=
  mm_ask_b23 q.1 x2 q.2
noncomputable def mm_ask_L23 (S : md_S) (x2 : Int32) (x3 : Int32) : Option (md_S × Int32) :=
  (dc_it (mm_ask_s23 x2) (S, x3)).bind (fun (z : md_S) => mm_ask_L262 z x2)
noncomputable def mm_ask (S : md_S) (p1 : Int32) : Option (md_S × Int32) :=
  dc_let ((S.1 43) : Int32) fun v33 => (dc_ix 0 8192).bind fun j34 => dc_let (md_a S 99 j34 p1) fun S35 => (dc_ix 1 8192).bind fun j36 => dc_let (md_a S35 99 j36 (-1)) fun S37 => mm_ask_L23 S37 v33 1
set_option maxHeartbeats 4000000 in
set_option maxRecDepth 100000 in
/-- ask(I)I -/
theorem mm_ask_ok (l : Launch) (D : va_G) (ad : Nat → Nat) (de : Nat) (o : Nat) (a : Nat → Nat) (ca : Nat → ClassId) (S : md_S) (p1 : Int32) (F : (md_S × Int32) → Prop) (h : dc_wp (mm_ask S p1) F) : dc_Ci l ⟨"SignalEngineModel", "ask", "(I)I"⟩ prog_15_method_57_code 8 (some (.int)) 0 0 D (md_T ca) ad de [.ref o, .int p1] (md_W o a ca S) (fun r w => ∃ q, F q ∧ r = q.2 ∧ w = md_W o a ca q.1) 0 0 := by
  refine dc_enteri (by decide +kernel) (Nat.le_of_ble_eq_true rfl) ?_
  intro X hC hR
  have lab_279 : ∀ (S : md_S) (x2 : Int32), dc_wp (mm_ask_L279 S x2) F → dc_G X l { frames := 0, cells := 0, slots := 0, locals := 0 } D 8 0 0 (md_W o a ca S) 279 [(0, .ref o), (2, .int x2)] [] := by
    intro S x2 h
    delta mm_ask_L279 at h
    refine dc_iloadn (pc := 279) (j := 2) (i := 2) hC 1 rfl rfl (show decode prog_15_method_57_code 279 = .ok (.iload_n 2, 1) by decide +kernel) ?_
    exact dc_iret (pc := 280) hC hR ⟨_, dc_some h, rfl, rfl⟩ (show decode prog_15_method_57_code 280 = .ok (.ireturn, 1) by decide +kernel)
  have lab_262 : ∀ (S : md_S) (x2 : Int32), dc_wp (mm_ask_L262 S x2) F → dc_G X l { frames := 0, cells := 0, slots := 0, locals := 0 } D 8 0 0 (md_W o a ca S) 262 [(0, .ref o), (2, .int x2)] [] := by
    intro S x2 h
    delta mm_ask_L262 at h
    refine dc_iloadn (pc := 262) (j := 2) (i := 2) hC 1 rfl rfl (show decode prog_15_method_57_code 262 = .ok (.iload_n 2, 1) by decide +kernel) ?_
    refine dc_sipush (pc := 263) (v := 1000) hC (show decode prog_15_method_57_code 263 = .ok (.sipush 1000, 3) by decide +kernel) (by decide +kernel) ?_
    refine dc_icmp_ge (pc := 266) (tgt := 279) hC (show decode prog_15_method_57_code 266 = .ok (.if_icmp .ge 13, 3) by decide +kernel) (by decide +kernel) h ?_ ?_
    · intro h
      refine dc_aloadn (pc := 269) (j := 0) (i := 0) hC 0 rfl rfl (show decode prog_15_method_57_code 269 = .ok (.aload_n 0, 1) by decide +kernel) ?_
      refine md_g66 (pc := 270) hC (show decode prog_15_method_57_code 270 = .ok (.getfield 111, 3) by decide +kernel) ?_
      refine dc_iloadn (pc := 273) (j := 2) (i := 2) hC 1 rfl rfl (show decode prog_15_method_57_code 273 = .ok (.iload_n 2, 1) by decide +kernel) ?_
      refine dc_aloadn (pc := 274) (j := 0) (i := 0) hC 0 rfl rfl (show decode prog_15_method_57_code 274 = .ok (.aload_n 0, 1) by decide +kernel) ?_
      refine md_g43 (pc := 275) hC (show decode prog_15_method_57_code 275 = .ok (.getfield 501, 3) by decide +kernel) ?_
      refine md_s66 (pc := 278) hC (show decode prog_15_method_57_code 278 = .ok (.iastore, 1) by decide +kernel) h ?_
      intro j1 h
      refine dc_letS h ?_
      intro S2 h
      exact lab_279 S2 x2 h
    · intro h
      exact lab_279 S x2 h
  have loop_23 : ∀ (x2 : Int32) (q : md_S × Int32), dc_wp (dc_it (mm_ask_s23 x2) q) (fun z => dc_wp ((fun (z : md_S) => mm_ask_L262 z x2) z) F) → dc_G X l { frames := 0, cells := 0, slots := 0, locals := 0 } D 8 0 0 (md_W o a ca q.1) 23 [(0, .ref o), (2, .int x2), (3, .int q.2), (4, .ref (a 99))] [] := by
    intro x2
    refine dc_loopF ?_
    intro F_23 hl_23 hr_23
    have lab_259 : ∀ (S : md_S) (x3 : Int32), dc_wp (mm_ask_L259 S x2 x3) F_23 → dc_G X l { frames := 0, cells := 0, slots := 0, locals := 0 } D 8 0 0 (md_W o a ca S) 259 [(0, .ref o), (2, .int x2), (3, .int x3), (4, .ref (a 99))] [] := by
      intro S x3 h
      delta mm_ask_L259 at h
      refine dc_goto (pc := 259) (tgt := 23) hC (show decode prog_15_method_57_code 259 = .ok (.goto (-236), 3) by decide +kernel) (by decide +kernel) ?_
      exact hl_23 (S, x3) (dc_some h)
    have lab_221 : ∀ (S : md_S) (x3 : Int32) (x5 : Int32) (x7 : Int32), dc_wp (mm_ask_L221 S x2 x3 x5 x7) F_23 → dc_G X l { frames := 0, cells := 0, slots := 0, locals := 0 } D 8 0 0 (md_W o a ca S) 221 [(0, .ref o), (2, .int x2), (3, .int x3), (4, .ref (a 99)), (5, .int x5), (7, .int x7)] [] := by
      intro S x3 x5 x7 h
      delta mm_ask_L221 at h
      refine dc_aloadn (pc := 221) (j := 0) (i := 0) hC 0 rfl rfl (show decode prog_15_method_57_code 221 = .ok (.aload_n 0, 1) by decide +kernel) ?_
      refine md_g36 (pc := 222) hC (show decode prog_15_method_57_code 222 = .ok (.getfield 51, 3) by decide +kernel) ?_
      refine dc_iload (pc := 225) (i := 5) hC 4 rfl (show decode prog_15_method_57_code 225 = .ok (.iload 5, 2) by decide +kernel) ?_
      refine md_l36 (pc := 227) hC (show decode prog_15_method_57_code 227 = .ok (.iaload, 1) by decide +kernel) h ?_
      intro j3 h
      refine dc_if_le (pc := 228) (tgt := 259) hC (show decode prog_15_method_57_code 228 = .ok (.ifCond .le 31, 3) by decide +kernel) (by decide +kernel) h ?_ ?_
      · intro h
        refine dc_aload (pc := 231) (i := 4) hC 3 rfl (show decode prog_15_method_57_code 231 = .ok (.aload 4, 2) by decide +kernel) ?_
        refine dc_iconst (pc := 233) (v := 2) hC (show decode prog_15_method_57_code 233 = .ok (.iconst 2, 1) by decide +kernel) (by decide +kernel) ?_
        refine dc_iloadn (pc := 234) (j := 3) (i := 3) hC 2 rfl rfl (show decode prog_15_method_57_code 234 = .ok (.iload_n 3, 1) by decide +kernel) ?_
        refine dc_imul (pc := 235) hC (show decode prog_15_method_57_code 235 = .ok (.imul, 1) by decide +kernel) ?_
        refine dc_aloadn (pc := 236) (j := 0) (i := 0) hC 0 rfl rfl (show decode prog_15_method_57_code 236 = .ok (.aload_n 0, 1) by decide +kernel) ?_
        refine md_g37 (pc := 237) hC (show decode prog_15_method_57_code 237 = .ok (.getfield 54, 3) by decide +kernel) ?_
        refine dc_iload (pc := 240) (i := 5) hC 4 rfl (show decode prog_15_method_57_code 240 = .ok (.iload 5, 2) by decide +kernel) ?_
        refine md_l37 (pc := 242) hC (show decode prog_15_method_57_code 242 = .ok (.iaload, 1) by decide +kernel) h ?_
        intro j4 h
        refine md_s99 (pc := 243) hC (show decode prog_15_method_57_code 243 = .ok (.iastore, 1) by decide +kernel) h ?_
        intro j5 h
        refine dc_letS h ?_
        intro S6 h
        refine dc_aload (pc := 244) (i := 4) hC 3 rfl (show decode prog_15_method_57_code 244 = .ok (.aload 4, 2) by decide +kernel) ?_
        refine dc_iconst (pc := 246) (v := 2) hC (show decode prog_15_method_57_code 246 = .ok (.iconst 2, 1) by decide +kernel) (by decide +kernel) ?_
        refine dc_iloadn (pc := 247) (j := 3) (i := 3) hC 2 rfl rfl (show decode prog_15_method_57_code 247 = .ok (.iload_n 3, 1) by decide +kernel) ?_
        refine dc_imul (pc := 248) hC (show decode prog_15_method_57_code 248 = .ok (.imul, 1) by decide +kernel) ?_
        refine dc_iconst (pc := 249) (v := 1) hC (show decode prog_15_method_57_code 249 = .ok (.iconst 1, 1) by decide +kernel) (by decide +kernel) ?_
        refine dc_iadd (pc := 250) hC (show decode prog_15_method_57_code 250 = .ok (.iadd, 1) by decide +kernel) ?_
        refine dc_iconst (pc := 251) (v := 2) hC (show decode prog_15_method_57_code 251 = .ok (.iconst 2, 1) by decide +kernel) (by decide +kernel) ?_
        refine dc_iload (pc := 252) (i := 7) hC 5 rfl (show decode prog_15_method_57_code 252 = .ok (.iload 7, 2) by decide +kernel) ?_
        refine dc_imul (pc := 254) hC (show decode prog_15_method_57_code 254 = .ok (.imul, 1) by decide +kernel) ?_
        refine md_s99 (pc := 255) hC (show decode prog_15_method_57_code 255 = .ok (.iastore, 1) by decide +kernel) h ?_
        intro j7 h
        refine dc_letS h ?_
        intro S8 h
        refine dc_iinc (pc := 256) (i := 3) (v := (x3 + 1)) (lv' := [(3, .int (x3 + 1)), (0, .ref o), (2, .int x2), (4, .ref (a 99)), (5, .int x5), (7, .int x7)]) hC 2 rfl rfl (Nat.le_of_ble_eq_true rfl) rfl (show decode prog_15_method_57_code 256 = .ok (.iinc 3 1, 3) by decide +kernel) ?_
        exact dc_sub [1, 2, 0, 3] rfl (lab_259 S8 (x3 + 1) h)
      · intro h
        exact dc_sub [0, 1, 2, 3] rfl (lab_259 S x3 h)
    have lab_117 : ∀ (S : md_S) (x3 : Int32) (x5 : Int32), dc_wp (mm_ask_L117 S x2 x3 x5) F_23 → dc_G X l { frames := 0, cells := 0, slots := 0, locals := 0 } D 8 0 0 (md_W o a ca S) 117 [(0, .ref o), (2, .int x2), (3, .int x3), (4, .ref (a 99)), (5, .int x5)] [] := by
      intro S x3 x5 h
      delta mm_ask_L117 at h
      refine dc_aloadn (pc := 117) (j := 0) (i := 0) hC 0 rfl rfl (show decode prog_15_method_57_code 117 = .ok (.aload_n 0, 1) by decide +kernel) ?_
      refine md_g43 (pc := 118) hC (show decode prog_15_method_57_code 118 = .ok (.getfield 501, 3) by decide +kernel) ?_
      refine dc_letI h ?_
      intro v9 h
      refine dc_istore (pc := 121) (i := 7) (lv' := [(7, .int v9), (0, .ref o), (2, .int x2), (3, .int x3), (4, .ref (a 99)), (5, .int x5)]) hC (Nat.le_of_ble_eq_true rfl) rfl (show decode prog_15_method_57_code 121 = .ok (.istore 7, 2) by decide +kernel) ?_
      refine dc_aloadn (pc := 123) (j := 0) (i := 0) hC 1 rfl rfl (show decode prog_15_method_57_code 123 = .ok (.aload_n 0, 1) by decide +kernel) ?_
      refine dc_dup (pc := 124) hC (show decode prog_15_method_57_code 124 = .ok (.dup, 1) by decide +kernel) rfl ?_
      refine md_g43 (pc := 125) hC (show decode prog_15_method_57_code 125 = .ok (.getfield 501, 3) by decide +kernel) ?_
      refine dc_iconst (pc := 128) (v := 1) hC (show decode prog_15_method_57_code 128 = .ok (.iconst 1, 1) by decide +kernel) (by decide +kernel) ?_
      refine dc_iadd (pc := 129) hC (show decode prog_15_method_57_code 129 = .ok (.iadd, 1) by decide +kernel) ?_
      refine md_p43 (pc := 130) hC (show decode prog_15_method_57_code 130 = .ok (.putfield 501, 3) by decide +kernel) ?_
      refine dc_letS h ?_
      intro S10 h
      refine dc_iload (pc := 133) (i := 7) hC 0 rfl (show decode prog_15_method_57_code 133 = .ok (.iload 7, 2) by decide +kernel) ?_
      refine dc_sipush (pc := 135) (v := 1000) hC (show decode prog_15_method_57_code 135 = .ok (.sipush 1000, 3) by decide +kernel) (by decide +kernel) ?_
      refine dc_icmp_lt (pc := 138) (tgt := 144) hC (show decode prog_15_method_57_code 138 = .ok (.if_icmp .lt 6, 3) by decide +kernel) (by decide +kernel) h ?_ ?_
      · intro h
        refine dc_aloadn (pc := 144) (j := 0) (i := 0) hC 1 rfl rfl (show decode prog_15_method_57_code 144 = .ok (.aload_n 0, 1) by decide +kernel) ?_
        refine md_g63 (pc := 145) hC (show decode prog_15_method_57_code 145 = .ok (.getfield 102, 3) by decide +kernel) ?_
        refine dc_iload (pc := 148) (i := 7) hC 0 rfl (show decode prog_15_method_57_code 148 = .ok (.iload 7, 2) by decide +kernel) ?_
        refine dc_aloadn (pc := 150) (j := 0) (i := 0) hC 1 rfl rfl (show decode prog_15_method_57_code 150 = .ok (.aload_n 0, 1) by decide +kernel) ?_
        refine md_g36 (pc := 151) hC (show decode prog_15_method_57_code 151 = .ok (.getfield 51, 3) by decide +kernel) ?_
        refine dc_iload (pc := 154) (i := 5) hC 5 rfl (show decode prog_15_method_57_code 154 = .ok (.iload 5, 2) by decide +kernel) ?_
        refine md_l36 (pc := 156) hC (show decode prog_15_method_57_code 156 = .ok (.iaload, 1) by decide +kernel) h ?_
        intro j11 h
        refine md_s63 (pc := 157) hC (show decode prog_15_method_57_code 157 = .ok (.iastore, 1) by decide +kernel) h ?_
        intro j12 h
        refine dc_letS h ?_
        intro S13 h
        refine dc_aloadn (pc := 158) (j := 0) (i := 0) hC 1 rfl rfl (show decode prog_15_method_57_code 158 = .ok (.aload_n 0, 1) by decide +kernel) ?_
        refine md_g64 (pc := 159) hC (show decode prog_15_method_57_code 159 = .ok (.getfield 105, 3) by decide +kernel) ?_
        refine dc_iload (pc := 162) (i := 7) hC 0 rfl (show decode prog_15_method_57_code 162 = .ok (.iload 7, 2) by decide +kernel) ?_
        refine dc_aloadn (pc := 164) (j := 0) (i := 0) hC 1 rfl rfl (show decode prog_15_method_57_code 164 = .ok (.aload_n 0, 1) by decide +kernel) ?_
        refine md_g37 (pc := 165) hC (show decode prog_15_method_57_code 165 = .ok (.getfield 54, 3) by decide +kernel) ?_
        refine dc_iload (pc := 168) (i := 5) hC 5 rfl (show decode prog_15_method_57_code 168 = .ok (.iload 5, 2) by decide +kernel) ?_
        refine md_l37 (pc := 170) hC (show decode prog_15_method_57_code 170 = .ok (.iaload, 1) by decide +kernel) h ?_
        intro j14 h
        refine md_s64 (pc := 171) hC (show decode prog_15_method_57_code 171 = .ok (.iastore, 1) by decide +kernel) h ?_
        intro j15 h
        refine dc_letS h ?_
        intro S16 h
        refine dc_aloadn (pc := 172) (j := 0) (i := 0) hC 1 rfl rfl (show decode prog_15_method_57_code 172 = .ok (.aload_n 0, 1) by decide +kernel) ?_
        refine md_g65 (pc := 173) hC (show decode prog_15_method_57_code 173 = .ok (.getfield 108, 3) by decide +kernel) ?_
        refine dc_iload (pc := 176) (i := 7) hC 0 rfl (show decode prog_15_method_57_code 176 = .ok (.iload 7, 2) by decide +kernel) ?_
        refine dc_iconst (pc := 178) (v := (-1)) hC (show decode prog_15_method_57_code 178 = .ok (.iconst (-1), 1) by decide +kernel) (by decide +kernel) ?_
        refine md_s65 (pc := 179) hC (show decode prog_15_method_57_code 179 = .ok (.iastore, 1) by decide +kernel) h ?_
        intro j17 h
        refine dc_letS h ?_
        intro S18 h
        refine dc_aloadn (pc := 180) (j := 0) (i := 0) hC 1 rfl rfl (show decode prog_15_method_57_code 180 = .ok (.aload_n 0, 1) by decide +kernel) ?_
        refine md_g38 (pc := 181) hC (show decode prog_15_method_57_code 181 = .ok (.getfield 57, 3) by decide +kernel) ?_
        refine dc_iload (pc := 184) (i := 5) hC 5 rfl (show decode prog_15_method_57_code 184 = .ok (.iload 5, 2) by decide +kernel) ?_
        refine md_l38 (pc := 186) hC (show decode prog_15_method_57_code 186 = .ok (.iaload, 1) by decide +kernel) h ?_
        intro j19 h
        refine dc_iconst (pc := 187) (v := (-1)) hC (show decode prog_15_method_57_code 187 = .ok (.iconst (-1), 1) by decide +kernel) (by decide +kernel) ?_
        refine dc_icmp_eq (pc := 188) (tgt := 221) hC (show decode prog_15_method_57_code 188 = .ok (.if_icmp .eq 33, 3) by decide +kernel) (by decide +kernel) h ?_ ?_
        · intro h
          exact dc_sub [1, 2, 3, 4, 5, 0] rfl (lab_221 S18 x3 x5 v9 h)
        · intro h
          refine dc_aload (pc := 191) (i := 4) hC 4 rfl (show decode prog_15_method_57_code 191 = .ok (.aload 4, 2) by decide +kernel) ?_
          refine dc_iconst (pc := 193) (v := 2) hC (show decode prog_15_method_57_code 193 = .ok (.iconst 2, 1) by decide +kernel) (by decide +kernel) ?_
          refine dc_iloadn (pc := 194) (j := 3) (i := 3) hC 3 rfl rfl (show decode prog_15_method_57_code 194 = .ok (.iload_n 3, 1) by decide +kernel) ?_
          refine dc_imul (pc := 195) hC (show decode prog_15_method_57_code 195 = .ok (.imul, 1) by decide +kernel) ?_
          refine dc_aloadn (pc := 196) (j := 0) (i := 0) hC 1 rfl rfl (show decode prog_15_method_57_code 196 = .ok (.aload_n 0, 1) by decide +kernel) ?_
          refine md_g38 (pc := 197) hC (show decode prog_15_method_57_code 197 = .ok (.getfield 57, 3) by decide +kernel) ?_
          refine dc_iload (pc := 200) (i := 5) hC 5 rfl (show decode prog_15_method_57_code 200 = .ok (.iload 5, 2) by decide +kernel) ?_
          refine md_l38 (pc := 202) hC (show decode prog_15_method_57_code 202 = .ok (.iaload, 1) by decide +kernel) h ?_
          intro j20 h
          refine md_s99 (pc := 203) hC (show decode prog_15_method_57_code 203 = .ok (.iastore, 1) by decide +kernel) h ?_
          intro j21 h
          refine dc_letS h ?_
          intro S22 h
          refine dc_aload (pc := 204) (i := 4) hC 4 rfl (show decode prog_15_method_57_code 204 = .ok (.aload 4, 2) by decide +kernel) ?_
          refine dc_iconst (pc := 206) (v := 2) hC (show decode prog_15_method_57_code 206 = .ok (.iconst 2, 1) by decide +kernel) (by decide +kernel) ?_
          refine dc_iloadn (pc := 207) (j := 3) (i := 3) hC 3 rfl rfl (show decode prog_15_method_57_code 207 = .ok (.iload_n 3, 1) by decide +kernel) ?_
          refine dc_imul (pc := 208) hC (show decode prog_15_method_57_code 208 = .ok (.imul, 1) by decide +kernel) ?_
          refine dc_iconst (pc := 209) (v := 1) hC (show decode prog_15_method_57_code 209 = .ok (.iconst 1, 1) by decide +kernel) (by decide +kernel) ?_
          refine dc_iadd (pc := 210) hC (show decode prog_15_method_57_code 210 = .ok (.iadd, 1) by decide +kernel) ?_
          refine dc_iconst (pc := 211) (v := 2) hC (show decode prog_15_method_57_code 211 = .ok (.iconst 2, 1) by decide +kernel) (by decide +kernel) ?_
          refine dc_iload (pc := 212) (i := 7) hC 0 rfl (show decode prog_15_method_57_code 212 = .ok (.iload 7, 2) by decide +kernel) ?_
          refine dc_imul (pc := 214) hC (show decode prog_15_method_57_code 214 = .ok (.imul, 1) by decide +kernel) ?_
          refine dc_iconst (pc := 215) (v := 1) hC (show decode prog_15_method_57_code 215 = .ok (.iconst 1, 1) by decide +kernel) (by decide +kernel) ?_
          refine dc_iadd (pc := 216) hC (show decode prog_15_method_57_code 216 = .ok (.iadd, 1) by decide +kernel) ?_
          refine md_s99 (pc := 217) hC (show decode prog_15_method_57_code 217 = .ok (.iastore, 1) by decide +kernel) h ?_
          intro j23 h
          refine dc_letS h ?_
          intro S24 h
          refine dc_iinc (pc := 218) (i := 3) (v := (x3 + 1)) (lv' := [(3, .int (x3 + 1)), (7, .int v9), (0, .ref o), (2, .int x2), (4, .ref (a 99)), (5, .int x5)]) hC 3 rfl rfl (Nat.le_of_ble_eq_true rfl) rfl (show decode prog_15_method_57_code 218 = .ok (.iinc 3 1, 3) by decide +kernel) ?_
          exact dc_sub [2, 3, 0, 4, 5, 1] rfl (lab_221 S24 (x3 + 1) x5 v9 h)
      · intro h
        refine dc_goto (pc := 141) (tgt := 23) hC (show decode prog_15_method_57_code 141 = .ok (.goto (-118), 3) by decide +kernel) (by decide +kernel) ?_
        exact dc_sub [1, 2, 3, 4] rfl (hl_23 (S10, x3) (dc_some h))
    have lab_88 : ∀ (S : md_S) (x3 : Int32) (x5 : Int32) (x6 : Int32), dc_wp (mm_ask_L88 S x2 x3 x5 x6) F_23 → dc_G X l { frames := 0, cells := 0, slots := 0, locals := 0 } D 8 0 0 (md_W o a ca S) 88 [(0, .ref o), (2, .int x2), (3, .int x3), (4, .ref (a 99)), (5, .int x5), (6, .int x6)] [] := by
      intro S x3 x5 x6 h
      delta mm_ask_L88 at h
      refine dc_iload (pc := 88) (i := 6) hC 5 rfl (show decode prog_15_method_57_code 88 = .ok (.iload 6, 2) by decide +kernel) ?_
      refine dc_iconst (pc := 90) (v := (-1)) hC (show decode prog_15_method_57_code 90 = .ok (.iconst (-1), 1) by decide +kernel) (by decide +kernel) ?_
      refine dc_icmp_eq (pc := 91) (tgt := 117) hC (show decode prog_15_method_57_code 91 = .ok (.if_icmp .eq 26, 3) by decide +kernel) (by decide +kernel) h ?_ ?_
      · intro h
        exact dc_sub [0, 1, 2, 3, 4] rfl (lab_117 S x3 x5 h)
      · intro h
        refine dc_aloadn (pc := 94) (j := 0) (i := 0) hC 0 rfl rfl (show decode prog_15_method_57_code 94 = .ok (.aload_n 0, 1) by decide +kernel) ?_
        refine md_g43 (pc := 95) hC (show decode prog_15_method_57_code 95 = .ok (.getfield 501, 3) by decide +kernel) ?_
        refine dc_sipush (pc := 98) (v := 1000) hC (show decode prog_15_method_57_code 98 = .ok (.sipush 1000, 3) by decide +kernel) (by decide +kernel) ?_
        refine dc_icmp_ge (pc := 101) (tgt := 117) hC (show decode prog_15_method_57_code 101 = .ok (.if_icmp .ge 16, 3) by decide +kernel) (by decide +kernel) h ?_ ?_
        · intro h
          refine dc_aloadn (pc := 104) (j := 0) (i := 0) hC 0 rfl rfl (show decode prog_15_method_57_code 104 = .ok (.aload_n 0, 1) by decide +kernel) ?_
          refine md_g64 (pc := 105) hC (show decode prog_15_method_57_code 105 = .ok (.getfield 105, 3) by decide +kernel) ?_
          refine dc_iload (pc := 108) (i := 6) hC 5 rfl (show decode prog_15_method_57_code 108 = .ok (.iload 6, 2) by decide +kernel) ?_
          refine dc_iconst (pc := 110) (v := 1) hC (show decode prog_15_method_57_code 110 = .ok (.iconst 1, 1) by decide +kernel) (by decide +kernel) ?_
          refine dc_ishr (pc := 111) hC (show decode prog_15_method_57_code 111 = .ok (.ishr, 1) by decide +kernel) ?_
          refine dc_aloadn (pc := 112) (j := 0) (i := 0) hC 0 rfl rfl (show decode prog_15_method_57_code 112 = .ok (.aload_n 0, 1) by decide +kernel) ?_
          refine md_g43 (pc := 113) hC (show decode prog_15_method_57_code 113 = .ok (.getfield 501, 3) by decide +kernel) ?_
          refine md_s64 (pc := 116) hC (show decode prog_15_method_57_code 116 = .ok (.iastore, 1) by decide +kernel) h ?_
          intro j25 h
          refine dc_letS h ?_
          intro S26 h
          exact dc_sub [0, 1, 2, 3, 4] rfl (lab_117 S26 x3 x5 h)
        · intro h
          exact dc_sub [0, 1, 2, 3, 4] rfl (lab_117 S x3 x5 h)
    rintro ⟨S, x3⟩ h
    have h : dc_wp (mm_ask_b23 S x2 x3) F_23 := h
    delta mm_ask_b23 at h
    refine dc_iloadn (pc := 23) (j := 3) (i := 3) hC 2 rfl rfl (show decode prog_15_method_57_code 23 = .ok (.iload_n 3, 1) by decide +kernel) ?_
    refine dc_if_le (pc := 24) (tgt := 262) hC (show decode prog_15_method_57_code 24 = .ok (.ifCond .le 238, 3) by decide +kernel) (by decide +kernel) h ?_ ?_
    · intro h
      refine dc_iinc (pc := 27) (i := 3) (v := (x3 + (-1))) (lv' := [(3, .int (x3 + (-1))), (0, .ref o), (2, .int x2), (4, .ref (a 99))]) hC 2 rfl (congrArg (fun z => x3 + z) (show Int32.ofInt (-1) = (-1 : Int32) by decide +kernel)) (Nat.le_of_ble_eq_true rfl) rfl (show decode prog_15_method_57_code 27 = .ok (.iinc 3 (-1), 3) by decide +kernel) ?_
      refine dc_aload (pc := 30) (i := 4) hC 3 rfl (show decode prog_15_method_57_code 30 = .ok (.aload 4, 2) by decide +kernel) ?_
      refine dc_iconst (pc := 32) (v := 2) hC (show decode prog_15_method_57_code 32 = .ok (.iconst 2, 1) by decide +kernel) (by decide +kernel) ?_
      refine dc_iloadn (pc := 33) (j := 3) (i := 3) hC 0 rfl rfl (show decode prog_15_method_57_code 33 = .ok (.iload_n 3, 1) by decide +kernel) ?_
      refine dc_imul (pc := 34) hC (show decode prog_15_method_57_code 34 = .ok (.imul, 1) by decide +kernel) ?_
      refine md_l99 (pc := 35) hC (show decode prog_15_method_57_code 35 = .ok (.iaload, 1) by decide +kernel) h ?_
      intro j27 h
      refine dc_letI h ?_
      intro v28 h
      refine dc_istore (pc := 36) (i := 5) (lv' := [(5, .int v28), (3, .int (x3 + (-1))), (0, .ref o), (2, .int x2), (4, .ref (a 99))]) hC (Nat.le_of_ble_eq_true rfl) rfl (show decode prog_15_method_57_code 36 = .ok (.istore 5, 2) by decide +kernel) ?_
      refine dc_aload (pc := 38) (i := 4) hC 4 rfl (show decode prog_15_method_57_code 38 = .ok (.aload 4, 2) by decide +kernel) ?_
      refine dc_iconst (pc := 40) (v := 2) hC (show decode prog_15_method_57_code 40 = .ok (.iconst 2, 1) by decide +kernel) (by decide +kernel) ?_
      refine dc_iloadn (pc := 41) (j := 3) (i := 3) hC 1 rfl rfl (show decode prog_15_method_57_code 41 = .ok (.iload_n 3, 1) by decide +kernel) ?_
      refine dc_imul (pc := 42) hC (show decode prog_15_method_57_code 42 = .ok (.imul, 1) by decide +kernel) ?_
      refine dc_iconst (pc := 43) (v := 1) hC (show decode prog_15_method_57_code 43 = .ok (.iconst 1, 1) by decide +kernel) (by decide +kernel) ?_
      refine dc_iadd (pc := 44) hC (show decode prog_15_method_57_code 44 = .ok (.iadd, 1) by decide +kernel) ?_
      refine md_l99 (pc := 45) hC (show decode prog_15_method_57_code 45 = .ok (.iaload, 1) by decide +kernel) h ?_
      intro j29 h
      refine dc_letI h ?_
      intro v30 h
      refine dc_istore (pc := 46) (i := 6) (lv' := [(6, .int v30), (5, .int v28), (3, .int (x3 + (-1))), (0, .ref o), (2, .int x2), (4, .ref (a 99))]) hC (Nat.le_of_ble_eq_true rfl) rfl (show decode prog_15_method_57_code 46 = .ok (.istore 6, 2) by decide +kernel) ?_
      refine dc_iload (pc := 48) (i := 6) hC 0 rfl (show decode prog_15_method_57_code 48 = .ok (.iload 6, 2) by decide +kernel) ?_
      refine dc_iconst (pc := 50) (v := (-1)) hC (show decode prog_15_method_57_code 50 = .ok (.iconst (-1), 1) by decide +kernel) (by decide +kernel) ?_
      refine dc_icmp_eq (pc := 51) (tgt := 88) hC (show decode prog_15_method_57_code 51 = .ok (.if_icmp .eq 37, 3) by decide +kernel) (by decide +kernel) h ?_ ?_
      · intro h
        exact dc_sub [3, 4, 2, 5, 1, 0] rfl (lab_88 S (x3 + (-1)) v28 v30 h)
      · intro h
        refine dc_iload (pc := 54) (i := 6) hC 0 rfl (show decode prog_15_method_57_code 54 = .ok (.iload 6, 2) by decide +kernel) ?_
        refine dc_iconst (pc := 56) (v := 1) hC (show decode prog_15_method_57_code 56 = .ok (.iconst 1, 1) by decide +kernel) (by decide +kernel) ?_
        refine dc_iand (pc := 57) hC (show decode prog_15_method_57_code 57 = .ok (.iand, 1) by decide +kernel) ?_
        refine dc_iconst (pc := 58) (v := 1) hC (show decode prog_15_method_57_code 58 = .ok (.iconst 1, 1) by decide +kernel) (by decide +kernel) ?_
        refine dc_icmp_ne (pc := 59) (tgt := 88) hC (show decode prog_15_method_57_code 59 = .ok (.if_icmp .ne 29, 3) by decide +kernel) (by decide +kernel) h ?_ ?_
        · intro h
          refine dc_aloadn (pc := 62) (j := 0) (i := 0) hC 3 rfl rfl (show decode prog_15_method_57_code 62 = .ok (.aload_n 0, 1) by decide +kernel) ?_
          refine md_g43 (pc := 63) hC (show decode prog_15_method_57_code 63 = .ok (.getfield 501, 3) by decide +kernel) ?_
          refine dc_sipush (pc := 66) (v := 1000) hC (show decode prog_15_method_57_code 66 = .ok (.sipush 1000, 3) by decide +kernel) (by decide +kernel) ?_
          refine dc_icmp_ge (pc := 69) (tgt := 88) hC (show decode prog_15_method_57_code 69 = .ok (.if_icmp .ge 19, 3) by decide +kernel) (by decide +kernel) h ?_ ?_
          · intro h
            refine dc_aloadn (pc := 72) (j := 0) (i := 0) hC 3 rfl rfl (show decode prog_15_method_57_code 72 = .ok (.aload_n 0, 1) by decide +kernel) ?_
            refine md_g65 (pc := 73) hC (show decode prog_15_method_57_code 73 = .ok (.getfield 108, 3) by decide +kernel) ?_
            refine dc_iload (pc := 76) (i := 6) hC 0 rfl (show decode prog_15_method_57_code 76 = .ok (.iload 6, 2) by decide +kernel) ?_
            refine dc_iconst (pc := 78) (v := 1) hC (show decode prog_15_method_57_code 78 = .ok (.iconst 1, 1) by decide +kernel) (by decide +kernel) ?_
            refine dc_ishr (pc := 79) hC (show decode prog_15_method_57_code 79 = .ok (.ishr, 1) by decide +kernel) ?_
            refine dc_aloadn (pc := 80) (j := 0) (i := 0) hC 3 rfl rfl (show decode prog_15_method_57_code 80 = .ok (.aload_n 0, 1) by decide +kernel) ?_
            refine md_g43 (pc := 81) hC (show decode prog_15_method_57_code 81 = .ok (.getfield 501, 3) by decide +kernel) ?_
            refine md_s65 (pc := 84) hC (show decode prog_15_method_57_code 84 = .ok (.iastore, 1) by decide +kernel) h ?_
            intro j31 h
            refine dc_letS h ?_
            intro S32 h
            refine dc_goto (pc := 85) (tgt := 117) hC (show decode prog_15_method_57_code 85 = .ok (.goto 32, 3) by decide +kernel) (by decide +kernel) ?_
            exact dc_sub [3, 4, 2, 5, 1] rfl (lab_117 S32 (x3 + (-1)) v28 h)
          · intro h
            exact dc_sub [3, 4, 2, 5, 1, 0] rfl (lab_88 S (x3 + (-1)) v28 v30 h)
        · intro h
          exact dc_sub [3, 4, 2, 5, 1, 0] rfl (lab_88 S (x3 + (-1)) v28 v30 h)
    · intro h
      have h : dc_wp (mm_ask_L262 S x2) F := hr_23 S (dc_some h)
      exact dc_sub [0, 1] rfl (lab_262 S x2 h)
  have lab_23 : ∀ (S : md_S) (x2 : Int32) (x3 : Int32), dc_wp (mm_ask_L23 S x2 x3) F → dc_G X l { frames := 0, cells := 0, slots := 0, locals := 0 } D 8 0 0 (md_W o a ca S) 23 [(0, .ref o), (2, .int x2), (3, .int x3), (4, .ref (a 99))] [] := fun S x2 x3 h => loop_23 x2 (S, x3) (dc_bind h)
  show dc_G X l { frames := 0, cells := 0, slots := 0, locals := 0 } D 8 0 0 (md_W o a ca S) 0 [(0, .ref o), (1, .int p1)] []
  delta mm_ask at h
  refine dc_aloadn (pc := 0) (j := 0) (i := 0) hC 0 rfl rfl (show decode prog_15_method_57_code 0 = .ok (.aload_n 0, 1) by decide +kernel) ?_
  refine md_g43 (pc := 1) hC (show decode prog_15_method_57_code 1 = .ok (.getfield 501, 3) by decide +kernel) ?_
  refine dc_letI h ?_
  intro v33 h
  refine dc_istoren (pc := 4) (j := 2) (i := 2) (lv' := [(2, .int v33), (0, .ref o), (1, .int p1)]) hC rfl (Nat.le_of_ble_eq_true rfl) rfl (show decode prog_15_method_57_code 4 = .ok (.istore_n 2, 1) by decide +kernel) ?_
  refine dc_iconst (pc := 5) (v := 1) hC (show decode prog_15_method_57_code 5 = .ok (.iconst 1, 1) by decide +kernel) (by decide +kernel) ?_
  refine dc_istoren (pc := 6) (j := 3) (i := 3) (lv' := [(3, .int 1), (2, .int v33), (0, .ref o), (1, .int p1)]) hC rfl (Nat.le_of_ble_eq_true rfl) rfl (show decode prog_15_method_57_code 6 = .ok (.istore_n 3, 1) by decide +kernel) ?_
  refine dc_aloadn (pc := 7) (j := 0) (i := 0) hC 2 rfl rfl (show decode prog_15_method_57_code 7 = .ok (.aload_n 0, 1) by decide +kernel) ?_
  refine md_g99 (pc := 8) hC (show decode prog_15_method_57_code 8 = .ok (.getfield 184, 3) by decide +kernel) ?_
  refine dc_astore (pc := 11) (i := 4) (lv' := [(4, .ref (a 99)), (3, .int 1), (2, .int v33), (0, .ref o), (1, .int p1)]) hC (Nat.le_of_ble_eq_true rfl) rfl (show decode prog_15_method_57_code 11 = .ok (.astore 4, 2) by decide +kernel) ?_
  refine dc_aload (pc := 13) (i := 4) hC 0 rfl (show decode prog_15_method_57_code 13 = .ok (.aload 4, 2) by decide +kernel) ?_
  refine dc_iconst (pc := 15) (v := 0) hC (show decode prog_15_method_57_code 15 = .ok (.iconst 0, 1) by decide +kernel) (by decide +kernel) ?_
  refine dc_iloadn (pc := 16) (j := 1) (i := 1) hC 4 rfl rfl (show decode prog_15_method_57_code 16 = .ok (.iload_n 1, 1) by decide +kernel) ?_
  refine md_s99 (pc := 17) hC (show decode prog_15_method_57_code 17 = .ok (.iastore, 1) by decide +kernel) h ?_
  intro j34 h
  refine dc_letS h ?_
  intro S35 h
  refine dc_aload (pc := 18) (i := 4) hC 0 rfl (show decode prog_15_method_57_code 18 = .ok (.aload 4, 2) by decide +kernel) ?_
  refine dc_iconst (pc := 20) (v := 1) hC (show decode prog_15_method_57_code 20 = .ok (.iconst 1, 1) by decide +kernel) (by decide +kernel) ?_
  refine dc_iconst (pc := 21) (v := (-1)) hC (show decode prog_15_method_57_code 21 = .ok (.iconst (-1), 1) by decide +kernel) (by decide +kernel) ?_
  refine md_s99 (pc := 22) hC (show decode prog_15_method_57_code 22 = .ok (.iastore, 1) by decide +kernel) h ?_
  intro j36 h
  refine dc_letS h ?_
  intro S37 h
  exact dc_sub [3, 2, 1, 0] rfl (lab_23 S37 v33 1 h)
noncomputable def mm_around_L27 (S : md_S) (x2 : Int32) : Option (Int32) :=
  some x2
noncomputable def mm_around_b9 (S : md_S) (x2 : Int32) (x3 : Int32) : Option ((Int32 × Int32) ⊕ ((Int32))) :=
  if x3 = (-1) then (some (.inr x2)) else ((dc_ix x3 1200).bind fun j1 => dc_let ((S.2.1 60 j1) : Int32) fun v2 => some (.inl ((x2 + 1), v2)))
noncomputable def mm_around_s9 (S : md_S) (q : Int32 × Int32) : Option ((Int32 × Int32) ⊕ ((Int32))) :=
  mm_around_b9 S q.1 q.2
noncomputable def mm_around_L9 (S : md_S) (x2 : Int32) (x3 : Int32) : Option (Int32) :=
  (dc_it (mm_around_s9 S) (x2, x3)).bind (fun (z : Int32) => mm_around_L27 S z)
noncomputable def mm_around (S : md_S) (p1 : Int32) : Option (Int32) :=
  (dc_ix p1 1200).bind fun j3 => dc_let ((S.2.1 60 j3) : Int32) fun v4 => mm_around_L9 S 0 v4
set_option maxHeartbeats 4000000 in
set_option maxRecDepth 100000 in
/-- around(I)I -/
theorem mm_around_ok (l : Launch) (D : va_G) (ad : Nat → Nat) (de : Nat) (o : Nat) (a : Nat → Nat) (ca : Nat → ClassId) (S : md_S) (p1 : Int32) (F : Int32 → Prop) (h : dc_wp (mm_around S p1) F) : dc_Ci l ⟨"SignalEngineModel", "around", "(I)I"⟩ prog_15_method_56_code 4 (some (.int)) 0 0 D (md_T ca) ad de [.ref o, .int p1] (md_W o a ca S) (fun r w => ∃ q, F q ∧ r = q ∧ w = (md_W o a ca S)) 0 0 := by
  refine dc_enteri (by decide +kernel) (Nat.le_of_ble_eq_true rfl) ?_
  intro X hC hR
  have lab_27 : ∀ (x2 : Int32), dc_wp (mm_around_L27 S x2) F → dc_G X l { frames := 0, cells := 0, slots := 0, locals := 0 } D 4 0 0 (md_W o a ca S) 27 [(0, .ref o), (2, .int x2)] [] := by
    intro x2 h
    delta mm_around_L27 at h
    refine dc_iloadn (pc := 27) (j := 2) (i := 2) hC 1 rfl rfl (show decode prog_15_method_56_code 27 = .ok (.iload_n 2, 1) by decide +kernel) ?_
    exact dc_iret (pc := 28) hC hR ⟨_, dc_some h, rfl, rfl⟩ (show decode prog_15_method_56_code 28 = .ok (.ireturn, 1) by decide +kernel)
  have loop_9 : ∀ (q : Int32 × Int32), dc_wp (dc_it (mm_around_s9 S) q) (fun z => dc_wp ((fun (z : Int32) => mm_around_L27 S z) z) F) → dc_G X l { frames := 0, cells := 0, slots := 0, locals := 0 } D 4 0 0 (md_W o a ca S) 9 [(0, .ref o), (2, .int q.1), (3, .int q.2)] [] := by
    refine dc_loopF ?_
    intro F_9 hl_9 hr_9
    rintro ⟨x2, x3⟩ h
    have h : dc_wp (mm_around_b9 S x2 x3) F_9 := h
    delta mm_around_b9 at h
    refine dc_iloadn (pc := 9) (j := 3) (i := 3) hC 2 rfl rfl (show decode prog_15_method_56_code 9 = .ok (.iload_n 3, 1) by decide +kernel) ?_
    refine dc_iconst (pc := 10) (v := (-1)) hC (show decode prog_15_method_56_code 10 = .ok (.iconst (-1), 1) by decide +kernel) (by decide +kernel) ?_
    refine dc_icmp_eq (pc := 11) (tgt := 27) hC (show decode prog_15_method_56_code 11 = .ok (.if_icmp .eq 16, 3) by decide +kernel) (by decide +kernel) h ?_ ?_
    · intro h
      have h : dc_wp (mm_around_L27 S x2) F := hr_9 x2 (dc_some h)
      exact dc_sub [0, 1] rfl (lab_27 x2 h)
    · intro h
      refine dc_iinc (pc := 14) (i := 2) (v := (x2 + 1)) (lv' := [(2, .int (x2 + 1)), (0, .ref o), (3, .int x3)]) hC 1 rfl rfl (Nat.le_of_ble_eq_true rfl) rfl (show decode prog_15_method_56_code 14 = .ok (.iinc 2 1, 3) by decide +kernel) ?_
      refine dc_aloadn (pc := 17) (j := 0) (i := 0) hC 1 rfl rfl (show decode prog_15_method_56_code 17 = .ok (.aload_n 0, 1) by decide +kernel) ?_
      refine md_g60 (pc := 18) hC (show decode prog_15_method_56_code 18 = .ok (.getfield 93, 3) by decide +kernel) ?_
      refine dc_iloadn (pc := 21) (j := 3) (i := 3) hC 2 rfl rfl (show decode prog_15_method_56_code 21 = .ok (.iload_n 3, 1) by decide +kernel) ?_
      refine md_l60 (pc := 22) hC (show decode prog_15_method_56_code 22 = .ok (.iaload, 1) by decide +kernel) h ?_
      intro j1 h
      refine dc_letI h ?_
      intro v2 h
      refine dc_istoren (pc := 23) (j := 3) (i := 3) (lv' := [(3, .int v2), (2, .int (x2 + 1)), (0, .ref o)]) hC rfl (Nat.le_of_ble_eq_true rfl) rfl (show decode prog_15_method_56_code 23 = .ok (.istore_n 3, 1) by decide +kernel) ?_
      refine dc_goto (pc := 24) (tgt := 9) hC (show decode prog_15_method_56_code 24 = .ok (.goto (-15), 3) by decide +kernel) (by decide +kernel) ?_
      exact dc_sub [2, 1, 0] rfl (hl_9 ((x2 + 1), v2) (dc_some h))
  have lab_9 : ∀ (x2 : Int32) (x3 : Int32), dc_wp (mm_around_L9 S x2 x3) F → dc_G X l { frames := 0, cells := 0, slots := 0, locals := 0 } D 4 0 0 (md_W o a ca S) 9 [(0, .ref o), (2, .int x2), (3, .int x3)] [] := fun x2 x3 h => loop_9  (x2, x3) (dc_bind h)
  show dc_G X l { frames := 0, cells := 0, slots := 0, locals := 0 } D 4 0 0 (md_W o a ca S) 0 [(0, .ref o), (1, .int p1)] []
  delta mm_around at h
  refine dc_iconst (pc := 0) (v := 0) hC (show decode prog_15_method_56_code 0 = .ok (.iconst 0, 1) by decide +kernel) (by decide +kernel) ?_
  refine dc_istoren (pc := 1) (j := 2) (i := 2) (lv' := [(2, .int 0), (0, .ref o), (1, .int p1)]) hC rfl (Nat.le_of_ble_eq_true rfl) rfl (show decode prog_15_method_56_code 1 = .ok (.istore_n 2, 1) by decide +kernel) ?_
  refine dc_aloadn (pc := 2) (j := 0) (i := 0) hC 1 rfl rfl (show decode prog_15_method_56_code 2 = .ok (.aload_n 0, 1) by decide +kernel) ?_
  refine md_g60 (pc := 3) hC (show decode prog_15_method_56_code 3 = .ok (.getfield 93, 3) by decide +kernel) ?_
  refine dc_iloadn (pc := 6) (j := 1) (i := 1) hC 2 rfl rfl (show decode prog_15_method_56_code 6 = .ok (.iload_n 1, 1) by decide +kernel) ?_
  refine md_l60 (pc := 7) hC (show decode prog_15_method_56_code 7 = .ok (.iaload, 1) by decide +kernel) h ?_
  intro j3 h
  refine dc_letI h ?_
  intro v4 h
  refine dc_istoren (pc := 8) (j := 3) (i := 3) (lv' := [(3, .int v4), (2, .int 0), (0, .ref o), (1, .int p1)]) hC rfl (Nat.le_of_ble_eq_true rfl) rfl (show decode prog_15_method_56_code 8 = .ok (.istore_n 3, 1) by decide +kernel) ?_
  exact dc_sub [2, 1, 0] rfl (lab_9 0 v4 h)
noncomputable def mm_code_L322 (S : md_S) : Option (md_S) :=
  some S
noncomputable def mm_code_L245 (S : md_S) (x1 : Int32) : Option (md_S) :=
  (dc_ix x1 1200).bind fun j1 => (dc_ix x1 1200).bind fun j2 => dc_let (md_a S 55 j2 ((1 : Int32) <<< ((S.2.1 54 j1) &&& (31 : Int32)))) fun S3 => mm_code_L322 S3
noncomputable def mm_code_b211 (S : md_S) (x1 : Int32) (x4 : Int32) (x5 : Int32) : Option ((md_S × Int32) ⊕ ((md_S))) :=
  (dc_ix x5 1200).bind fun j4 => if (S.2.1 54 j4) = x4 then (some (.inr S)) else ((dc_ix x1 1200).bind fun j5 => (dc_ix x1 1200).bind fun j6 => dc_let (md_a S 54 j6 ((S.2.1 54 j5) + 1)) fun S7 => (dc_ix x5 1200).bind fun j8 => dc_let ((S7.2.1 60 j8) : Int32) fun v9 => some (.inl (S7, v9)))
noncomputable def mm_code_s211 (x1 : Int32) (x4 : Int32) (q : md_S × Int32) : Option ((md_S × Int32) ⊕ ((md_S))) :=
  mm_code_b211 q.1 x1 x4 q.2
noncomputable def mm_code_L211 (S : md_S) (x1 : Int32) (x4 : Int32) (x5 : Int32) : Option (md_S) :=
  (dc_it (mm_code_s211 x1 x4) (S, x5)).bind (fun (z : md_S) => mm_code_L245 z x1)
noncomputable def mm_code_L108 (S : md_S) (x1 : Int32) (x2 : Int32) (x3 : Int32) (y0 : Int32) (y1 : Int32) : Option (md_S) :=
  (dc_ix y1 1200).bind fun j10 => dc_let (md_a S 59 j10 y0) fun S11 => (dc_ix x1 1200).bind fun j12 => dc_let ((S11.2.1 51 j12) : Int32) fun v13 => if v13 = 0 then ((dc_ix x1 1200).bind fun j14 => dc_let (md_a S11 55 j14 1) fun S15 => mm_code_L322 S15) else if v13 = 1 then ((dc_ix x1 1200).bind fun j17 => dc_let (md_a S11 55 j17 2) fun S18 => mm_code_L322 S18) else if v13 = 2 then ((dc_ix x1 1200).bind fun j20 => dc_let (md_a S11 55 j20 1) fun S21 => mm_code_L322 S21) else if v13 = 3 then ((dc_ix x1 1200).bind fun j23 => dc_let (md_a S11 55 j23 (x2 ||| x3)) fun S24 => mm_code_L322 S24) else if v13 = 4 then ((dc_ix x1 1200).bind fun j26 => dc_let (md_a S11 55 j26 x2) fun S27 => mm_code_L322 S27) else if v13 = 5 then ((mm_then x2 x3).bind fun q29 => (dc_ix x1 1200).bind fun j30 => dc_let (md_a S11 55 j30 q29) fun S31 => mm_code_L322 S31) else if v13 = 6 then ((dc_ix x1 1200).bind fun j33 => dc_let (md_a S11 55 j33 x2) fun S34 => mm_code_L322 S34) else if v13 = 7 then ((mm_pairs x2 x3).bind fun q36 => (dc_ix x1 1200).bind fun j37 => dc_let (md_a S11 55 j37 q36) fun S38 => mm_code_L322 S38) else if v13 = 8 then ((mm_caught x2).bind fun q40 => (dc_ix x1 1200).bind fun j41 => dc_let (md_a S11 55 j41 q40) fun S42 => mm_code_L322 S42) else if v13 = 9 then ((dc_ix x1 1200).bind fun j44 => dc_let ((S11.2.1 54 j44) : Int32) fun v45 => (dc_ix x1 1200).bind fun j46 => dc_let (md_a S11 54 j46 2) fun S47 => (dc_ix x1 1200).bind fun j48 => dc_let ((S47.2.1 60 j48) : Int32) fun v49 => mm_code_L211 S47 x1 v45 v49) else ((dc_ix x1 1200).bind fun j51 => dc_let (md_a S11 55 j51 x2) fun S52 => mm_code_L322 S52)
noncomputable def mm_code_L51 (S : md_S) (x1 : Int32) (x2 : Int32) (y0 : Int32) : Option (md_S) :=
  (dc_ix x1 1200).bind fun j53 => if (S.2.1 53 j53) = (-1) then ((dc_ix x1 1200).bind fun j54 => if (S.2.1 52 j54) = (-1) then (mm_code_L108 S x1 x2 y0 (x1 + 1) x1) else ((dc_ix x1 1200).bind fun j55 => (dc_ix (S.2.1 52 j55) 1200).bind fun j56 => mm_code_L108 S x1 x2 y0 (S.2.1 59 j56) x1)) else ((dc_ix x1 1200).bind fun j57 => (dc_ix (S.2.1 53 j57) 1200).bind fun j58 => mm_code_L108 S x1 x2 y0 (S.2.1 59 j58) x1)
noncomputable def mm_code_L25 (S : md_S) (x1 : Int32) (y0 : Int32) : Option (md_S) :=
  (dc_ix x1 1200).bind fun j59 => if (S.2.1 53 j59) = (-1) then (mm_code_L51 S x1 y0 0) else ((dc_ix x1 1200).bind fun j60 => (dc_ix (S.2.1 53 j60) 1200).bind fun j61 => mm_code_L51 S x1 y0 (S.2.1 55 j61))
noncomputable def mm_code (S : md_S) (p1 : Int32) : Option (md_S) :=
  (dc_ix p1 1200).bind fun j62 => if (S.2.1 52 j62) = (-1) then (mm_code_L25 S p1 0) else ((dc_ix p1 1200).bind fun j63 => (dc_ix (S.2.1 52 j63) 1200).bind fun j64 => mm_code_L25 S p1 (S.2.1 55 j64))
set_option maxHeartbeats 4000000 in
set_option maxRecDepth 100000 in
/-- code(I)V -/
theorem mm_code_ok (l : Launch) (D : va_G) (ad : Nat → Nat) (de : Nat) (o : Nat) (a : Nat → Nat) (ca : Nat → ClassId) (S : md_S) (p1 : Int32) (F : md_S → Prop) (h : dc_wp (mm_code S p1) F) : dc_Cv l ⟨"SignalEngineModel", "code", "(I)V"⟩ prog_15_method_58_code 6 none 1 24 D (md_T ca) ad de [.ref o, .int p1] (md_W o a ca S) (fun w => ∃ q, F q ∧ w = md_W o a ca q) 0 0 := by
  refine dc_enterv (by decide +kernel) (Nat.le_of_ble_eq_true rfl) ?_
  intro X hC hR
  have lab_322 : ∀ (S : md_S), dc_wp (mm_code_L322 S) F → dc_G X l { frames := 1, cells := 0, slots := 0, locals := 24 } D 6 0 0 (md_W o a ca S) 322 [(0, .ref o)] [] := by
    intro S  h
    delta mm_code_L322 at h
    exact dc_vret (pc := 322) hC hR ⟨_, dc_some h, rfl⟩ (show decode prog_15_method_58_code 322 = .ok (.return_, 1) by decide +kernel)
  have lab_245 : ∀ (S : md_S) (x1 : Int32), dc_wp (mm_code_L245 S x1) F → dc_G X l { frames := 1, cells := 0, slots := 0, locals := 24 } D 6 0 0 (md_W o a ca S) 245 [(0, .ref o), (1, .int x1)] [] := by
    intro S x1 h
    delta mm_code_L245 at h
    refine dc_aloadn (pc := 245) (j := 0) (i := 0) hC 0 rfl rfl (show decode prog_15_method_58_code 245 = .ok (.aload_n 0, 1) by decide +kernel) ?_
    refine md_g55 (pc := 246) hC (show decode prog_15_method_58_code 246 = .ok (.getfield 78, 3) by decide +kernel) ?_
    refine dc_iloadn (pc := 249) (j := 1) (i := 1) hC 1 rfl rfl (show decode prog_15_method_58_code 249 = .ok (.iload_n 1, 1) by decide +kernel) ?_
    refine dc_iconst (pc := 250) (v := 1) hC (show decode prog_15_method_58_code 250 = .ok (.iconst 1, 1) by decide +kernel) (by decide +kernel) ?_
    refine dc_aloadn (pc := 251) (j := 0) (i := 0) hC 0 rfl rfl (show decode prog_15_method_58_code 251 = .ok (.aload_n 0, 1) by decide +kernel) ?_
    refine md_g54 (pc := 252) hC (show decode prog_15_method_58_code 252 = .ok (.getfield 75, 3) by decide +kernel) ?_
    refine dc_iloadn (pc := 255) (j := 1) (i := 1) hC 1 rfl rfl (show decode prog_15_method_58_code 255 = .ok (.iload_n 1, 1) by decide +kernel) ?_
    refine md_l54 (pc := 256) hC (show decode prog_15_method_58_code 256 = .ok (.iaload, 1) by decide +kernel) h ?_
    intro j1 h
    refine dc_ishl (pc := 257) hC (show decode prog_15_method_58_code 257 = .ok (.ishl, 1) by decide +kernel) ?_
    refine md_s55 (pc := 258) hC (show decode prog_15_method_58_code 258 = .ok (.iastore, 1) by decide +kernel) h ?_
    intro j2 h
    refine dc_letS h ?_
    intro S3 h
    refine dc_goto (pc := 259) (tgt := 322) hC (show decode prog_15_method_58_code 259 = .ok (.goto 63, 3) by decide +kernel) (by decide +kernel) ?_
    exact dc_sub [0] rfl (lab_322 S3 h)
  have loop_211 : ∀ (x1 : Int32) (x4 : Int32) (q : md_S × Int32), dc_wp (dc_it (mm_code_s211 x1 x4) q) (fun z => dc_wp ((fun (z : md_S) => mm_code_L245 z x1) z) F) → dc_G X l { frames := 1, cells := 0, slots := 0, locals := 24 } D 6 0 0 (md_W o a ca q.1) 211 [(0, .ref o), (1, .int x1), (4, .int x4), (5, .int q.2)] [] := by
    intro x1 x4
    refine dc_loopF ?_
    intro F_211 hl_211 hr_211
    rintro ⟨S, x5⟩ h
    have h : dc_wp (mm_code_b211 S x1 x4 x5) F_211 := h
    delta mm_code_b211 at h
    refine dc_aloadn (pc := 211) (j := 0) (i := 0) hC 0 rfl rfl (show decode prog_15_method_58_code 211 = .ok (.aload_n 0, 1) by decide +kernel) ?_
    refine md_g54 (pc := 212) hC (show decode prog_15_method_58_code 212 = .ok (.getfield 75, 3) by decide +kernel) ?_
    refine dc_iload (pc := 215) (i := 5) hC 3 rfl (show decode prog_15_method_58_code 215 = .ok (.iload 5, 2) by decide +kernel) ?_
    refine md_l54 (pc := 217) hC (show decode prog_15_method_58_code 217 = .ok (.iaload, 1) by decide +kernel) h ?_
    intro j4 h
    refine dc_iload (pc := 218) (i := 4) hC 2 rfl (show decode prog_15_method_58_code 218 = .ok (.iload 4, 2) by decide +kernel) ?_
    refine dc_icmp_eq (pc := 220) (tgt := 245) hC (show decode prog_15_method_58_code 220 = .ok (.if_icmp .eq 25, 3) by decide +kernel) (by decide +kernel) h ?_ ?_
    · intro h
      have h : dc_wp (mm_code_L245 S x1) F := hr_211 S (dc_some h)
      exact dc_sub [0, 1] rfl (lab_245 S x1 h)
    · intro h
      refine dc_aloadn (pc := 223) (j := 0) (i := 0) hC 0 rfl rfl (show decode prog_15_method_58_code 223 = .ok (.aload_n 0, 1) by decide +kernel) ?_
      refine md_g54 (pc := 224) hC (show decode prog_15_method_58_code 224 = .ok (.getfield 75, 3) by decide +kernel) ?_
      refine dc_iloadn (pc := 227) (j := 1) (i := 1) hC 1 rfl rfl (show decode prog_15_method_58_code 227 = .ok (.iload_n 1, 1) by decide +kernel) ?_
      refine dc_dup2 (pc := 228) hC (show decode prog_15_method_58_code 228 = .ok (.dup2, 1) by decide +kernel) rfl rfl ?_
      refine md_l54 (pc := 229) hC (show decode prog_15_method_58_code 229 = .ok (.iaload, 1) by decide +kernel) h ?_
      intro j5 h
      refine dc_iconst (pc := 230) (v := 1) hC (show decode prog_15_method_58_code 230 = .ok (.iconst 1, 1) by decide +kernel) (by decide +kernel) ?_
      refine dc_iadd (pc := 231) hC (show decode prog_15_method_58_code 231 = .ok (.iadd, 1) by decide +kernel) ?_
      refine md_s54 (pc := 232) hC (show decode prog_15_method_58_code 232 = .ok (.iastore, 1) by decide +kernel) h ?_
      intro j6 h
      refine dc_letS h ?_
      intro S7 h
      refine dc_aloadn (pc := 233) (j := 0) (i := 0) hC 0 rfl rfl (show decode prog_15_method_58_code 233 = .ok (.aload_n 0, 1) by decide +kernel) ?_
      refine md_g60 (pc := 234) hC (show decode prog_15_method_58_code 234 = .ok (.getfield 93, 3) by decide +kernel) ?_
      refine dc_iload (pc := 237) (i := 5) hC 3 rfl (show decode prog_15_method_58_code 237 = .ok (.iload 5, 2) by decide +kernel) ?_
      refine md_l60 (pc := 239) hC (show decode prog_15_method_58_code 239 = .ok (.iaload, 1) by decide +kernel) h ?_
      intro j8 h
      refine dc_letI h ?_
      intro v9 h
      refine dc_istore (pc := 240) (i := 5) (lv' := [(5, .int v9), (0, .ref o), (1, .int x1), (4, .int x4)]) hC (Nat.le_of_ble_eq_true rfl) rfl (show decode prog_15_method_58_code 240 = .ok (.istore 5, 2) by decide +kernel) ?_
      refine dc_goto (pc := 242) (tgt := 211) hC (show decode prog_15_method_58_code 242 = .ok (.goto (-31), 3) by decide +kernel) (by decide +kernel) ?_
      exact dc_sub [1, 2, 3, 0] rfl (hl_211 (S7, v9) (dc_some h))
  have lab_211 : ∀ (S : md_S) (x1 : Int32) (x4 : Int32) (x5 : Int32), dc_wp (mm_code_L211 S x1 x4 x5) F → dc_G X l { frames := 1, cells := 0, slots := 0, locals := 24 } D 6 0 0 (md_W o a ca S) 211 [(0, .ref o), (1, .int x1), (4, .int x4), (5, .int x5)] [] := fun S x1 x4 x5 h => loop_211 x1 x4 (S, x5) (dc_bind h)
  have lab_108 : ∀ (S : md_S) (x1 : Int32) (x2 : Int32) (x3 : Int32) (y0 : Int32) (y1 : Int32), dc_wp (mm_code_L108 S x1 x2 x3 y0 y1) F → dc_G X l { frames := 1, cells := 0, slots := 0, locals := 24 } D 6 0 0 (md_W o a ca S) 108 [(0, .ref o), (1, .int x1), (2, .int x2), (3, .int x3)] [.int y0, .int y1, .ref (a 59)] := by
    intro S x1 x2 x3 y0 y1 h
    delta mm_code_L108 at h
    refine md_s59 (pc := 108) hC (show decode prog_15_method_58_code 108 = .ok (.iastore, 1) by decide +kernel) h ?_
    intro j10 h
    refine dc_letS h ?_
    intro S11 h
    refine dc_aloadn (pc := 109) (j := 0) (i := 0) hC 0 rfl rfl (show decode prog_15_method_58_code 109 = .ok (.aload_n 0, 1) by decide +kernel) ?_
    refine md_g51 (pc := 110) hC (show decode prog_15_method_58_code 110 = .ok (.getfield 66, 3) by decide +kernel) ?_
    refine dc_iloadn (pc := 113) (j := 1) (i := 1) hC 1 rfl rfl (show decode prog_15_method_58_code 113 = .ok (.iload_n 1, 1) by decide +kernel) ?_
    refine md_l51 (pc := 114) hC (show decode prog_15_method_58_code 114 = .ok (.iaload, 1) by decide +kernel) h ?_
    intro j12 h
    refine dc_letI h ?_
    intro v13 h
    rcases dc_ite h with ⟨hk16, h2⟩ | ⟨hk16, h2⟩
    · subst hk16; clear h; have h := h2; clear h2
      refine dc_tabIn (pc := 115) (off := 53) (tgt := 168) hC dsw_prog_15_method_58_code_115 (by decide +kernel) (by decide +kernel) (by decide +kernel) (by decide +kernel) ?_
      refine dc_aloadn (pc := 168) (j := 0) (i := 0) hC 0 rfl rfl (show decode prog_15_method_58_code 168 = .ok (.aload_n 0, 1) by decide +kernel) ?_
      refine md_g55 (pc := 169) hC (show decode prog_15_method_58_code 169 = .ok (.getfield 78, 3) by decide +kernel) ?_
      refine dc_iloadn (pc := 172) (j := 1) (i := 1) hC 1 rfl rfl (show decode prog_15_method_58_code 172 = .ok (.iload_n 1, 1) by decide +kernel) ?_
      refine dc_iconst (pc := 173) (v := 1) hC (show decode prog_15_method_58_code 173 = .ok (.iconst 1, 1) by decide +kernel) (by decide +kernel) ?_
      refine md_s55 (pc := 174) hC (show decode prog_15_method_58_code 174 = .ok (.iastore, 1) by decide +kernel) h ?_
      intro j14 h
      refine dc_letS h ?_
      intro S15 h
      refine dc_goto (pc := 175) (tgt := 322) hC (show decode prog_15_method_58_code 175 = .ok (.goto 147, 3) by decide +kernel) (by decide +kernel) ?_
      exact dc_sub [0] rfl (lab_322 S15 h)
    clear h; have h := h2; clear h2
    rcases dc_ite h with ⟨hk19, h2⟩ | ⟨hk19, h2⟩
    · subst hk19; clear h; have h := h2; clear h2
      refine dc_tabIn (pc := 115) (off := 63) (tgt := 178) hC dsw_prog_15_method_58_code_115 (by decide +kernel) (by decide +kernel) (by decide +kernel) (by decide +kernel) ?_
      refine dc_aloadn (pc := 178) (j := 0) (i := 0) hC 0 rfl rfl (show decode prog_15_method_58_code 178 = .ok (.aload_n 0, 1) by decide +kernel) ?_
      refine md_g55 (pc := 179) hC (show decode prog_15_method_58_code 179 = .ok (.getfield 78, 3) by decide +kernel) ?_
      refine dc_iloadn (pc := 182) (j := 1) (i := 1) hC 1 rfl rfl (show decode prog_15_method_58_code 182 = .ok (.iload_n 1, 1) by decide +kernel) ?_
      refine dc_iconst (pc := 183) (v := 2) hC (show decode prog_15_method_58_code 183 = .ok (.iconst 2, 1) by decide +kernel) (by decide +kernel) ?_
      refine md_s55 (pc := 184) hC (show decode prog_15_method_58_code 184 = .ok (.iastore, 1) by decide +kernel) h ?_
      intro j17 h
      refine dc_letS h ?_
      intro S18 h
      refine dc_goto (pc := 185) (tgt := 322) hC (show decode prog_15_method_58_code 185 = .ok (.goto 137, 3) by decide +kernel) (by decide +kernel) ?_
      exact dc_sub [0] rfl (lab_322 S18 h)
    clear h; have h := h2; clear h2
    rcases dc_ite h with ⟨hk22, h2⟩ | ⟨hk22, h2⟩
    · subst hk22; clear h; have h := h2; clear h2
      refine dc_tabIn (pc := 115) (off := 53) (tgt := 168) hC dsw_prog_15_method_58_code_115 (by decide +kernel) (by decide +kernel) (by decide +kernel) (by decide +kernel) ?_
      refine dc_aloadn (pc := 168) (j := 0) (i := 0) hC 0 rfl rfl (show decode prog_15_method_58_code 168 = .ok (.aload_n 0, 1) by decide +kernel) ?_
      refine md_g55 (pc := 169) hC (show decode prog_15_method_58_code 169 = .ok (.getfield 78, 3) by decide +kernel) ?_
      refine dc_iloadn (pc := 172) (j := 1) (i := 1) hC 1 rfl rfl (show decode prog_15_method_58_code 172 = .ok (.iload_n 1, 1) by decide +kernel) ?_
      refine dc_iconst (pc := 173) (v := 1) hC (show decode prog_15_method_58_code 173 = .ok (.iconst 1, 1) by decide +kernel) (by decide +kernel) ?_
      refine md_s55 (pc := 174) hC (show decode prog_15_method_58_code 174 = .ok (.iastore, 1) by decide +kernel) h ?_
      intro j20 h
      refine dc_letS h ?_
      intro S21 h
      refine dc_goto (pc := 175) (tgt := 322) hC (show decode prog_15_method_58_code 175 = .ok (.goto 147, 3) by decide +kernel) (by decide +kernel) ?_
      exact dc_sub [0] rfl (lab_322 S21 h)
    clear h; have h := h2; clear h2
    rcases dc_ite h with ⟨hk25, h2⟩ | ⟨hk25, h2⟩
    · subst hk25; clear h; have h := h2; clear h2
      refine dc_tabIn (pc := 115) (off := 147) (tgt := 262) hC dsw_prog_15_method_58_code_115 (by decide +kernel) (by decide +kernel) (by decide +kernel) (by decide +kernel) ?_
      refine dc_aloadn (pc := 262) (j := 0) (i := 0) hC 0 rfl rfl (show decode prog_15_method_58_code 262 = .ok (.aload_n 0, 1) by decide +kernel) ?_
      refine md_g55 (pc := 263) hC (show decode prog_15_method_58_code 263 = .ok (.getfield 78, 3) by decide +kernel) ?_
      refine dc_iloadn (pc := 266) (j := 1) (i := 1) hC 1 rfl rfl (show decode prog_15_method_58_code 266 = .ok (.iload_n 1, 1) by decide +kernel) ?_
      refine dc_iloadn (pc := 267) (j := 2) (i := 2) hC 2 rfl rfl (show decode prog_15_method_58_code 267 = .ok (.iload_n 2, 1) by decide +kernel) ?_
      refine dc_iloadn (pc := 268) (j := 3) (i := 3) hC 3 rfl rfl (show decode prog_15_method_58_code 268 = .ok (.iload_n 3, 1) by decide +kernel) ?_
      refine dc_ior (pc := 269) hC (show decode prog_15_method_58_code 269 = .ok (.ior, 1) by decide +kernel) ?_
      refine md_s55 (pc := 270) hC (show decode prog_15_method_58_code 270 = .ok (.iastore, 1) by decide +kernel) h ?_
      intro j23 h
      refine dc_letS h ?_
      intro S24 h
      refine dc_goto (pc := 271) (tgt := 322) hC (show decode prog_15_method_58_code 271 = .ok (.goto 51, 3) by decide +kernel) (by decide +kernel) ?_
      exact dc_sub [0] rfl (lab_322 S24 h)
    clear h; have h := h2; clear h2
    rcases dc_ite h with ⟨hk28, h2⟩ | ⟨hk28, h2⟩
    · subst hk28; clear h; have h := h2; clear h2
      refine dc_tabIn (pc := 115) (off := 200) (tgt := 315) hC dsw_prog_15_method_58_code_115 (by decide +kernel) (by decide +kernel) (by decide +kernel) (by decide +kernel) ?_
      refine dc_aloadn (pc := 315) (j := 0) (i := 0) hC 0 rfl rfl (show decode prog_15_method_58_code 315 = .ok (.aload_n 0, 1) by decide +kernel) ?_
      refine md_g55 (pc := 316) hC (show decode prog_15_method_58_code 316 = .ok (.getfield 78, 3) by decide +kernel) ?_
      refine dc_iloadn (pc := 319) (j := 1) (i := 1) hC 1 rfl rfl (show decode prog_15_method_58_code 319 = .ok (.iload_n 1, 1) by decide +kernel) ?_
      refine dc_iloadn (pc := 320) (j := 2) (i := 2) hC 2 rfl rfl (show decode prog_15_method_58_code 320 = .ok (.iload_n 2, 1) by decide +kernel) ?_
      refine md_s55 (pc := 321) hC (show decode prog_15_method_58_code 321 = .ok (.iastore, 1) by decide +kernel) h ?_
      intro j26 h
      refine dc_letS h ?_
      intro S27 h
      exact dc_sub [0] rfl (lab_322 S27 h)
    clear h; have h := h2; clear h2
    rcases dc_ite h with ⟨hk32, h2⟩ | ⟨hk32, h2⟩
    · subst hk32; clear h; have h := h2; clear h2
      refine dc_tabIn (pc := 115) (off := 159) (tgt := 274) hC dsw_prog_15_method_58_code_115 (by decide +kernel) (by decide +kernel) (by decide +kernel) (by decide +kernel) ?_
      refine dc_aloadn (pc := 274) (j := 0) (i := 0) hC 0 rfl rfl (show decode prog_15_method_58_code 274 = .ok (.aload_n 0, 1) by decide +kernel) ?_
      refine md_g55 (pc := 275) hC (show decode prog_15_method_58_code 275 = .ok (.getfield 78, 3) by decide +kernel) ?_
      refine dc_iloadn (pc := 278) (j := 1) (i := 1) hC 1 rfl rfl (show decode prog_15_method_58_code 278 = .ok (.iload_n 1, 1) by decide +kernel) ?_
      refine dc_iloadn (pc := 279) (j := 2) (i := 2) hC 2 rfl rfl (show decode prog_15_method_58_code 279 = .ok (.iload_n 2, 1) by decide +kernel) ?_
      refine dc_iloadn (pc := 280) (j := 3) (i := 3) hC 3 rfl rfl (show decode prog_15_method_58_code 280 = .ok (.iload_n 3, 1) by decide +kernel) ?_
      refine mc_Spi (pc := 281) (As := [.int x2, .int x3]) (rest := [.int x1, .ref (a 55)]) hC vs_then_399 (mm_then_ok l D ad de (md_W o a ca S11) (md_T ca) x2 x3) (Nat.le_of_ble_eq_true rfl) (Nat.le_of_ble_eq_true rfl) rfl (Nat.le_of_ble_eq_true rfl) (show decode prog_15_method_58_code 281 = .ok (.invokestatic 399, 3) by decide +kernel) h ?_
      intro q29 h
      refine md_s55 (pc := 284) hC (show decode prog_15_method_58_code 284 = .ok (.iastore, 1) by decide +kernel) h ?_
      intro j30 h
      refine dc_letS h ?_
      intro S31 h
      refine dc_goto (pc := 285) (tgt := 322) hC (show decode prog_15_method_58_code 285 = .ok (.goto 37, 3) by decide +kernel) (by decide +kernel) ?_
      exact dc_sub [0] rfl (lab_322 S31 h)
    clear h; have h := h2; clear h2
    rcases dc_ite h with ⟨hk35, h2⟩ | ⟨hk35, h2⟩
    · subst hk35; clear h; have h := h2; clear h2
      refine dc_tabIn (pc := 115) (off := 200) (tgt := 315) hC dsw_prog_15_method_58_code_115 (by decide +kernel) (by decide +kernel) (by decide +kernel) (by decide +kernel) ?_
      refine dc_aloadn (pc := 315) (j := 0) (i := 0) hC 0 rfl rfl (show decode prog_15_method_58_code 315 = .ok (.aload_n 0, 1) by decide +kernel) ?_
      refine md_g55 (pc := 316) hC (show decode prog_15_method_58_code 316 = .ok (.getfield 78, 3) by decide +kernel) ?_
      refine dc_iloadn (pc := 319) (j := 1) (i := 1) hC 1 rfl rfl (show decode prog_15_method_58_code 319 = .ok (.iload_n 1, 1) by decide +kernel) ?_
      refine dc_iloadn (pc := 320) (j := 2) (i := 2) hC 2 rfl rfl (show decode prog_15_method_58_code 320 = .ok (.iload_n 2, 1) by decide +kernel) ?_
      refine md_s55 (pc := 321) hC (show decode prog_15_method_58_code 321 = .ok (.iastore, 1) by decide +kernel) h ?_
      intro j33 h
      refine dc_letS h ?_
      intro S34 h
      exact dc_sub [0] rfl (lab_322 S34 h)
    clear h; have h := h2; clear h2
    rcases dc_ite h with ⟨hk39, h2⟩ | ⟨hk39, h2⟩
    · subst hk39; clear h; have h := h2; clear h2
      refine dc_tabIn (pc := 115) (off := 173) (tgt := 288) hC dsw_prog_15_method_58_code_115 (by decide +kernel) (by decide +kernel) (by decide +kernel) (by decide +kernel) ?_
      refine dc_aloadn (pc := 288) (j := 0) (i := 0) hC 0 rfl rfl (show decode prog_15_method_58_code 288 = .ok (.aload_n 0, 1) by decide +kernel) ?_
      refine md_g55 (pc := 289) hC (show decode prog_15_method_58_code 289 = .ok (.getfield 78, 3) by decide +kernel) ?_
      refine dc_iloadn (pc := 292) (j := 1) (i := 1) hC 1 rfl rfl (show decode prog_15_method_58_code 292 = .ok (.iload_n 1, 1) by decide +kernel) ?_
      refine dc_iloadn (pc := 293) (j := 2) (i := 2) hC 2 rfl rfl (show decode prog_15_method_58_code 293 = .ok (.iload_n 2, 1) by decide +kernel) ?_
      refine dc_iloadn (pc := 294) (j := 3) (i := 3) hC 3 rfl rfl (show decode prog_15_method_58_code 294 = .ok (.iload_n 3, 1) by decide +kernel) ?_
      refine mc_Spi (pc := 295) (As := [.int x2, .int x3]) (rest := [.int x1, .ref (a 55)]) hC vs_pairs_392 (mm_pairs_ok l D ad de (md_W o a ca S11) (md_T ca) x2 x3) (Nat.le_of_ble_eq_true rfl) (Nat.le_of_ble_eq_true rfl) rfl (Nat.le_of_ble_eq_true rfl) (show decode prog_15_method_58_code 295 = .ok (.invokestatic 392, 3) by decide +kernel) h ?_
      intro q36 h
      refine md_s55 (pc := 298) hC (show decode prog_15_method_58_code 298 = .ok (.iastore, 1) by decide +kernel) h ?_
      intro j37 h
      refine dc_letS h ?_
      intro S38 h
      refine dc_goto (pc := 299) (tgt := 322) hC (show decode prog_15_method_58_code 299 = .ok (.goto 23, 3) by decide +kernel) (by decide +kernel) ?_
      exact dc_sub [0] rfl (lab_322 S38 h)
    clear h; have h := h2; clear h2
    rcases dc_ite h with ⟨hk43, h2⟩ | ⟨hk43, h2⟩
    · subst hk43; clear h; have h := h2; clear h2
      refine dc_tabIn (pc := 115) (off := 187) (tgt := 302) hC dsw_prog_15_method_58_code_115 (by decide +kernel) (by decide +kernel) (by decide +kernel) (by decide +kernel) ?_
      refine dc_aloadn (pc := 302) (j := 0) (i := 0) hC 0 rfl rfl (show decode prog_15_method_58_code 302 = .ok (.aload_n 0, 1) by decide +kernel) ?_
      refine md_g55 (pc := 303) hC (show decode prog_15_method_58_code 303 = .ok (.getfield 78, 3) by decide +kernel) ?_
      refine dc_iloadn (pc := 306) (j := 1) (i := 1) hC 1 rfl rfl (show decode prog_15_method_58_code 306 = .ok (.iload_n 1, 1) by decide +kernel) ?_
      refine dc_iloadn (pc := 307) (j := 2) (i := 2) hC 2 rfl rfl (show decode prog_15_method_58_code 307 = .ok (.iload_n 2, 1) by decide +kernel) ?_
      refine mc_Spi (pc := 308) (As := [.int x2]) (rest := [.int x1, .ref (a 55)]) hC vs_caught_458 (mm_caught_ok l D ad de (md_W o a ca S11) (md_T ca) x2) (Nat.le_of_ble_eq_true rfl) (Nat.le_of_ble_eq_true rfl) rfl (Nat.le_of_ble_eq_true rfl) (show decode prog_15_method_58_code 308 = .ok (.invokestatic 458, 3) by decide +kernel) h ?_
      intro q40 h
      refine md_s55 (pc := 311) hC (show decode prog_15_method_58_code 311 = .ok (.iastore, 1) by decide +kernel) h ?_
      intro j41 h
      refine dc_letS h ?_
      intro S42 h
      refine dc_goto (pc := 312) (tgt := 322) hC (show decode prog_15_method_58_code 312 = .ok (.goto 10, 3) by decide +kernel) (by decide +kernel) ?_
      exact dc_sub [0] rfl (lab_322 S42 h)
    clear h; have h := h2; clear h2
    rcases dc_ite h with ⟨hk50, h2⟩ | ⟨hk50, h2⟩
    · subst hk50; clear h; have h := h2; clear h2
      refine dc_tabIn (pc := 115) (off := 73) (tgt := 188) hC dsw_prog_15_method_58_code_115 (by decide +kernel) (by decide +kernel) (by decide +kernel) (by decide +kernel) ?_
      refine dc_aloadn (pc := 188) (j := 0) (i := 0) hC 0 rfl rfl (show decode prog_15_method_58_code 188 = .ok (.aload_n 0, 1) by decide +kernel) ?_
      refine md_g54 (pc := 189) hC (show decode prog_15_method_58_code 189 = .ok (.getfield 75, 3) by decide +kernel) ?_
      refine dc_iloadn (pc := 192) (j := 1) (i := 1) hC 1 rfl rfl (show decode prog_15_method_58_code 192 = .ok (.iload_n 1, 1) by decide +kernel) ?_
      refine md_l54 (pc := 193) hC (show decode prog_15_method_58_code 193 = .ok (.iaload, 1) by decide +kernel) h ?_
      intro j44 h
      refine dc_letI h ?_
      intro v45 h
      refine dc_istore (pc := 194) (i := 4) (lv' := [(4, .int v45), (0, .ref o), (1, .int x1), (2, .int x2), (3, .int x3)]) hC (Nat.le_of_ble_eq_true rfl) rfl (show decode prog_15_method_58_code 194 = .ok (.istore 4, 2) by decide +kernel) ?_
      refine dc_aloadn (pc := 196) (j := 0) (i := 0) hC 1 rfl rfl (show decode prog_15_method_58_code 196 = .ok (.aload_n 0, 1) by decide +kernel) ?_
      refine md_g54 (pc := 197) hC (show decode prog_15_method_58_code 197 = .ok (.getfield 75, 3) by decide +kernel) ?_
      refine dc_iloadn (pc := 200) (j := 1) (i := 1) hC 2 rfl rfl (show decode prog_15_method_58_code 200 = .ok (.iload_n 1, 1) by decide +kernel) ?_
      refine dc_iconst (pc := 201) (v := 2) hC (show decode prog_15_method_58_code 201 = .ok (.iconst 2, 1) by decide +kernel) (by decide +kernel) ?_
      refine md_s54 (pc := 202) hC (show decode prog_15_method_58_code 202 = .ok (.iastore, 1) by decide +kernel) h ?_
      intro j46 h
      refine dc_letS h ?_
      intro S47 h
      refine dc_aloadn (pc := 203) (j := 0) (i := 0) hC 1 rfl rfl (show decode prog_15_method_58_code 203 = .ok (.aload_n 0, 1) by decide +kernel) ?_
      refine md_g60 (pc := 204) hC (show decode prog_15_method_58_code 204 = .ok (.getfield 93, 3) by decide +kernel) ?_
      refine dc_iloadn (pc := 207) (j := 1) (i := 1) hC 2 rfl rfl (show decode prog_15_method_58_code 207 = .ok (.iload_n 1, 1) by decide +kernel) ?_
      refine md_l60 (pc := 208) hC (show decode prog_15_method_58_code 208 = .ok (.iaload, 1) by decide +kernel) h ?_
      intro j48 h
      refine dc_letI h ?_
      intro v49 h
      refine dc_istore (pc := 209) (i := 5) (lv' := [(5, .int v49), (4, .int v45), (0, .ref o), (1, .int x1), (2, .int x2), (3, .int x3)]) hC (Nat.le_of_ble_eq_true rfl) rfl (show decode prog_15_method_58_code 209 = .ok (.istore 5, 2) by decide +kernel) ?_
      exact dc_sub [2, 3, 1, 0] rfl (lab_211 S47 x1 v45 v49 h)
    clear h; have h := h2; clear h2
    refine dc_tabOut (pc := 115) (tgt := 315) hC dsw_prog_15_method_58_code_115 (by have := dc_swc hk16 (show (0 : Int32).toInt = 0 by decide +kernel); have := dc_swc hk19 (show (1 : Int32).toInt = 1 by decide +kernel); have := dc_swc hk22 (show (2 : Int32).toInt = 2 by decide +kernel); have := dc_swc hk25 (show (3 : Int32).toInt = 3 by decide +kernel); have := dc_swc hk28 (show (4 : Int32).toInt = 4 by decide +kernel); have := dc_swc hk32 (show (5 : Int32).toInt = 5 by decide +kernel); have := dc_swc hk35 (show (6 : Int32).toInt = 6 by decide +kernel); have := dc_swc hk39 (show (7 : Int32).toInt = 7 by decide +kernel); have := dc_swc hk43 (show (8 : Int32).toInt = 8 by decide +kernel); have := dc_swc hk50 (show (9 : Int32).toInt = 9 by decide +kernel); omega) (by decide +kernel) ?_
    refine dc_aloadn (pc := 315) (j := 0) (i := 0) hC 0 rfl rfl (show decode prog_15_method_58_code 315 = .ok (.aload_n 0, 1) by decide +kernel) ?_
    refine md_g55 (pc := 316) hC (show decode prog_15_method_58_code 316 = .ok (.getfield 78, 3) by decide +kernel) ?_
    refine dc_iloadn (pc := 319) (j := 1) (i := 1) hC 1 rfl rfl (show decode prog_15_method_58_code 319 = .ok (.iload_n 1, 1) by decide +kernel) ?_
    refine dc_iloadn (pc := 320) (j := 2) (i := 2) hC 2 rfl rfl (show decode prog_15_method_58_code 320 = .ok (.iload_n 2, 1) by decide +kernel) ?_
    refine md_s55 (pc := 321) hC (show decode prog_15_method_58_code 321 = .ok (.iastore, 1) by decide +kernel) h ?_
    intro j51 h
    refine dc_letS h ?_
    intro S52 h
    exact dc_sub [0] rfl (lab_322 S52 h)
  have lab_51 : ∀ (S : md_S) (x1 : Int32) (x2 : Int32) (y0 : Int32), dc_wp (mm_code_L51 S x1 x2 y0) F → dc_G X l { frames := 1, cells := 0, slots := 0, locals := 24 } D 6 0 0 (md_W o a ca S) 51 [(0, .ref o), (1, .int x1), (2, .int x2)] [.int y0] := by
    intro S x1 x2 y0 h
    delta mm_code_L51 at h
    refine dc_istoren (pc := 51) (j := 3) (i := 3) (lv' := [(3, .int y0), (0, .ref o), (1, .int x1), (2, .int x2)]) hC rfl (Nat.le_of_ble_eq_true rfl) rfl (show decode prog_15_method_58_code 51 = .ok (.istore_n 3, 1) by decide +kernel) ?_
    refine dc_aloadn (pc := 52) (j := 0) (i := 0) hC 1 rfl rfl (show decode prog_15_method_58_code 52 = .ok (.aload_n 0, 1) by decide +kernel) ?_
    refine md_g59 (pc := 53) hC (show decode prog_15_method_58_code 53 = .ok (.getfield 90, 3) by decide +kernel) ?_
    refine dc_iloadn (pc := 56) (j := 1) (i := 1) hC 2 rfl rfl (show decode prog_15_method_58_code 56 = .ok (.iload_n 1, 1) by decide +kernel) ?_
    refine dc_aloadn (pc := 57) (j := 0) (i := 0) hC 1 rfl rfl (show decode prog_15_method_58_code 57 = .ok (.aload_n 0, 1) by decide +kernel) ?_
    refine md_g53 (pc := 58) hC (show decode prog_15_method_58_code 58 = .ok (.getfield 72, 3) by decide +kernel) ?_
    refine dc_iloadn (pc := 61) (j := 1) (i := 1) hC 2 rfl rfl (show decode prog_15_method_58_code 61 = .ok (.iload_n 1, 1) by decide +kernel) ?_
    refine md_l53 (pc := 62) hC (show decode prog_15_method_58_code 62 = .ok (.iaload, 1) by decide +kernel) h ?_
    intro j53 h
    refine dc_iconst (pc := 63) (v := (-1)) hC (show decode prog_15_method_58_code 63 = .ok (.iconst (-1), 1) by decide +kernel) (by decide +kernel) ?_
    refine dc_icmp_eq (pc := 64) (tgt := 81) hC (show decode prog_15_method_58_code 64 = .ok (.if_icmp .eq 17, 3) by decide +kernel) (by decide +kernel) h ?_ ?_
    · intro h
      refine dc_aloadn (pc := 81) (j := 0) (i := 0) hC 1 rfl rfl (show decode prog_15_method_58_code 81 = .ok (.aload_n 0, 1) by decide +kernel) ?_
      refine md_g52 (pc := 82) hC (show decode prog_15_method_58_code 82 = .ok (.getfield 69, 3) by decide +kernel) ?_
      refine dc_iloadn (pc := 85) (j := 1) (i := 1) hC 2 rfl rfl (show decode prog_15_method_58_code 85 = .ok (.iload_n 1, 1) by decide +kernel) ?_
      refine md_l52 (pc := 86) hC (show decode prog_15_method_58_code 86 = .ok (.iaload, 1) by decide +kernel) h ?_
      intro j54 h
      refine dc_iconst (pc := 87) (v := (-1)) hC (show decode prog_15_method_58_code 87 = .ok (.iconst (-1), 1) by decide +kernel) (by decide +kernel) ?_
      refine dc_icmp_eq (pc := 88) (tgt := 105) hC (show decode prog_15_method_58_code 88 = .ok (.if_icmp .eq 17, 3) by decide +kernel) (by decide +kernel) h ?_ ?_
      · intro h
        refine dc_iloadn (pc := 105) (j := 1) (i := 1) hC 2 rfl rfl (show decode prog_15_method_58_code 105 = .ok (.iload_n 1, 1) by decide +kernel) ?_
        refine dc_iconst (pc := 106) (v := 1) hC (show decode prog_15_method_58_code 106 = .ok (.iconst 1, 1) by decide +kernel) (by decide +kernel) ?_
        refine dc_iadd (pc := 107) hC (show decode prog_15_method_58_code 107 = .ok (.iadd, 1) by decide +kernel) ?_
        exact dc_sub [1, 2, 3, 0] rfl (lab_108 S x1 x2 y0 (x1 + 1) x1 h)
      · intro h
        refine dc_aloadn (pc := 91) (j := 0) (i := 0) hC 1 rfl rfl (show decode prog_15_method_58_code 91 = .ok (.aload_n 0, 1) by decide +kernel) ?_
        refine md_g59 (pc := 92) hC (show decode prog_15_method_58_code 92 = .ok (.getfield 90, 3) by decide +kernel) ?_
        refine dc_aloadn (pc := 95) (j := 0) (i := 0) hC 1 rfl rfl (show decode prog_15_method_58_code 95 = .ok (.aload_n 0, 1) by decide +kernel) ?_
        refine md_g52 (pc := 96) hC (show decode prog_15_method_58_code 96 = .ok (.getfield 69, 3) by decide +kernel) ?_
        refine dc_iloadn (pc := 99) (j := 1) (i := 1) hC 2 rfl rfl (show decode prog_15_method_58_code 99 = .ok (.iload_n 1, 1) by decide +kernel) ?_
        refine md_l52 (pc := 100) hC (show decode prog_15_method_58_code 100 = .ok (.iaload, 1) by decide +kernel) h ?_
        intro j55 h
        refine md_l59 (pc := 101) hC (show decode prog_15_method_58_code 101 = .ok (.iaload, 1) by decide +kernel) h ?_
        intro j56 h
        refine dc_goto (pc := 102) (tgt := 108) hC (show decode prog_15_method_58_code 102 = .ok (.goto 6, 3) by decide +kernel) (by decide +kernel) ?_
        exact dc_sub [1, 2, 3, 0] rfl (lab_108 S x1 x2 y0 (S.2.1 59 j56) x1 h)
    · intro h
      refine dc_aloadn (pc := 67) (j := 0) (i := 0) hC 1 rfl rfl (show decode prog_15_method_58_code 67 = .ok (.aload_n 0, 1) by decide +kernel) ?_
      refine md_g59 (pc := 68) hC (show decode prog_15_method_58_code 68 = .ok (.getfield 90, 3) by decide +kernel) ?_
      refine dc_aloadn (pc := 71) (j := 0) (i := 0) hC 1 rfl rfl (show decode prog_15_method_58_code 71 = .ok (.aload_n 0, 1) by decide +kernel) ?_
      refine md_g53 (pc := 72) hC (show decode prog_15_method_58_code 72 = .ok (.getfield 72, 3) by decide +kernel) ?_
      refine dc_iloadn (pc := 75) (j := 1) (i := 1) hC 2 rfl rfl (show decode prog_15_method_58_code 75 = .ok (.iload_n 1, 1) by decide +kernel) ?_
      refine md_l53 (pc := 76) hC (show decode prog_15_method_58_code 76 = .ok (.iaload, 1) by decide +kernel) h ?_
      intro j57 h
      refine md_l59 (pc := 77) hC (show decode prog_15_method_58_code 77 = .ok (.iaload, 1) by decide +kernel) h ?_
      intro j58 h
      refine dc_goto (pc := 78) (tgt := 108) hC (show decode prog_15_method_58_code 78 = .ok (.goto 30, 3) by decide +kernel) (by decide +kernel) ?_
      exact dc_sub [1, 2, 3, 0] rfl (lab_108 S x1 x2 y0 (S.2.1 59 j58) x1 h)
  have lab_25 : ∀ (S : md_S) (x1 : Int32) (y0 : Int32), dc_wp (mm_code_L25 S x1 y0) F → dc_G X l { frames := 1, cells := 0, slots := 0, locals := 24 } D 6 0 0 (md_W o a ca S) 25 [(0, .ref o), (1, .int x1)] [.int y0] := by
    intro S x1 y0 h
    delta mm_code_L25 at h
    refine dc_istoren (pc := 25) (j := 2) (i := 2) (lv' := [(2, .int y0), (0, .ref o), (1, .int x1)]) hC rfl (Nat.le_of_ble_eq_true rfl) rfl (show decode prog_15_method_58_code 25 = .ok (.istore_n 2, 1) by decide +kernel) ?_
    refine dc_aloadn (pc := 26) (j := 0) (i := 0) hC 1 rfl rfl (show decode prog_15_method_58_code 26 = .ok (.aload_n 0, 1) by decide +kernel) ?_
    refine md_g53 (pc := 27) hC (show decode prog_15_method_58_code 27 = .ok (.getfield 72, 3) by decide +kernel) ?_
    refine dc_iloadn (pc := 30) (j := 1) (i := 1) hC 2 rfl rfl (show decode prog_15_method_58_code 30 = .ok (.iload_n 1, 1) by decide +kernel) ?_
    refine md_l53 (pc := 31) hC (show decode prog_15_method_58_code 31 = .ok (.iaload, 1) by decide +kernel) h ?_
    intro j59 h
    refine dc_iconst (pc := 32) (v := (-1)) hC (show decode prog_15_method_58_code 32 = .ok (.iconst (-1), 1) by decide +kernel) (by decide +kernel) ?_
    refine dc_icmp_ne (pc := 33) (tgt := 40) hC (show decode prog_15_method_58_code 33 = .ok (.if_icmp .ne 7, 3) by decide +kernel) (by decide +kernel) h ?_ ?_
    · intro h
      refine dc_iconst (pc := 36) (v := 0) hC (show decode prog_15_method_58_code 36 = .ok (.iconst 0, 1) by decide +kernel) (by decide +kernel) ?_
      refine dc_goto (pc := 37) (tgt := 51) hC (show decode prog_15_method_58_code 37 = .ok (.goto 14, 3) by decide +kernel) (by decide +kernel) ?_
      exact dc_sub [1, 2, 0] rfl (lab_51 S x1 y0 0 h)
    · intro h
      refine dc_aloadn (pc := 40) (j := 0) (i := 0) hC 1 rfl rfl (show decode prog_15_method_58_code 40 = .ok (.aload_n 0, 1) by decide +kernel) ?_
      refine md_g55 (pc := 41) hC (show decode prog_15_method_58_code 41 = .ok (.getfield 78, 3) by decide +kernel) ?_
      refine dc_aloadn (pc := 44) (j := 0) (i := 0) hC 1 rfl rfl (show decode prog_15_method_58_code 44 = .ok (.aload_n 0, 1) by decide +kernel) ?_
      refine md_g53 (pc := 45) hC (show decode prog_15_method_58_code 45 = .ok (.getfield 72, 3) by decide +kernel) ?_
      refine dc_iloadn (pc := 48) (j := 1) (i := 1) hC 2 rfl rfl (show decode prog_15_method_58_code 48 = .ok (.iload_n 1, 1) by decide +kernel) ?_
      refine md_l53 (pc := 49) hC (show decode prog_15_method_58_code 49 = .ok (.iaload, 1) by decide +kernel) h ?_
      intro j60 h
      refine md_l55 (pc := 50) hC (show decode prog_15_method_58_code 50 = .ok (.iaload, 1) by decide +kernel) h ?_
      intro j61 h
      exact dc_sub [1, 2, 0] rfl (lab_51 S x1 y0 (S.2.1 55 j61) h)
  show dc_G X l { frames := 1, cells := 0, slots := 0, locals := 24 } D 6 0 0 (md_W o a ca S) 0 [(0, .ref o), (1, .int p1)] []
  delta mm_code at h
  refine dc_aloadn (pc := 0) (j := 0) (i := 0) hC 0 rfl rfl (show decode prog_15_method_58_code 0 = .ok (.aload_n 0, 1) by decide +kernel) ?_
  refine md_g52 (pc := 1) hC (show decode prog_15_method_58_code 1 = .ok (.getfield 69, 3) by decide +kernel) ?_
  refine dc_iloadn (pc := 4) (j := 1) (i := 1) hC 1 rfl rfl (show decode prog_15_method_58_code 4 = .ok (.iload_n 1, 1) by decide +kernel) ?_
  refine md_l52 (pc := 5) hC (show decode prog_15_method_58_code 5 = .ok (.iaload, 1) by decide +kernel) h ?_
  intro j62 h
  refine dc_iconst (pc := 6) (v := (-1)) hC (show decode prog_15_method_58_code 6 = .ok (.iconst (-1), 1) by decide +kernel) (by decide +kernel) ?_
  refine dc_icmp_ne (pc := 7) (tgt := 14) hC (show decode prog_15_method_58_code 7 = .ok (.if_icmp .ne 7, 3) by decide +kernel) (by decide +kernel) h ?_ ?_
  · intro h
    refine dc_iconst (pc := 10) (v := 0) hC (show decode prog_15_method_58_code 10 = .ok (.iconst 0, 1) by decide +kernel) (by decide +kernel) ?_
    refine dc_goto (pc := 11) (tgt := 25) hC (show decode prog_15_method_58_code 11 = .ok (.goto 14, 3) by decide +kernel) (by decide +kernel) ?_
    exact lab_25 S p1 0 h
  · intro h
    refine dc_aloadn (pc := 14) (j := 0) (i := 0) hC 0 rfl rfl (show decode prog_15_method_58_code 14 = .ok (.aload_n 0, 1) by decide +kernel) ?_
    refine md_g55 (pc := 15) hC (show decode prog_15_method_58_code 15 = .ok (.getfield 78, 3) by decide +kernel) ?_
    refine dc_aloadn (pc := 18) (j := 0) (i := 0) hC 0 rfl rfl (show decode prog_15_method_58_code 18 = .ok (.aload_n 0, 1) by decide +kernel) ?_
    refine md_g52 (pc := 19) hC (show decode prog_15_method_58_code 19 = .ok (.getfield 69, 3) by decide +kernel) ?_
    refine dc_iloadn (pc := 22) (j := 1) (i := 1) hC 1 rfl rfl (show decode prog_15_method_58_code 22 = .ok (.iload_n 1, 1) by decide +kernel) ?_
    refine md_l52 (pc := 23) hC (show decode prog_15_method_58_code 23 = .ok (.iaload, 1) by decide +kernel) h ?_
    intro j63 h
    refine md_l55 (pc := 24) hC (show decode prog_15_method_58_code 24 = .ok (.iaload, 1) by decide +kernel) h ?_
    intro j64 h
    exact lab_25 S p1 (S.2.1 55 j64) h
