noncomputable def mm_behind_L117 (T : mm_T3) (S : md_S) (y0 : Int32) (y1 : Int32) : Option (md_S) :=
  (mm_outcome S y1 y0).bind fun q1 => some q1
noncomputable def mm_behind_L86 (T : mm_T3) (S : md_S) (x5 : Int32) (x6 : Int32) (x7 : Int32) (x8 : Int32) (y0 : Int32) (y1 : Int32) (y2 : Int32) : Option (md_S) :=
  (T.1 S y2 y1 y0).bind fun q2 => dc_let (md_i q2 79 x8) fun S3 => if x6 = 0 then (mm_behind_L117 T S3 x7 (x5 ||| (S3.1 81))) else (mm_behind_L117 T S3 (S3.1 80) (x5 ||| (S3.1 81)))
noncomputable def mm_behind_L85 (T : mm_T3) (S : md_S) (x5 : Int32) (x6 : Int32) (x7 : Int32) (x8 : Int32) (y0 : Int32) (y1 : Int32) : Option (md_S) :=
  mm_behind_L86 T S x5 x6 x7 x8 0 y0 y1
noncomputable def mm_behind_L65 (T : mm_T3) (S : md_S) (x2 : Int32) (x4 : Int32) (x5 : Int32) (x6 : Int32) (x7 : Int32) (x8 : Int32) (y0 : Int32) : Option (md_S) :=
  dc_let (md_i S 79 y0) fun S4 => if x4 = 0 then (mm_behind_L85 T S4 x5 x6 x7 x8 1 x2) else (if x6 = 0 then (mm_behind_L85 T S4 x5 x6 x7 x8 1 x2) else (mm_behind_L86 T S4 x5 x6 x7 x8 1 1 x2))
noncomputable def mm_behind_L31 (T : mm_T3) (S : md_S) (x1 : Int32) (x2 : Int32) (x3 : Int32) (x4 : Int32) (x5 : Int32) (y0 : Int32) : Option (md_S) :=
  dc_let ((S.1 80) : Int32) fun v5 => dc_let ((S.1 79) : Int32) fun v6 => if x3 = 0 then ((dc_ix x1 1200).bind fun j7 => mm_behind_L65 T S x2 x4 x5 y0 v5 v6 (1 + (S.2.1 57 j7))) else (mm_behind_L65 T S x2 x4 x5 y0 v5 v6 (S.1 79))
noncomputable def mm_behind (T : mm_T3) (S : md_S) (p1 : Int32) (p2 : Int32) (p3 : Int32) (p4 : Int32) : Option (md_S) :=
  if ((S.1 81) &&& 1) = 0 then (some S) else (dc_let (((S.1 81) &&& (-2)) : Int32) fun v8 => if (S.1 80) = 0 then (mm_behind_L31 T S p1 p2 p3 p4 v8 1) else (mm_behind_L31 T S p1 p2 p3 p4 v8 0))
set_option maxHeartbeats 4000000 in
set_option maxRecDepth 100000 in
/-- behind(IIZZ)V -/
theorem mm_behind_ok (l : Launch) (D : va_G) (ad : Nat → Nat) (de : Nat) (o : Nat) (a : Nat → Nat) (ca : Nat → ClassId) (T : mm_T3) (d : Nat) (hT : mm_OK3 l D ad de o a ca T d) (S : md_S) (p1 : Int32) (p2 : Int32) (p3 : Int32) (p4 : Int32) (F : md_S → Prop) (h : dc_wp (mm_behind T S p1 p2 p3 p4) F) : dc_Cv l ⟨"SignalEngineModel", "behind", "(IIZZ)V"⟩ prog_15_method_70_code 9 none (d + 1 + 2) (28 * (d + 1) + 45) D (md_T ca) ad de [.ref o, .int p1, .int p2, .int p3, .int p4] (md_W o a ca S) (fun w => ∃ q, F q ∧ w = md_W o a ca q) 0 0 := by
  refine dc_enterv (by decide +kernel) (Nat.le_of_ble_eq_true rfl) ?_
  intro X hC hR
  have lab_117 : ∀ (S : md_S) (y0 : Int32) (y1 : Int32), dc_wp (mm_behind_L117 T S y0 y1) F → dc_G X l { frames := d + 1 + 2, cells := 0, slots := 0, locals := 28 * (d + 1) + 45 } D 9 0 0 (md_W o a ca S) 117 [(0, .ref o)] [.int y0, .int y1, .ref o] := by
    intro S y0 y1 h
    delta mm_behind_L117 at h
    refine mc_Vmv (pc := 117) (As := [.int y1, .int y0]) (rest := []) hC vw_outcome_579 (mm_outcome_ok l D ad de o a ca S y1 y0) (by omega) (by omega) rfl (Nat.le_of_ble_eq_true rfl) (show decode prog_15_method_70_code 117 = .ok (.invokevirtual 579, 3) by decide +kernel) h ?_
    intro q1 h
    exact dc_vret (pc := 120) hC hR ⟨_, dc_some h, rfl⟩ (show decode prog_15_method_70_code 120 = .ok (.return_, 1) by decide +kernel)
  have lab_86 : ∀ (S : md_S) (x5 : Int32) (x6 : Int32) (x7 : Int32) (x8 : Int32) (y0 : Int32) (y1 : Int32) (y2 : Int32), dc_wp (mm_behind_L86 T S x5 x6 x7 x8 y0 y1 y2) F → dc_G X l { frames := d + 1 + 2, cells := 0, slots := 0, locals := 28 * (d + 1) + 45 } D 9 0 0 (md_W o a ca S) 86 [(0, .ref o), (5, .int x5), (6, .int x6), (7, .int x7), (8, .int x8)] [.int y0, .int y1, .int y2, .ref o] := by
    intro S x5 x6 x7 x8 y0 y1 y2 h
    delta mm_behind_L86 at h
    refine mc_Vmv (pc := 86) (As := [.int y2, .int y1, .int y0]) (rest := []) hC vw_run_591 (hT.1 S y2 y1 y0) (by omega) (by omega) rfl (Nat.le_of_ble_eq_true rfl) (show decode prog_15_method_70_code 86 = .ok (.invokevirtual 591, 3) by decide +kernel) h ?_
    intro q2 h
    refine dc_aloadn (pc := 89) (j := 0) (i := 0) hC 0 rfl rfl (show decode prog_15_method_70_code 89 = .ok (.aload_n 0, 1) by decide +kernel) ?_
    refine dc_iload (pc := 90) (i := 8) hC 4 rfl (show decode prog_15_method_70_code 90 = .ok (.iload 8, 2) by decide +kernel) ?_
    refine md_p79 (pc := 92) hC (show decode prog_15_method_70_code 92 = .ok (.putfield 570, 3) by decide +kernel) ?_
    refine dc_letS h ?_
    intro S3 h
    refine dc_aloadn (pc := 95) (j := 0) (i := 0) hC 0 rfl rfl (show decode prog_15_method_70_code 95 = .ok (.aload_n 0, 1) by decide +kernel) ?_
    refine dc_iload (pc := 96) (i := 5) hC 1 rfl (show decode prog_15_method_70_code 96 = .ok (.iload 5, 2) by decide +kernel) ?_
    refine dc_aloadn (pc := 98) (j := 0) (i := 0) hC 0 rfl rfl (show decode prog_15_method_70_code 98 = .ok (.aload_n 0, 1) by decide +kernel) ?_
    refine md_g81 (pc := 99) hC (show decode prog_15_method_70_code 99 = .ok (.getfield 564, 3) by decide +kernel) ?_
    refine dc_ior (pc := 102) hC (show decode prog_15_method_70_code 102 = .ok (.ior, 1) by decide +kernel) ?_
    refine dc_iload (pc := 103) (i := 6) hC 2 rfl (show decode prog_15_method_70_code 103 = .ok (.iload 6, 2) by decide +kernel) ?_
    refine dc_if_eq (pc := 105) (tgt := 115) hC (show decode prog_15_method_70_code 105 = .ok (.ifCond .eq 10, 3) by decide +kernel) (by decide +kernel) h ?_ ?_
    · intro h
      refine dc_iload (pc := 115) (i := 7) hC 3 rfl (show decode prog_15_method_70_code 115 = .ok (.iload 7, 2) by decide +kernel) ?_
      exact dc_sub [0] rfl (lab_117 S3 x7 (x5 ||| (S3.1 81)) h)
    · intro h
      refine dc_aloadn (pc := 108) (j := 0) (i := 0) hC 0 rfl rfl (show decode prog_15_method_70_code 108 = .ok (.aload_n 0, 1) by decide +kernel) ?_
      refine md_g80 (pc := 109) hC (show decode prog_15_method_70_code 109 = .ok (.getfield 567, 3) by decide +kernel) ?_
      refine dc_goto (pc := 112) (tgt := 117) hC (show decode prog_15_method_70_code 112 = .ok (.goto 5, 3) by decide +kernel) (by decide +kernel) ?_
      exact dc_sub [0] rfl (lab_117 S3 (S3.1 80) (x5 ||| (S3.1 81)) h)
  have lab_85 : ∀ (S : md_S) (x5 : Int32) (x6 : Int32) (x7 : Int32) (x8 : Int32) (y0 : Int32) (y1 : Int32), dc_wp (mm_behind_L85 T S x5 x6 x7 x8 y0 y1) F → dc_G X l { frames := d + 1 + 2, cells := 0, slots := 0, locals := 28 * (d + 1) + 45 } D 9 0 0 (md_W o a ca S) 85 [(0, .ref o), (5, .int x5), (6, .int x6), (7, .int x7), (8, .int x8)] [.int y0, .int y1, .ref o] := by
    intro S x5 x6 x7 x8 y0 y1 h
    delta mm_behind_L85 at h
    refine dc_iconst (pc := 85) (v := 0) hC (show decode prog_15_method_70_code 85 = .ok (.iconst 0, 1) by decide +kernel) (by decide +kernel) ?_
    exact lab_86 S x5 x6 x7 x8 0 y0 y1 h
  have lab_65 : ∀ (S : md_S) (x2 : Int32) (x4 : Int32) (x5 : Int32) (x6 : Int32) (x7 : Int32) (x8 : Int32) (y0 : Int32), dc_wp (mm_behind_L65 T S x2 x4 x5 x6 x7 x8 y0) F → dc_G X l { frames := d + 1 + 2, cells := 0, slots := 0, locals := 28 * (d + 1) + 45 } D 9 0 0 (md_W o a ca S) 65 [(0, .ref o), (2, .int x2), (4, .int x4), (5, .int x5), (6, .int x6), (7, .int x7), (8, .int x8)] [.int y0, .ref o] := by
    intro S x2 x4 x5 x6 x7 x8 y0 h
    delta mm_behind_L65 at h
    refine md_p79 (pc := 65) hC (show decode prog_15_method_70_code 65 = .ok (.putfield 570, 3) by decide +kernel) ?_
    refine dc_letS h ?_
    intro S4 h
    refine dc_aloadn (pc := 68) (j := 0) (i := 0) hC 0 rfl rfl (show decode prog_15_method_70_code 68 = .ok (.aload_n 0, 1) by decide +kernel) ?_
    refine dc_iloadn (pc := 69) (j := 2) (i := 2) hC 1 rfl rfl (show decode prog_15_method_70_code 69 = .ok (.iload_n 2, 1) by decide +kernel) ?_
    refine dc_iconst (pc := 70) (v := 1) hC (show decode prog_15_method_70_code 70 = .ok (.iconst 1, 1) by decide +kernel) (by decide +kernel) ?_
    refine dc_iload (pc := 71) (i := 4) hC 2 rfl (show decode prog_15_method_70_code 71 = .ok (.iload 4, 2) by decide +kernel) ?_
    refine dc_if_eq (pc := 73) (tgt := 85) hC (show decode prog_15_method_70_code 73 = .ok (.ifCond .eq 12, 3) by decide +kernel) (by decide +kernel) h ?_ ?_
    · intro h
      exact dc_sub [0, 3, 4, 5, 6] rfl (lab_85 S4 x5 x6 x7 x8 1 x2 h)
    · intro h
      refine dc_iload (pc := 76) (i := 6) hC 4 rfl (show decode prog_15_method_70_code 76 = .ok (.iload 6, 2) by decide +kernel) ?_
      refine dc_if_eq (pc := 78) (tgt := 85) hC (show decode prog_15_method_70_code 78 = .ok (.ifCond .eq 7, 3) by decide +kernel) (by decide +kernel) h ?_ ?_
      · intro h
        exact dc_sub [0, 3, 4, 5, 6] rfl (lab_85 S4 x5 x6 x7 x8 1 x2 h)
      · intro h
        refine dc_iconst (pc := 81) (v := 1) hC (show decode prog_15_method_70_code 81 = .ok (.iconst 1, 1) by decide +kernel) (by decide +kernel) ?_
        refine dc_goto (pc := 82) (tgt := 86) hC (show decode prog_15_method_70_code 82 = .ok (.goto 4, 3) by decide +kernel) (by decide +kernel) ?_
        exact dc_sub [0, 3, 4, 5, 6] rfl (lab_86 S4 x5 x6 x7 x8 1 1 x2 h)
  have lab_31 : ∀ (S : md_S) (x1 : Int32) (x2 : Int32) (x3 : Int32) (x4 : Int32) (x5 : Int32) (y0 : Int32), dc_wp (mm_behind_L31 T S x1 x2 x3 x4 x5 y0) F → dc_G X l { frames := d + 1 + 2, cells := 0, slots := 0, locals := 28 * (d + 1) + 45 } D 9 0 0 (md_W o a ca S) 31 [(0, .ref o), (1, .int x1), (2, .int x2), (3, .int x3), (4, .int x4), (5, .int x5)] [.int y0] := by
    intro S x1 x2 x3 x4 x5 y0 h
    delta mm_behind_L31 at h
    refine dc_istore (pc := 31) (i := 6) (lv' := [(6, .int y0), (0, .ref o), (1, .int x1), (2, .int x2), (3, .int x3), (4, .int x4), (5, .int x5)]) hC (Nat.le_of_ble_eq_true rfl) rfl (show decode prog_15_method_70_code 31 = .ok (.istore 6, 2) by decide +kernel) ?_
    refine dc_aloadn (pc := 33) (j := 0) (i := 0) hC 1 rfl rfl (show decode prog_15_method_70_code 33 = .ok (.aload_n 0, 1) by decide +kernel) ?_
    refine md_g80 (pc := 34) hC (show decode prog_15_method_70_code 34 = .ok (.getfield 567, 3) by decide +kernel) ?_
    refine dc_letI h ?_
    intro v5 h
    refine dc_istore (pc := 37) (i := 7) (lv' := [(7, .int v5), (6, .int y0), (0, .ref o), (1, .int x1), (2, .int x2), (3, .int x3), (4, .int x4), (5, .int x5)]) hC (Nat.le_of_ble_eq_true rfl) rfl (show decode prog_15_method_70_code 37 = .ok (.istore 7, 2) by decide +kernel) ?_
    refine dc_aloadn (pc := 39) (j := 0) (i := 0) hC 2 rfl rfl (show decode prog_15_method_70_code 39 = .ok (.aload_n 0, 1) by decide +kernel) ?_
    refine md_g79 (pc := 40) hC (show decode prog_15_method_70_code 40 = .ok (.getfield 570, 3) by decide +kernel) ?_
    refine dc_letI h ?_
    intro v6 h
    refine dc_istore (pc := 43) (i := 8) (lv' := [(8, .int v6), (7, .int v5), (6, .int y0), (0, .ref o), (1, .int x1), (2, .int x2), (3, .int x3), (4, .int x4), (5, .int x5)]) hC (Nat.le_of_ble_eq_true rfl) rfl (show decode prog_15_method_70_code 43 = .ok (.istore 8, 2) by decide +kernel) ?_
    refine dc_aloadn (pc := 45) (j := 0) (i := 0) hC 3 rfl rfl (show decode prog_15_method_70_code 45 = .ok (.aload_n 0, 1) by decide +kernel) ?_
    refine dc_iloadn (pc := 46) (j := 3) (i := 3) hC 6 rfl rfl (show decode prog_15_method_70_code 46 = .ok (.iload_n 3, 1) by decide +kernel) ?_
    refine dc_if_eq (pc := 47) (tgt := 57) hC (show decode prog_15_method_70_code 47 = .ok (.ifCond .eq 10, 3) by decide +kernel) (by decide +kernel) h ?_ ?_
    · intro h
      refine dc_iconst (pc := 57) (v := 1) hC (show decode prog_15_method_70_code 57 = .ok (.iconst 1, 1) by decide +kernel) (by decide +kernel) ?_
      refine dc_aloadn (pc := 58) (j := 0) (i := 0) hC 3 rfl rfl (show decode prog_15_method_70_code 58 = .ok (.aload_n 0, 1) by decide +kernel) ?_
      refine md_g57 (pc := 59) hC (show decode prog_15_method_70_code 59 = .ok (.getfield 84, 3) by decide +kernel) ?_
      refine dc_iloadn (pc := 62) (j := 1) (i := 1) hC 4 rfl rfl (show decode prog_15_method_70_code 62 = .ok (.iload_n 1, 1) by decide +kernel) ?_
      refine md_l57 (pc := 63) hC (show decode prog_15_method_70_code 63 = .ok (.iaload, 1) by decide +kernel) h ?_
      intro j7 h
      refine dc_iadd (pc := 64) hC (show decode prog_15_method_70_code 64 = .ok (.iadd, 1) by decide +kernel) ?_
      exact dc_sub [3, 5, 7, 8, 2, 1, 0] rfl (lab_65 S x2 x4 x5 y0 v5 v6 (1 + (S.2.1 57 j7)) h)
    · intro h
      refine dc_aloadn (pc := 50) (j := 0) (i := 0) hC 3 rfl rfl (show decode prog_15_method_70_code 50 = .ok (.aload_n 0, 1) by decide +kernel) ?_
      refine md_g79 (pc := 51) hC (show decode prog_15_method_70_code 51 = .ok (.getfield 570, 3) by decide +kernel) ?_
      refine dc_goto (pc := 54) (tgt := 65) hC (show decode prog_15_method_70_code 54 = .ok (.goto 11, 3) by decide +kernel) (by decide +kernel) ?_
      exact dc_sub [3, 5, 7, 8, 2, 1, 0] rfl (lab_65 S x2 x4 x5 y0 v5 v6 (S.1 79) h)
  show dc_G X l { frames := d + 1 + 2, cells := 0, slots := 0, locals := 28 * (d + 1) + 45 } D 9 0 0 (md_W o a ca S) 0 [(0, .ref o), (1, .int p1), (2, .int p2), (3, .int p3), (4, .int p4)] []
  delta mm_behind at h
  refine dc_aloadn (pc := 0) (j := 0) (i := 0) hC 0 rfl rfl (show decode prog_15_method_70_code 0 = .ok (.aload_n 0, 1) by decide +kernel) ?_
  refine md_g81 (pc := 1) hC (show decode prog_15_method_70_code 1 = .ok (.getfield 564, 3) by decide +kernel) ?_
  refine dc_iconst (pc := 4) (v := 1) hC (show decode prog_15_method_70_code 4 = .ok (.iconst 1, 1) by decide +kernel) (by decide +kernel) ?_
  refine dc_iand (pc := 5) hC (show decode prog_15_method_70_code 5 = .ok (.iand, 1) by decide +kernel) ?_
  refine dc_if_ne (pc := 6) (tgt := 10) hC (show decode prog_15_method_70_code 6 = .ok (.ifCond .ne 4, 3) by decide +kernel) (by decide +kernel) h ?_ ?_
  · intro h
    exact dc_vret (pc := 9) hC hR ⟨_, dc_some h, rfl⟩ (show decode prog_15_method_70_code 9 = .ok (.return_, 1) by decide +kernel)
  · intro h
    refine dc_aloadn (pc := 10) (j := 0) (i := 0) hC 0 rfl rfl (show decode prog_15_method_70_code 10 = .ok (.aload_n 0, 1) by decide +kernel) ?_
    refine md_g81 (pc := 11) hC (show decode prog_15_method_70_code 11 = .ok (.getfield 564, 3) by decide +kernel) ?_
    refine dc_bipush (pc := 14) (v := (-2)) hC (show decode prog_15_method_70_code 14 = .ok (.bipush (-2), 2) by decide +kernel) (by decide +kernel) ?_
    refine dc_iand (pc := 16) hC (show decode prog_15_method_70_code 16 = .ok (.iand, 1) by decide +kernel) ?_
    refine dc_letI h ?_
    intro v8 h
    refine dc_istore (pc := 17) (i := 5) (lv' := [(5, .int v8), (0, .ref o), (1, .int p1), (2, .int p2), (3, .int p3), (4, .int p4)]) hC (Nat.le_of_ble_eq_true rfl) rfl (show decode prog_15_method_70_code 17 = .ok (.istore 5, 2) by decide +kernel) ?_
    refine dc_aloadn (pc := 19) (j := 0) (i := 0) hC 1 rfl rfl (show decode prog_15_method_70_code 19 = .ok (.aload_n 0, 1) by decide +kernel) ?_
    refine md_g80 (pc := 20) hC (show decode prog_15_method_70_code 20 = .ok (.getfield 567, 3) by decide +kernel) ?_
    refine dc_if_ne (pc := 23) (tgt := 30) hC (show decode prog_15_method_70_code 23 = .ok (.ifCond .ne 7, 3) by decide +kernel) (by decide +kernel) h ?_ ?_
    · intro h
      refine dc_iconst (pc := 26) (v := 1) hC (show decode prog_15_method_70_code 26 = .ok (.iconst 1, 1) by decide +kernel) (by decide +kernel) ?_
      refine dc_goto (pc := 27) (tgt := 31) hC (show decode prog_15_method_70_code 27 = .ok (.goto 4, 3) by decide +kernel) (by decide +kernel) ?_
      exact dc_sub [1, 2, 3, 4, 5, 0] rfl (lab_31 S p1 p2 p3 p4 v8 1 h)
    · intro h
      refine dc_iconst (pc := 30) (v := 0) hC (show decode prog_15_method_70_code 30 = .ok (.iconst 0, 1) by decide +kernel) (by decide +kernel) ?_
      exact dc_sub [1, 2, 3, 4, 5, 0] rfl (lab_31 S p1 p2 p3 p4 v8 0 h)
noncomputable def mm_both_L118 (T : mm_T3) (S : md_S) : Option (md_S) :=
  some S
noncomputable def mm_both_L112 (T : mm_T3) (S : md_S) (x1 : Int32) (x2 : Int32) (x3 : Int32) (x4 : Int32) (y0 : Int32) (y1 : Int32) : Option ((md_S × Int32) ⊕ ((md_S))) :=
  (mm_outcome S y1 y0).bind fun q1 => some (.inl (q1, x4))
noncomputable def mm_both_L99 (T : mm_T3) (S : md_S) (x1 : Int32) (x2 : Int32) (x3 : Int32) (x4 : Int32) (y0 : Int32) : Option ((md_S × Int32) ⊕ ((md_S))) :=
  mm_both_L112 T S x1 x2 x3 x4 (-1) y0
noncomputable def mm_both_b35 (T : mm_T3) (S : md_S) (x1 : Int32) (x2 : Int32) (x3 : Int32) (x4 : Int32) : Option ((md_S × Int32) ⊕ ((md_S))) :=
  if x4 = x1 then (some (.inr S)) else ((dc_ix x4 1200).bind fun j2 => dc_let ((S.2.1 58 j2) : Int32) fun v3 => dc_let ((S.1 81) : Int32) fun v4 => dc_let ((S.1 80) : Int32) fun v5 => (dc_ix v3 1200).bind fun j6 => (T.2.2.2.2.2.2.1 S (S.2.1 53 j6) x2 x3).bind fun q7 => (mm_pairs v4 (q7.1 81)).bind fun q8 => if v5 = (-1) then (mm_both_L99 T q7 x1 x2 x3 v3 q8) else (if (q7.1 80) = (-1) then (mm_both_L99 T q7 x1 x2 x3 v3 q8) else (mm_both_L112 T q7 x1 x2 x3 v3 (dc_max v5 (q7.1 80)) q8)))
noncomputable def mm_both_s35 (T : mm_T3) (x1 : Int32) (x2 : Int32) (x3 : Int32) (q : md_S × Int32) : Option ((md_S × Int32) ⊕ ((md_S))) :=
  mm_both_b35 T q.1 x1 x2 x3 q.2
noncomputable def mm_both_L35 (T : mm_T3) (S : md_S) (x1 : Int32) (x2 : Int32) (x3 : Int32) (x4 : Int32) : Option (md_S) :=
  (dc_it (mm_both_s35 T x1 x2 x3) (S, x4)).bind (fun (z : md_S) => mm_both_L118 T z)
noncomputable def mm_both_L27 (T : mm_T3) (S : md_S) (x1 : Int32) (x2 : Int32) (x3 : Int32) (x4 : Int32) : Option (md_S) :=
  (T.2.2.2.2.2.2.1 S x4 x2 x3).bind fun q9 => mm_both_L35 T q9 x1 x2 x3 x4
noncomputable def mm_both_b3 (T : mm_T3) (S : md_S) (x1 : Int32) (x2 : Int32) (x3 : Int32) (x4 : Int32) : Option ((Int32) ⊕ ((Int32))) :=
  (dc_ix x4 1200).bind fun j10 => if (S.2.1 51 j10) = 7 then ((dc_ix x4 1200).bind fun j11 => dc_let ((S.2.1 52 j11) : Int32) fun v12 => some (.inl v12)) else (some (.inr x4))
noncomputable def mm_both_s3 (T : mm_T3) (S : md_S) (x1 : Int32) (x2 : Int32) (x3 : Int32) (q : Int32) : Option ((Int32) ⊕ ((Int32))) :=
  mm_both_b3 T S x1 x2 x3 q
noncomputable def mm_both_L3 (T : mm_T3) (S : md_S) (x1 : Int32) (x2 : Int32) (x3 : Int32) (x4 : Int32) : Option (md_S) :=
  (dc_it (mm_both_s3 T S x1 x2 x3) x4).bind (fun (z : Int32) => mm_both_L27 T S x1 x2 x3 z)
noncomputable def mm_both (T : mm_T3) (S : md_S) (p1 : Int32) (p2 : Int32) (p3 : Int32) : Option (md_S) :=
  mm_both_L3 T S p1 p2 p3 p1
set_option maxHeartbeats 4000000 in
set_option maxRecDepth 100000 in
/-- both(IZZ)V -/
theorem mm_both_ok (l : Launch) (D : va_G) (ad : Nat → Nat) (de : Nat) (o : Nat) (a : Nat → Nat) (ca : Nat → ClassId) (T : mm_T3) (d : Nat) (hT : mm_OK3 l D ad de o a ca T d) (S : md_S) (p1 : Int32) (p2 : Int32) (p3 : Int32) (F : md_S → Prop) (h : dc_wp (mm_both T S p1 p2 p3) F) : dc_Cv l ⟨"SignalEngineModel", "both", "(IZZ)V"⟩ prog_15_method_73_code 7 none (d + 1 + 2) (28 * (d + 1) + 45) D (md_T ca) ad de [.ref o, .int p1, .int p2, .int p3] (md_W o a ca S) (fun w => ∃ q, F q ∧ w = md_W o a ca q) 0 0 := by
  refine dc_enterv (by decide +kernel) (Nat.le_of_ble_eq_true rfl) ?_
  intro X hC hR
  have lab_118 : ∀ (S : md_S), dc_wp (mm_both_L118 T S) F → dc_G X l { frames := d + 1 + 2, cells := 0, slots := 0, locals := 28 * (d + 1) + 45 } D 7 0 0 (md_W o a ca S) 118 [(0, .ref o)] [] := by
    intro S  h
    delta mm_both_L118 at h
    exact dc_vret (pc := 118) hC hR ⟨_, dc_some h, rfl⟩ (show decode prog_15_method_73_code 118 = .ok (.return_, 1) by decide +kernel)
  have loop_35 : ∀ (x1 : Int32) (x2 : Int32) (x3 : Int32) (q : md_S × Int32), dc_wp (dc_it (mm_both_s35 T x1 x2 x3) q) (fun z => dc_wp ((fun (z : md_S) => mm_both_L118 T z) z) F) → dc_G X l { frames := d + 1 + 2, cells := 0, slots := 0, locals := 28 * (d + 1) + 45 } D 7 0 0 (md_W o a ca q.1) 35 [(0, .ref o), (1, .int x1), (2, .int x2), (3, .int x3), (4, .int q.2)] [] := by
    intro x1 x2 x3
    refine dc_loopF ?_
    intro F_35 hl_35 hr_35
    have lab_112 : ∀ (S : md_S) (x4 : Int32) (y0 : Int32) (y1 : Int32), dc_wp (mm_both_L112 T S x1 x2 x3 x4 y0 y1) F_35 → dc_G X l { frames := d + 1 + 2, cells := 0, slots := 0, locals := 28 * (d + 1) + 45 } D 7 0 0 (md_W o a ca S) 112 [(0, .ref o), (1, .int x1), (2, .int x2), (3, .int x3), (4, .int x4)] [.int y0, .int y1, .ref o] := by
      intro S x4 y0 y1 h
      delta mm_both_L112 at h
      refine mc_Vmv (pc := 112) (As := [.int y1, .int y0]) (rest := []) hC vw_outcome_579 (mm_outcome_ok l D ad de o a ca S y1 y0) (by omega) (by omega) rfl (Nat.le_of_ble_eq_true rfl) (show decode prog_15_method_73_code 112 = .ok (.invokevirtual 579, 3) by decide +kernel) h ?_
      intro q1 h
      refine dc_goto (pc := 115) (tgt := 35) hC (show decode prog_15_method_73_code 115 = .ok (.goto (-80), 3) by decide +kernel) (by decide +kernel) ?_
      exact hl_35 (q1, x4) (dc_some h)
    have lab_99 : ∀ (S : md_S) (x4 : Int32) (y0 : Int32), dc_wp (mm_both_L99 T S x1 x2 x3 x4 y0) F_35 → dc_G X l { frames := d + 1 + 2, cells := 0, slots := 0, locals := 28 * (d + 1) + 45 } D 7 0 0 (md_W o a ca S) 99 [(0, .ref o), (1, .int x1), (2, .int x2), (3, .int x3), (4, .int x4)] [.int y0, .ref o] := by
      intro S x4 y0 h
      delta mm_both_L99 at h
      refine dc_iconst (pc := 99) (v := (-1)) hC (show decode prog_15_method_73_code 99 = .ok (.iconst (-1), 1) by decide +kernel) (by decide +kernel) ?_
      refine dc_goto (pc := 100) (tgt := 112) hC (show decode prog_15_method_73_code 100 = .ok (.goto 12, 3) by decide +kernel) (by decide +kernel) ?_
      exact lab_112 S x4 (-1) y0 h
    rintro ⟨S, x4⟩ h
    have h : dc_wp (mm_both_b35 T S x1 x2 x3 x4) F_35 := h
    delta mm_both_b35 at h
    refine dc_iload (pc := 35) (i := 4) hC 4 rfl (show decode prog_15_method_73_code 35 = .ok (.iload 4, 2) by decide +kernel) ?_
    refine dc_iloadn (pc := 37) (j := 1) (i := 1) hC 1 rfl rfl (show decode prog_15_method_73_code 37 = .ok (.iload_n 1, 1) by decide +kernel) ?_
    refine dc_icmp_eq (pc := 38) (tgt := 118) hC (show decode prog_15_method_73_code 38 = .ok (.if_icmp .eq 80, 3) by decide +kernel) (by decide +kernel) h ?_ ?_
    · intro h
      have h : dc_wp (mm_both_L118 T S) F := hr_35 S (dc_some h)
      exact dc_sub [0] rfl (lab_118 S h)
    · intro h
      refine dc_aloadn (pc := 41) (j := 0) (i := 0) hC 0 rfl rfl (show decode prog_15_method_73_code 41 = .ok (.aload_n 0, 1) by decide +kernel) ?_
      refine md_g58 (pc := 42) hC (show decode prog_15_method_73_code 42 = .ok (.getfield 87, 3) by decide +kernel) ?_
      refine dc_iload (pc := 45) (i := 4) hC 4 rfl (show decode prog_15_method_73_code 45 = .ok (.iload 4, 2) by decide +kernel) ?_
      refine md_l58 (pc := 47) hC (show decode prog_15_method_73_code 47 = .ok (.iaload, 1) by decide +kernel) h ?_
      intro j2 h
      refine dc_letI h ?_
      intro v3 h
      refine dc_istore (pc := 48) (i := 4) (lv' := [(4, .int v3), (0, .ref o), (1, .int x1), (2, .int x2), (3, .int x3)]) hC (Nat.le_of_ble_eq_true rfl) rfl (show decode prog_15_method_73_code 48 = .ok (.istore 4, 2) by decide +kernel) ?_
      refine dc_aloadn (pc := 50) (j := 0) (i := 0) hC 1 rfl rfl (show decode prog_15_method_73_code 50 = .ok (.aload_n 0, 1) by decide +kernel) ?_
      refine md_g81 (pc := 51) hC (show decode prog_15_method_73_code 51 = .ok (.getfield 564, 3) by decide +kernel) ?_
      refine dc_letI h ?_
      intro v4 h
      refine dc_istore (pc := 54) (i := 5) (lv' := [(5, .int v4), (4, .int v3), (0, .ref o), (1, .int x1), (2, .int x2), (3, .int x3)]) hC (Nat.le_of_ble_eq_true rfl) rfl (show decode prog_15_method_73_code 54 = .ok (.istore 5, 2) by decide +kernel) ?_
      refine dc_aloadn (pc := 56) (j := 0) (i := 0) hC 2 rfl rfl (show decode prog_15_method_73_code 56 = .ok (.aload_n 0, 1) by decide +kernel) ?_
      refine md_g80 (pc := 57) hC (show decode prog_15_method_73_code 57 = .ok (.getfield 567, 3) by decide +kernel) ?_
      refine dc_letI h ?_
      intro v5 h
      refine dc_istore (pc := 60) (i := 6) (lv' := [(6, .int v5), (5, .int v4), (4, .int v3), (0, .ref o), (1, .int x1), (2, .int x2), (3, .int x3)]) hC (Nat.le_of_ble_eq_true rfl) rfl (show decode prog_15_method_73_code 60 = .ok (.istore 6, 2) by decide +kernel) ?_
      refine dc_aloadn (pc := 62) (j := 0) (i := 0) hC 3 rfl rfl (show decode prog_15_method_73_code 62 = .ok (.aload_n 0, 1) by decide +kernel) ?_
      refine dc_aloadn (pc := 63) (j := 0) (i := 0) hC 3 rfl rfl (show decode prog_15_method_73_code 63 = .ok (.aload_n 0, 1) by decide +kernel) ?_
      refine md_g53 (pc := 64) hC (show decode prog_15_method_73_code 64 = .ok (.getfield 72, 3) by decide +kernel) ?_
      refine dc_iload (pc := 67) (i := 4) hC 2 rfl (show decode prog_15_method_73_code 67 = .ok (.iload 4, 2) by decide +kernel) ?_
      refine md_l53 (pc := 69) hC (show decode prog_15_method_73_code 69 = .ok (.iaload, 1) by decide +kernel) h ?_
      intro j6 h
      refine dc_iloadn (pc := 70) (j := 2) (i := 2) hC 5 rfl rfl (show decode prog_15_method_73_code 70 = .ok (.iload_n 2, 1) by decide +kernel) ?_
      refine dc_iloadn (pc := 71) (j := 3) (i := 3) hC 6 rfl rfl (show decode prog_15_method_73_code 71 = .ok (.iload_n 3, 1) by decide +kernel) ?_
      refine mc_Vmv (pc := 72) (As := [.int (S.2.1 53 j6), .int x2, .int x3]) (rest := []) hC vw_side_609 (hT.2.2.2.2.2.2.1 S (S.2.1 53 j6) x2 x3) (by omega) (by omega) rfl (Nat.le_of_ble_eq_true rfl) (show decode prog_15_method_73_code 72 = .ok (.invokevirtual 609, 3) by decide +kernel) h ?_
      intro q7 h
      refine dc_aloadn (pc := 75) (j := 0) (i := 0) hC 3 rfl rfl (show decode prog_15_method_73_code 75 = .ok (.aload_n 0, 1) by decide +kernel) ?_
      refine dc_iload (pc := 76) (i := 5) hC 1 rfl (show decode prog_15_method_73_code 76 = .ok (.iload 5, 2) by decide +kernel) ?_
      refine dc_aloadn (pc := 78) (j := 0) (i := 0) hC 3 rfl rfl (show decode prog_15_method_73_code 78 = .ok (.aload_n 0, 1) by decide +kernel) ?_
      refine md_g81 (pc := 79) hC (show decode prog_15_method_73_code 79 = .ok (.getfield 564, 3) by decide +kernel) ?_
      refine mc_Spi (pc := 82) (As := [.int v4, .int (q7.1 81)]) (rest := [.ref o]) hC vs_pairs_392 (mm_pairs_ok l D ad de (md_W o a ca q7) (md_T ca) v4 (q7.1 81)) (by omega) (by omega) rfl (Nat.le_of_ble_eq_true rfl) (show decode prog_15_method_73_code 82 = .ok (.invokestatic 392, 3) by decide +kernel) h ?_
      intro q8 h
      refine dc_iload (pc := 85) (i := 6) hC 0 rfl (show decode prog_15_method_73_code 85 = .ok (.iload 6, 2) by decide +kernel) ?_
      refine dc_iconst (pc := 87) (v := (-1)) hC (show decode prog_15_method_73_code 87 = .ok (.iconst (-1), 1) by decide +kernel) (by decide +kernel) ?_
      refine dc_icmp_eq (pc := 88) (tgt := 99) hC (show decode prog_15_method_73_code 88 = .ok (.if_icmp .eq 11, 3) by decide +kernel) (by decide +kernel) h ?_ ?_
      · intro h
        exact dc_sub [3, 4, 5, 6, 2] rfl (lab_99 q7 v3 q8 h)
      · intro h
        refine dc_aloadn (pc := 91) (j := 0) (i := 0) hC 3 rfl rfl (show decode prog_15_method_73_code 91 = .ok (.aload_n 0, 1) by decide +kernel) ?_
        refine md_g80 (pc := 92) hC (show decode prog_15_method_73_code 92 = .ok (.getfield 567, 3) by decide +kernel) ?_
        refine dc_iconst (pc := 95) (v := (-1)) hC (show decode prog_15_method_73_code 95 = .ok (.iconst (-1), 1) by decide +kernel) (by decide +kernel) ?_
        refine dc_icmp_ne (pc := 96) (tgt := 103) hC (show decode prog_15_method_73_code 96 = .ok (.if_icmp .ne 7, 3) by decide +kernel) (by decide +kernel) h ?_ ?_
        · intro h
          exact dc_sub [3, 4, 5, 6, 2] rfl (lab_99 q7 v3 q8 h)
        · intro h
          refine dc_iload (pc := 103) (i := 6) hC 0 rfl (show decode prog_15_method_73_code 103 = .ok (.iload 6, 2) by decide +kernel) ?_
          refine dc_aloadn (pc := 105) (j := 0) (i := 0) hC 3 rfl rfl (show decode prog_15_method_73_code 105 = .ok (.aload_n 0, 1) by decide +kernel) ?_
          refine md_g80 (pc := 106) hC (show decode prog_15_method_73_code 106 = .ok (.getfield 567, 3) by decide +kernel) ?_
          refine dc_mmax (pc := 109) hC w_2127 w_633 w_4 w_634 ⟨(by show 1 ≤ d + 1 + 2; omega), (by show 2 + 13 ≤ 28 * (d + 1) + 45; omega)⟩ ⟨Nat.le_refl _, Nat.le_refl _⟩ (show decode prog_15_method_73_code 109 = .ok (.invokestatic 554, 3) by decide +kernel) ?_
          exact dc_sub [3, 4, 5, 6, 2] rfl (lab_112 q7 v3 (dc_max v5 (q7.1 80)) q8 h)
  have lab_35 : ∀ (S : md_S) (x1 : Int32) (x2 : Int32) (x3 : Int32) (x4 : Int32), dc_wp (mm_both_L35 T S x1 x2 x3 x4) F → dc_G X l { frames := d + 1 + 2, cells := 0, slots := 0, locals := 28 * (d + 1) + 45 } D 7 0 0 (md_W o a ca S) 35 [(0, .ref o), (1, .int x1), (2, .int x2), (3, .int x3), (4, .int x4)] [] := fun S x1 x2 x3 x4 h => loop_35 x1 x2 x3 (S, x4) (dc_bind h)
  have lab_27 : ∀ (S : md_S) (x1 : Int32) (x2 : Int32) (x3 : Int32) (x4 : Int32), dc_wp (mm_both_L27 T S x1 x2 x3 x4) F → dc_G X l { frames := d + 1 + 2, cells := 0, slots := 0, locals := 28 * (d + 1) + 45 } D 7 0 0 (md_W o a ca S) 27 [(0, .ref o), (1, .int x1), (2, .int x2), (3, .int x3), (4, .int x4)] [] := by
    intro S x1 x2 x3 x4 h
    delta mm_both_L27 at h
    refine dc_aloadn (pc := 27) (j := 0) (i := 0) hC 0 rfl rfl (show decode prog_15_method_73_code 27 = .ok (.aload_n 0, 1) by decide +kernel) ?_
    refine dc_iload (pc := 28) (i := 4) hC 4 rfl (show decode prog_15_method_73_code 28 = .ok (.iload 4, 2) by decide +kernel) ?_
    refine dc_iloadn (pc := 30) (j := 2) (i := 2) hC 2 rfl rfl (show decode prog_15_method_73_code 30 = .ok (.iload_n 2, 1) by decide +kernel) ?_
    refine dc_iloadn (pc := 31) (j := 3) (i := 3) hC 3 rfl rfl (show decode prog_15_method_73_code 31 = .ok (.iload_n 3, 1) by decide +kernel) ?_
    refine mc_Vmv (pc := 32) (As := [.int x4, .int x2, .int x3]) (rest := []) hC vw_side_609 (hT.2.2.2.2.2.2.1 S x4 x2 x3) (by omega) (by omega) rfl (Nat.le_of_ble_eq_true rfl) (show decode prog_15_method_73_code 32 = .ok (.invokevirtual 609, 3) by decide +kernel) h ?_
    intro q9 h
    exact lab_35 q9 x1 x2 x3 x4 h
  have loop_3 : ∀ (S : md_S) (x1 : Int32) (x2 : Int32) (x3 : Int32) (q : Int32), dc_wp (dc_it (mm_both_s3 T S x1 x2 x3) q) (fun z => dc_wp ((fun (z : Int32) => mm_both_L27 T S x1 x2 x3 z) z) F) → dc_G X l { frames := d + 1 + 2, cells := 0, slots := 0, locals := 28 * (d + 1) + 45 } D 7 0 0 (md_W o a ca S) 3 [(0, .ref o), (1, .int x1), (2, .int x2), (3, .int x3), (4, .int q)] [] := by
    intro S x1 x2 x3
    refine dc_loopF ?_
    intro F_3 hl_3 hr_3
    rintro x4 h
    have h : dc_wp (mm_both_b3 T S x1 x2 x3 x4) F_3 := h
    delta mm_both_b3 at h
    refine dc_aloadn (pc := 3) (j := 0) (i := 0) hC 0 rfl rfl (show decode prog_15_method_73_code 3 = .ok (.aload_n 0, 1) by decide +kernel) ?_
    refine md_g51 (pc := 4) hC (show decode prog_15_method_73_code 4 = .ok (.getfield 66, 3) by decide +kernel) ?_
    refine dc_iload (pc := 7) (i := 4) hC 4 rfl (show decode prog_15_method_73_code 7 = .ok (.iload 4, 2) by decide +kernel) ?_
    refine md_l51 (pc := 9) hC (show decode prog_15_method_73_code 9 = .ok (.iaload, 1) by decide +kernel) h ?_
    intro j10 h
    refine dc_bipush (pc := 10) (v := 7) hC (show decode prog_15_method_73_code 10 = .ok (.bipush 7, 2) by decide +kernel) (by decide +kernel) ?_
    refine dc_icmp_ne (pc := 12) (tgt := 27) hC (show decode prog_15_method_73_code 12 = .ok (.if_icmp .ne 15, 3) by decide +kernel) (by decide +kernel) h ?_ ?_
    · intro h
      refine dc_aloadn (pc := 15) (j := 0) (i := 0) hC 0 rfl rfl (show decode prog_15_method_73_code 15 = .ok (.aload_n 0, 1) by decide +kernel) ?_
      refine md_g52 (pc := 16) hC (show decode prog_15_method_73_code 16 = .ok (.getfield 69, 3) by decide +kernel) ?_
      refine dc_iload (pc := 19) (i := 4) hC 4 rfl (show decode prog_15_method_73_code 19 = .ok (.iload 4, 2) by decide +kernel) ?_
      refine md_l52 (pc := 21) hC (show decode prog_15_method_73_code 21 = .ok (.iaload, 1) by decide +kernel) h ?_
      intro j11 h
      refine dc_letI h ?_
      intro v12 h
      refine dc_istore (pc := 22) (i := 4) (lv' := [(4, .int v12), (0, .ref o), (1, .int x1), (2, .int x2), (3, .int x3)]) hC (Nat.le_of_ble_eq_true rfl) rfl (show decode prog_15_method_73_code 22 = .ok (.istore 4, 2) by decide +kernel) ?_
      refine dc_goto (pc := 24) (tgt := 3) hC (show decode prog_15_method_73_code 24 = .ok (.goto (-21), 3) by decide +kernel) (by decide +kernel) ?_
      exact dc_sub [1, 2, 3, 4, 0] rfl (hl_3 v12 (dc_some h))
    · intro h
      have h : dc_wp (mm_both_L27 T S x1 x2 x3 x4) F := hr_3 x4 (dc_some h)
      exact lab_27 S x1 x2 x3 x4 h
  have lab_3 : ∀ (S : md_S) (x1 : Int32) (x2 : Int32) (x3 : Int32) (x4 : Int32), dc_wp (mm_both_L3 T S x1 x2 x3 x4) F → dc_G X l { frames := d + 1 + 2, cells := 0, slots := 0, locals := 28 * (d + 1) + 45 } D 7 0 0 (md_W o a ca S) 3 [(0, .ref o), (1, .int x1), (2, .int x2), (3, .int x3), (4, .int x4)] [] := fun S x1 x2 x3 x4 h => loop_3 S x1 x2 x3 x4 (dc_bind h)
  show dc_G X l { frames := d + 1 + 2, cells := 0, slots := 0, locals := 28 * (d + 1) + 45 } D 7 0 0 (md_W o a ca S) 0 [(0, .ref o), (1, .int p1), (2, .int p2), (3, .int p3)] []
  delta mm_both at h
  refine dc_iloadn (pc := 0) (j := 1) (i := 1) hC 1 rfl rfl (show decode prog_15_method_73_code 0 = .ok (.iload_n 1, 1) by decide +kernel) ?_
  refine dc_istore (pc := 1) (i := 4) (lv' := [(4, .int p1), (0, .ref o), (1, .int p1), (2, .int p2), (3, .int p3)]) hC (Nat.le_of_ble_eq_true rfl) rfl (show decode prog_15_method_73_code 1 = .ok (.istore 4, 2) by decide +kernel) ?_
  exact dc_sub [1, 2, 3, 4, 0] rfl (lab_3 S p1 p2 p3 p1 h)
noncomputable def mm_side_L36 (T : mm_T3) (S : md_S) : Option (md_S) :=
  some S
noncomputable def mm_side_L33 (T : mm_T3) (S : md_S) (y0 : Int32) (y1 : Int32) : Option (md_S) :=
  (mm_outcome S y1 y0).bind fun q1 => mm_side_L36 T q1
noncomputable def mm_side_L12 (T : mm_T3) (S : md_S) (x1 : Int32) (x2 : Int32) (x3 : Int32) : Option (md_S) :=
  (T.1 S x1 x2 x3).bind fun q2 => mm_side_L36 T q2
noncomputable def mm_side (T : mm_T3) (S : md_S) (p1 : Int32) (p2 : Int32) (p3 : Int32) : Option (md_S) :=
  if p2 = 0 then ((mm_has S p1).bind fun q3 => if q3 = 0 then (if p3 = 0 then (mm_side_L33 T S (-1) 1) else (mm_side_L33 T S 0 1)) else (mm_side_L12 T S p1 p2 p3)) else (mm_side_L12 T S p1 p2 p3)
set_option maxHeartbeats 4000000 in
set_option maxRecDepth 100000 in
/-- side(IZZ)V -/
theorem mm_side_ok (l : Launch) (D : va_G) (ad : Nat → Nat) (de : Nat) (o : Nat) (a : Nat → Nat) (ca : Nat → ClassId) (T : mm_T3) (d : Nat) (hT : mm_OK3 l D ad de o a ca T d) (S : md_S) (p1 : Int32) (p2 : Int32) (p3 : Int32) (F : md_S → Prop) (h : dc_wp (mm_side T S p1 p2 p3) F) : dc_Cv l ⟨"SignalEngineModel", "side", "(IZZ)V"⟩ prog_15_method_72_code 4 none (d + 1 + 2) (28 * (d + 1) + 45) D (md_T ca) ad de [.ref o, .int p1, .int p2, .int p3] (md_W o a ca S) (fun w => ∃ q, F q ∧ w = md_W o a ca q) 0 0 := by
  refine dc_enterv (by decide +kernel) (Nat.le_of_ble_eq_true rfl) ?_
  intro X hC hR
  have lab_36 : ∀ (S : md_S), dc_wp (mm_side_L36 T S) F → dc_G X l { frames := d + 1 + 2, cells := 0, slots := 0, locals := 28 * (d + 1) + 45 } D 4 0 0 (md_W o a ca S) 36 [(0, .ref o)] [] := by
    intro S  h
    delta mm_side_L36 at h
    exact dc_vret (pc := 36) hC hR ⟨_, dc_some h, rfl⟩ (show decode prog_15_method_72_code 36 = .ok (.return_, 1) by decide +kernel)
  have lab_33 : ∀ (S : md_S) (y0 : Int32) (y1 : Int32), dc_wp (mm_side_L33 T S y0 y1) F → dc_G X l { frames := d + 1 + 2, cells := 0, slots := 0, locals := 28 * (d + 1) + 45 } D 4 0 0 (md_W o a ca S) 33 [(0, .ref o)] [.int y0, .int y1, .ref o] := by
    intro S y0 y1 h
    delta mm_side_L33 at h
    refine mc_Vmv (pc := 33) (As := [.int y1, .int y0]) (rest := []) hC vw_outcome_579 (mm_outcome_ok l D ad de o a ca S y1 y0) (by omega) (by omega) rfl (Nat.le_of_ble_eq_true rfl) (show decode prog_15_method_72_code 33 = .ok (.invokevirtual 579, 3) by decide +kernel) h ?_
    intro q1 h
    exact lab_36 q1 h
  have lab_12 : ∀ (S : md_S) (x1 : Int32) (x2 : Int32) (x3 : Int32), dc_wp (mm_side_L12 T S x1 x2 x3) F → dc_G X l { frames := d + 1 + 2, cells := 0, slots := 0, locals := 28 * (d + 1) + 45 } D 4 0 0 (md_W o a ca S) 12 [(0, .ref o), (1, .int x1), (2, .int x2), (3, .int x3)] [] := by
    intro S x1 x2 x3 h
    delta mm_side_L12 at h
    refine dc_aloadn (pc := 12) (j := 0) (i := 0) hC 0 rfl rfl (show decode prog_15_method_72_code 12 = .ok (.aload_n 0, 1) by decide +kernel) ?_
    refine dc_iloadn (pc := 13) (j := 1) (i := 1) hC 1 rfl rfl (show decode prog_15_method_72_code 13 = .ok (.iload_n 1, 1) by decide +kernel) ?_
    refine dc_iloadn (pc := 14) (j := 2) (i := 2) hC 2 rfl rfl (show decode prog_15_method_72_code 14 = .ok (.iload_n 2, 1) by decide +kernel) ?_
    refine dc_iloadn (pc := 15) (j := 3) (i := 3) hC 3 rfl rfl (show decode prog_15_method_72_code 15 = .ok (.iload_n 3, 1) by decide +kernel) ?_
    refine mc_Vmv (pc := 16) (As := [.int x1, .int x2, .int x3]) (rest := []) hC vw_run_591 (hT.1 S x1 x2 x3) (by omega) (by omega) rfl (Nat.le_of_ble_eq_true rfl) (show decode prog_15_method_72_code 16 = .ok (.invokevirtual 591, 3) by decide +kernel) h ?_
    intro q2 h
    refine dc_goto (pc := 19) (tgt := 36) hC (show decode prog_15_method_72_code 19 = .ok (.goto 17, 3) by decide +kernel) (by decide +kernel) ?_
    exact dc_sub [0] rfl (lab_36 q2 h)
  show dc_G X l { frames := d + 1 + 2, cells := 0, slots := 0, locals := 28 * (d + 1) + 45 } D 4 0 0 (md_W o a ca S) 0 [(0, .ref o), (1, .int p1), (2, .int p2), (3, .int p3)] []
  delta mm_side at h
  refine dc_iloadn (pc := 0) (j := 2) (i := 2) hC 2 rfl rfl (show decode prog_15_method_72_code 0 = .ok (.iload_n 2, 1) by decide +kernel) ?_
  refine dc_if_ne (pc := 1) (tgt := 12) hC (show decode prog_15_method_72_code 1 = .ok (.ifCond .ne 11, 3) by decide +kernel) (by decide +kernel) h ?_ ?_
  · intro h
    refine dc_aloadn (pc := 4) (j := 0) (i := 0) hC 0 rfl rfl (show decode prog_15_method_72_code 4 = .ok (.aload_n 0, 1) by decide +kernel) ?_
    refine dc_iloadn (pc := 5) (j := 1) (i := 1) hC 1 rfl rfl (show decode prog_15_method_72_code 5 = .ok (.iload_n 1, 1) by decide +kernel) ?_
    refine mc_Vpi (pc := 6) (As := [.int p1]) (rest := []) hC vw_has_604 (mm_has_ok l D ad de o a ca S p1) (by omega) (by omega) rfl (Nat.le_of_ble_eq_true rfl) (show decode prog_15_method_72_code 6 = .ok (.invokevirtual 604, 3) by decide +kernel) h ?_
    intro q3 h
    refine dc_if_eq (pc := 9) (tgt := 22) hC (show decode prog_15_method_72_code 9 = .ok (.ifCond .eq 13, 3) by decide +kernel) (by decide +kernel) h ?_ ?_
    · intro h
      refine dc_aloadn (pc := 22) (j := 0) (i := 0) hC 0 rfl rfl (show decode prog_15_method_72_code 22 = .ok (.aload_n 0, 1) by decide +kernel) ?_
      refine dc_iconst (pc := 23) (v := 1) hC (show decode prog_15_method_72_code 23 = .ok (.iconst 1, 1) by decide +kernel) (by decide +kernel) ?_
      refine dc_iloadn (pc := 24) (j := 3) (i := 3) hC 3 rfl rfl (show decode prog_15_method_72_code 24 = .ok (.iload_n 3, 1) by decide +kernel) ?_
      refine dc_if_eq (pc := 25) (tgt := 32) hC (show decode prog_15_method_72_code 25 = .ok (.ifCond .eq 7, 3) by decide +kernel) (by decide +kernel) h ?_ ?_
      · intro h
        refine dc_iconst (pc := 32) (v := (-1)) hC (show decode prog_15_method_72_code 32 = .ok (.iconst (-1), 1) by decide +kernel) (by decide +kernel) ?_
        exact dc_sub [0] rfl (lab_33 S (-1) 1 h)
      · intro h
        refine dc_iconst (pc := 28) (v := 0) hC (show decode prog_15_method_72_code 28 = .ok (.iconst 0, 1) by decide +kernel) (by decide +kernel) ?_
        refine dc_goto (pc := 29) (tgt := 33) hC (show decode prog_15_method_72_code 29 = .ok (.goto 4, 3) by decide +kernel) (by decide +kernel) ?_
        exact dc_sub [0] rfl (lab_33 S 0 1 h)
    · intro h
      exact lab_12 S p1 p2 p3 h
  · intro h
    exact lab_12 S p1 p2 p3 h
noncomputable def mm_trapped_L99 (T : mm_T3) (S : md_S) (y0 : Int32) (y1 : Int32) : Option (md_S) :=
  (mm_outcome S y1 y0).bind fun q1 => some q1
noncomputable def mm_trapped_L58 (T : mm_T3) (S : md_S) : Option (md_S) :=
  (mm_caught (S.1 81)).bind fun q2 => if (S.1 80) = 2 then (mm_trapped_L99 T S 0 q2) else (if (2 : Int32) < (S.1 80) then (mm_trapped_L99 T S ((S.1 80) - 1) q2) else (mm_trapped_L99 T S (S.1 80) q2))
noncomputable def mm_trapped_b20 (T : mm_T3) (S : md_S) (x1 : Int32) (x4 : Int32) : Option ((md_S × Int32) ⊕ ((md_S))) :=
  (dc_ix x1 1200).bind fun j3 => (dc_ix (S.2.1 59 j3) 1201).bind fun j4 => if x4 < (S.2.1 62 j4) then (if (S.1 80) = 2 then ((dc_ix x4 200).bind fun j5 => dc_let (md_a S 75 j5 0) fun S6 => some (.inl (S6, (x4 + 1)))) else (some (.inr S))) else (some (.inr S))
noncomputable def mm_trapped_s20 (T : mm_T3) (x1 : Int32) (q : md_S × Int32) : Option ((md_S × Int32) ⊕ ((md_S))) :=
  mm_trapped_b20 T q.1 x1 q.2
noncomputable def mm_trapped_L20 (T : mm_T3) (S : md_S) (x1 : Int32) (x4 : Int32) : Option (md_S) :=
  (dc_it (mm_trapped_s20 T x1) (S, x4)).bind (fun (z : md_S) => mm_trapped_L58 T z)
noncomputable def mm_trapped (T : mm_T3) (S : md_S) (p1 : Int32) (p2 : Int32) (p3 : Int32) : Option (md_S) :=
  (dc_ix p1 1200).bind fun j7 => (T.1 S (S.2.1 52 j7) p2 p3).bind fun q8 => (dc_ix p1 1201).bind fun j9 => dc_let ((q8.2.1 62 j9) : Int32) fun v10 => mm_trapped_L20 T q8 p1 v10
set_option maxHeartbeats 4000000 in
set_option maxRecDepth 100000 in
/-- trapped(IZZ)V -/
theorem mm_trapped_ok (l : Launch) (D : va_G) (ad : Nat → Nat) (de : Nat) (o : Nat) (a : Nat → Nat) (ca : Nat → ClassId) (T : mm_T3) (d : Nat) (hT : mm_OK3 l D ad de o a ca T d) (S : md_S) (p1 : Int32) (p2 : Int32) (p3 : Int32) (F : md_S → Prop) (h : dc_wp (mm_trapped T S p1 p2 p3) F) : dc_Cv l ⟨"SignalEngineModel", "trapped", "(IZZ)V"⟩ prog_15_method_74_code 5 none (d + 1 + 2) (28 * (d + 1) + 45) D (md_T ca) ad de [.ref o, .int p1, .int p2, .int p3] (md_W o a ca S) (fun w => ∃ q, F q ∧ w = md_W o a ca q) 0 0 := by
  refine dc_enterv (by decide +kernel) (Nat.le_of_ble_eq_true rfl) ?_
  intro X hC hR
  have lab_99 : ∀ (S : md_S) (y0 : Int32) (y1 : Int32), dc_wp (mm_trapped_L99 T S y0 y1) F → dc_G X l { frames := d + 1 + 2, cells := 0, slots := 0, locals := 28 * (d + 1) + 45 } D 5 0 0 (md_W o a ca S) 99 [(0, .ref o)] [.int y0, .int y1, .ref o] := by
    intro S y0 y1 h
    delta mm_trapped_L99 at h
    refine mc_Vmv (pc := 99) (As := [.int y1, .int y0]) (rest := []) hC vw_outcome_579 (mm_outcome_ok l D ad de o a ca S y1 y0) (by omega) (by omega) rfl (Nat.le_of_ble_eq_true rfl) (show decode prog_15_method_74_code 99 = .ok (.invokevirtual 579, 3) by decide +kernel) h ?_
    intro q1 h
    exact dc_vret (pc := 102) hC hR ⟨_, dc_some h, rfl⟩ (show decode prog_15_method_74_code 102 = .ok (.return_, 1) by decide +kernel)
  have lab_58 : ∀ (S : md_S), dc_wp (mm_trapped_L58 T S) F → dc_G X l { frames := d + 1 + 2, cells := 0, slots := 0, locals := 28 * (d + 1) + 45 } D 5 0 0 (md_W o a ca S) 58 [(0, .ref o)] [] := by
    intro S  h
    delta mm_trapped_L58 at h
    refine dc_aloadn (pc := 58) (j := 0) (i := 0) hC 0 rfl rfl (show decode prog_15_method_74_code 58 = .ok (.aload_n 0, 1) by decide +kernel) ?_
    refine dc_aloadn (pc := 59) (j := 0) (i := 0) hC 0 rfl rfl (show decode prog_15_method_74_code 59 = .ok (.aload_n 0, 1) by decide +kernel) ?_
    refine md_g81 (pc := 60) hC (show decode prog_15_method_74_code 60 = .ok (.getfield 564, 3) by decide +kernel) ?_
    refine mc_Spi (pc := 63) (As := [.int (S.1 81)]) (rest := [.ref o]) hC vs_caught_458 (mm_caught_ok l D ad de (md_W o a ca S) (md_T ca) (S.1 81)) (by omega) (by omega) rfl (Nat.le_of_ble_eq_true rfl) (show decode prog_15_method_74_code 63 = .ok (.invokestatic 458, 3) by decide +kernel) h ?_
    intro q2 h
    refine dc_aloadn (pc := 66) (j := 0) (i := 0) hC 0 rfl rfl (show decode prog_15_method_74_code 66 = .ok (.aload_n 0, 1) by decide +kernel) ?_
    refine md_g80 (pc := 67) hC (show decode prog_15_method_74_code 67 = .ok (.getfield 567, 3) by decide +kernel) ?_
    refine dc_iconst (pc := 70) (v := 2) hC (show decode prog_15_method_74_code 70 = .ok (.iconst 2, 1) by decide +kernel) (by decide +kernel) ?_
    refine dc_icmp_ne (pc := 71) (tgt := 78) hC (show decode prog_15_method_74_code 71 = .ok (.if_icmp .ne 7, 3) by decide +kernel) (by decide +kernel) h ?_ ?_
    · intro h
      refine dc_iconst (pc := 74) (v := 0) hC (show decode prog_15_method_74_code 74 = .ok (.iconst 0, 1) by decide +kernel) (by decide +kernel) ?_
      refine dc_goto (pc := 75) (tgt := 99) hC (show decode prog_15_method_74_code 75 = .ok (.goto 24, 3) by decide +kernel) (by decide +kernel) ?_
      exact lab_99 S 0 q2 h
    · intro h
      refine dc_aloadn (pc := 78) (j := 0) (i := 0) hC 0 rfl rfl (show decode prog_15_method_74_code 78 = .ok (.aload_n 0, 1) by decide +kernel) ?_
      refine md_g80 (pc := 79) hC (show decode prog_15_method_74_code 79 = .ok (.getfield 567, 3) by decide +kernel) ?_
      refine dc_iconst (pc := 82) (v := 2) hC (show decode prog_15_method_74_code 82 = .ok (.iconst 2, 1) by decide +kernel) (by decide +kernel) ?_
      refine dc_icmp_le (pc := 83) (tgt := 95) hC (show decode prog_15_method_74_code 83 = .ok (.if_icmp .le 12, 3) by decide +kernel) (by decide +kernel) h ?_ ?_
      · intro h
        refine dc_aloadn (pc := 86) (j := 0) (i := 0) hC 0 rfl rfl (show decode prog_15_method_74_code 86 = .ok (.aload_n 0, 1) by decide +kernel) ?_
        refine md_g80 (pc := 87) hC (show decode prog_15_method_74_code 87 = .ok (.getfield 567, 3) by decide +kernel) ?_
        refine dc_iconst (pc := 90) (v := 1) hC (show decode prog_15_method_74_code 90 = .ok (.iconst 1, 1) by decide +kernel) (by decide +kernel) ?_
        refine dc_isub (pc := 91) hC (show decode prog_15_method_74_code 91 = .ok (.isub, 1) by decide +kernel) ?_
        refine dc_goto (pc := 92) (tgt := 99) hC (show decode prog_15_method_74_code 92 = .ok (.goto 7, 3) by decide +kernel) (by decide +kernel) ?_
        exact lab_99 S ((S.1 80) - 1) q2 h
      · intro h
        refine dc_aloadn (pc := 95) (j := 0) (i := 0) hC 0 rfl rfl (show decode prog_15_method_74_code 95 = .ok (.aload_n 0, 1) by decide +kernel) ?_
        refine md_g80 (pc := 96) hC (show decode prog_15_method_74_code 96 = .ok (.getfield 567, 3) by decide +kernel) ?_
        exact lab_99 S (S.1 80) q2 h
  have loop_20 : ∀ (x1 : Int32) (q : md_S × Int32), dc_wp (dc_it (mm_trapped_s20 T x1) q) (fun z => dc_wp ((fun (z : md_S) => mm_trapped_L58 T z) z) F) → dc_G X l { frames := d + 1 + 2, cells := 0, slots := 0, locals := 28 * (d + 1) + 45 } D 5 0 0 (md_W o a ca q.1) 20 [(0, .ref o), (1, .int x1), (4, .int q.2)] [] := by
    intro x1
    refine dc_loopF ?_
    intro F_20 hl_20 hr_20
    rintro ⟨S, x4⟩ h
    have h : dc_wp (mm_trapped_b20 T S x1 x4) F_20 := h
    delta mm_trapped_b20 at h
    refine dc_iload (pc := 20) (i := 4) hC 2 rfl (show decode prog_15_method_74_code 20 = .ok (.iload 4, 2) by decide +kernel) ?_
    refine dc_aloadn (pc := 22) (j := 0) (i := 0) hC 0 rfl rfl (show decode prog_15_method_74_code 22 = .ok (.aload_n 0, 1) by decide +kernel) ?_
    refine md_g62 (pc := 23) hC (show decode prog_15_method_74_code 23 = .ok (.getfield 99, 3) by decide +kernel) ?_
    refine dc_aloadn (pc := 26) (j := 0) (i := 0) hC 0 rfl rfl (show decode prog_15_method_74_code 26 = .ok (.aload_n 0, 1) by decide +kernel) ?_
    refine md_g59 (pc := 27) hC (show decode prog_15_method_74_code 27 = .ok (.getfield 90, 3) by decide +kernel) ?_
    refine dc_iloadn (pc := 30) (j := 1) (i := 1) hC 1 rfl rfl (show decode prog_15_method_74_code 30 = .ok (.iload_n 1, 1) by decide +kernel) ?_
    refine md_l59 (pc := 31) hC (show decode prog_15_method_74_code 31 = .ok (.iaload, 1) by decide +kernel) h ?_
    intro j3 h
    refine md_l62 (pc := 32) hC (show decode prog_15_method_74_code 32 = .ok (.iaload, 1) by decide +kernel) h ?_
    intro j4 h
    refine dc_icmp_ge (pc := 33) (tgt := 58) hC (show decode prog_15_method_74_code 33 = .ok (.if_icmp .ge 25, 3) by decide +kernel) (by decide +kernel) h ?_ ?_
    · intro h
      refine dc_aloadn (pc := 36) (j := 0) (i := 0) hC 0 rfl rfl (show decode prog_15_method_74_code 36 = .ok (.aload_n 0, 1) by decide +kernel) ?_
      refine md_g80 (pc := 37) hC (show decode prog_15_method_74_code 37 = .ok (.getfield 567, 3) by decide +kernel) ?_
      refine dc_iconst (pc := 40) (v := 2) hC (show decode prog_15_method_74_code 40 = .ok (.iconst 2, 1) by decide +kernel) (by decide +kernel) ?_
      refine dc_icmp_ne (pc := 41) (tgt := 58) hC (show decode prog_15_method_74_code 41 = .ok (.if_icmp .ne 17, 3) by decide +kernel) (by decide +kernel) h ?_ ?_
      · intro h
        refine dc_aloadn (pc := 44) (j := 0) (i := 0) hC 0 rfl rfl (show decode prog_15_method_74_code 44 = .ok (.aload_n 0, 1) by decide +kernel) ?_
        refine md_g75 (pc := 45) hC (show decode prog_15_method_74_code 45 = .ok (.getfield 139, 3) by decide +kernel) ?_
        refine dc_iload (pc := 48) (i := 4) hC 2 rfl (show decode prog_15_method_74_code 48 = .ok (.iload 4, 2) by decide +kernel) ?_
        refine dc_iconst (pc := 50) (v := 0) hC (show decode prog_15_method_74_code 50 = .ok (.iconst 0, 1) by decide +kernel) (by decide +kernel) ?_
        refine md_s75 (pc := 51) hC (Or.inl rfl) (show decode prog_15_method_74_code 51 = .ok (.bastore, 1) by decide +kernel) h ?_
        intro j5 h
        refine dc_letS h ?_
        intro S6 h
        refine dc_iinc (pc := 52) (i := 4) (v := (x4 + 1)) (lv' := [(4, .int (x4 + 1)), (0, .ref o), (1, .int x1)]) hC 2 rfl rfl (Nat.le_of_ble_eq_true rfl) rfl (show decode prog_15_method_74_code 52 = .ok (.iinc 4 1, 3) by decide +kernel) ?_
        refine dc_goto (pc := 55) (tgt := 20) hC (show decode prog_15_method_74_code 55 = .ok (.goto (-35), 3) by decide +kernel) (by decide +kernel) ?_
        exact dc_sub [1, 2, 0] rfl (hl_20 (S6, (x4 + 1)) (dc_some h))
      · intro h
        have h : dc_wp (mm_trapped_L58 T S) F := hr_20 S (dc_some h)
        exact dc_sub [0] rfl (lab_58 S h)
    · intro h
      have h : dc_wp (mm_trapped_L58 T S) F := hr_20 S (dc_some h)
      exact dc_sub [0] rfl (lab_58 S h)
  have lab_20 : ∀ (S : md_S) (x1 : Int32) (x4 : Int32), dc_wp (mm_trapped_L20 T S x1 x4) F → dc_G X l { frames := d + 1 + 2, cells := 0, slots := 0, locals := 28 * (d + 1) + 45 } D 5 0 0 (md_W o a ca S) 20 [(0, .ref o), (1, .int x1), (4, .int x4)] [] := fun S x1 x4 h => loop_20 x1 (S, x4) (dc_bind h)
  show dc_G X l { frames := d + 1 + 2, cells := 0, slots := 0, locals := 28 * (d + 1) + 45 } D 5 0 0 (md_W o a ca S) 0 [(0, .ref o), (1, .int p1), (2, .int p2), (3, .int p3)] []
  delta mm_trapped at h
  refine dc_aloadn (pc := 0) (j := 0) (i := 0) hC 0 rfl rfl (show decode prog_15_method_74_code 0 = .ok (.aload_n 0, 1) by decide +kernel) ?_
  refine dc_aloadn (pc := 1) (j := 0) (i := 0) hC 0 rfl rfl (show decode prog_15_method_74_code 1 = .ok (.aload_n 0, 1) by decide +kernel) ?_
  refine md_g52 (pc := 2) hC (show decode prog_15_method_74_code 2 = .ok (.getfield 69, 3) by decide +kernel) ?_
  refine dc_iloadn (pc := 5) (j := 1) (i := 1) hC 1 rfl rfl (show decode prog_15_method_74_code 5 = .ok (.iload_n 1, 1) by decide +kernel) ?_
  refine md_l52 (pc := 6) hC (show decode prog_15_method_74_code 6 = .ok (.iaload, 1) by decide +kernel) h ?_
  intro j7 h
  refine dc_iloadn (pc := 7) (j := 2) (i := 2) hC 2 rfl rfl (show decode prog_15_method_74_code 7 = .ok (.iload_n 2, 1) by decide +kernel) ?_
  refine dc_iloadn (pc := 8) (j := 3) (i := 3) hC 3 rfl rfl (show decode prog_15_method_74_code 8 = .ok (.iload_n 3, 1) by decide +kernel) ?_
  refine mc_Vmv (pc := 9) (As := [.int (S.2.1 52 j7), .int p2, .int p3]) (rest := []) hC vw_run_591 (hT.1 S (S.2.1 52 j7) p2 p3) (by omega) (by omega) rfl (Nat.le_of_ble_eq_true rfl) (show decode prog_15_method_74_code 9 = .ok (.invokevirtual 591, 3) by decide +kernel) h ?_
  intro q8 h
  refine dc_aloadn (pc := 12) (j := 0) (i := 0) hC 0 rfl rfl (show decode prog_15_method_74_code 12 = .ok (.aload_n 0, 1) by decide +kernel) ?_
  refine md_g62 (pc := 13) hC (show decode prog_15_method_74_code 13 = .ok (.getfield 99, 3) by decide +kernel) ?_
  refine dc_iloadn (pc := 16) (j := 1) (i := 1) hC 1 rfl rfl (show decode prog_15_method_74_code 16 = .ok (.iload_n 1, 1) by decide +kernel) ?_
  refine md_l62 (pc := 17) hC (show decode prog_15_method_74_code 17 = .ok (.iaload, 1) by decide +kernel) h ?_
  intro j9 h
  refine dc_letI h ?_
  intro v10 h
  refine dc_istore (pc := 18) (i := 4) (lv' := [(4, .int v10), (0, .ref o), (1, .int p1), (2, .int p2), (3, .int p3)]) hC (Nat.le_of_ble_eq_true rfl) rfl (show decode prog_15_method_74_code 18 = .ok (.istore 4, 2) by decide +kernel) ?_
  exact dc_sub [1, 2, 0] rfl (lab_20 q8 p1 v10 h)
noncomputable def mm_P3 : Nat → mm_T3
  | 0 => (fun _ _ _ _ => none, fun _ _ _ _ => none, fun _ _ _ _ => none, fun _ _ _ _ => none, fun _ _ _ _ _ => none, fun _ _ _ _ => none, fun _ _ _ _ => none, fun _ _ _ _ => none)
  | d + 1 => (mm_run (mm_P3 d), mm_present_IZZ (mm_P3 d), mm_suspended (mm_P3 d), mm_sequence (mm_P3 d), mm_behind (mm_P3 d), mm_both (mm_P3 d), mm_side (mm_P3 d), mm_trapped (mm_P3 d))
theorem mm_P3_ok (l : Launch) (D : va_G) (ad : Nat → Nat) (de : Nat) (o : Nat) (a : Nat → Nat) (ca : Nat → ClassId) : ∀ d : Nat, mm_OK3 l D ad de o a ca (mm_P3 d) d
  | 0 => ⟨fun _ _ _ _ _ h => (dc_not h).elim, fun _ _ _ _ _ h => (dc_not h).elim, fun _ _ _ _ _ h => (dc_not h).elim, fun _ _ _ _ _ h => (dc_not h).elim, fun _ _ _ _ _ _ h => (dc_not h).elim, fun _ _ _ _ _ h => (dc_not h).elim, fun _ _ _ _ _ h => (dc_not h).elim, fun _ _ _ _ _ h => (dc_not h).elim⟩
  | d + 1 => ⟨mm_run_ok l D ad de o a ca (mm_P3 d) d (mm_P3_ok l D ad de o a ca d), mm_present_IZZ_ok l D ad de o a ca (mm_P3 d) d (mm_P3_ok l D ad de o a ca d), mm_suspended_ok l D ad de o a ca (mm_P3 d) d (mm_P3_ok l D ad de o a ca d), mm_sequence_ok l D ad de o a ca (mm_P3 d) d (mm_P3_ok l D ad de o a ca d), mm_behind_ok l D ad de o a ca (mm_P3 d) d (mm_P3_ok l D ad de o a ca d), mm_both_ok l D ad de o a ca (mm_P3 d) d (mm_P3_ok l D ad de o a ca d), mm_side_ok l D ad de o a ca (mm_P3 d) d (mm_P3_ok l D ad de o a ca d), mm_trapped_ok l D ad de o a ca (mm_P3 d) d (mm_P3_ok l D ad de o a ca d)⟩
def mm_d3 : Nat := 600
noncomputable def mm_run_r (S : md_S) (p1 : Int32) (p2 : Int32) (p3 : Int32) : Option (md_S) := (mm_P3 mm_d3).1 S p1 p2 p3
theorem mm_run_r_ok (l : Launch) (D : va_G) (ad : Nat → Nat) (de : Nat) (o : Nat) (a : Nat → Nat) (ca : Nat → ClassId) (S : md_S) (p1 : Int32) (p2 : Int32) (p3 : Int32) (F : md_S → Prop) (h : dc_wp (mm_run_r S p1 p2 p3) F) : dc_Cv l ⟨"SignalEngineModel", "run", "(IZZ)V"⟩ prog_15_method_66_code 5 none 602 16845 D (md_T ca) ad de [.ref o, .int p1, .int p2, .int p3] (md_W o a ca S) (fun w => ∃ q, F q ∧ w = md_W o a ca q) 0 0 :=
  (mm_P3_ok l D ad de o a ca mm_d3).1 S p1 p2 p3 F h
noncomputable def mm_present_IZZ_r (S : md_S) (p1 : Int32) (p2 : Int32) (p3 : Int32) : Option (md_S) := (mm_P3 mm_d3).2.1 S p1 p2 p3
theorem mm_present_IZZ_r_ok (l : Launch) (D : va_G) (ad : Nat → Nat) (de : Nat) (o : Nat) (a : Nat → Nat) (ca : Nat → ClassId) (S : md_S) (p1 : Int32) (p2 : Int32) (p3 : Int32) (F : md_S → Prop) (h : dc_wp (mm_present_IZZ_r S p1 p2 p3) F) : dc_Cv l ⟨"SignalEngineModel", "present", "(IZZ)V"⟩ prog_15_method_68_code 6 none 602 16845 D (md_T ca) ad de [.ref o, .int p1, .int p2, .int p3] (md_W o a ca S) (fun w => ∃ q, F q ∧ w = md_W o a ca q) 0 0 :=
  (mm_P3_ok l D ad de o a ca mm_d3).2.1 S p1 p2 p3 F h
noncomputable def mm_suspended_r (S : md_S) (p1 : Int32) (p2 : Int32) (p3 : Int32) : Option (md_S) := (mm_P3 mm_d3).2.2.1 S p1 p2 p3
theorem mm_suspended_r_ok (l : Launch) (D : va_G) (ad : Nat → Nat) (de : Nat) (o : Nat) (a : Nat → Nat) (ca : Nat → ClassId) (S : md_S) (p1 : Int32) (p2 : Int32) (p3 : Int32) (F : md_S → Prop) (h : dc_wp (mm_suspended_r S p1 p2 p3) F) : dc_Cv l ⟨"SignalEngineModel", "suspended", "(IZZ)V"⟩ prog_15_method_69_code 6 none 602 16845 D (md_T ca) ad de [.ref o, .int p1, .int p2, .int p3] (md_W o a ca S) (fun w => ∃ q, F q ∧ w = md_W o a ca q) 0 0 :=
  (mm_P3_ok l D ad de o a ca mm_d3).2.2.1 S p1 p2 p3 F h
noncomputable def mm_sequence_r (S : md_S) (p1 : Int32) (p2 : Int32) (p3 : Int32) : Option (md_S) := (mm_P3 mm_d3).2.2.2.1 S p1 p2 p3
theorem mm_sequence_r_ok (l : Launch) (D : va_G) (ad : Nat → Nat) (de : Nat) (o : Nat) (a : Nat → Nat) (ca : Nat → ClassId) (S : md_S) (p1 : Int32) (p2 : Int32) (p3 : Int32) (F : md_S → Prop) (h : dc_wp (mm_sequence_r S p1 p2 p3) F) : dc_Cv l ⟨"SignalEngineModel", "sequence", "(IZZ)V"⟩ prog_15_method_71_code 5 none 602 16845 D (md_T ca) ad de [.ref o, .int p1, .int p2, .int p3] (md_W o a ca S) (fun w => ∃ q, F q ∧ w = md_W o a ca q) 0 0 :=
  (mm_P3_ok l D ad de o a ca mm_d3).2.2.2.1 S p1 p2 p3 F h
noncomputable def mm_behind_r (S : md_S) (p1 : Int32) (p2 : Int32) (p3 : Int32) (p4 : Int32) : Option (md_S) := (mm_P3 mm_d3).2.2.2.2.1 S p1 p2 p3 p4
theorem mm_behind_r_ok (l : Launch) (D : va_G) (ad : Nat → Nat) (de : Nat) (o : Nat) (a : Nat → Nat) (ca : Nat → ClassId) (S : md_S) (p1 : Int32) (p2 : Int32) (p3 : Int32) (p4 : Int32) (F : md_S → Prop) (h : dc_wp (mm_behind_r S p1 p2 p3 p4) F) : dc_Cv l ⟨"SignalEngineModel", "behind", "(IIZZ)V"⟩ prog_15_method_70_code 9 none 602 16845 D (md_T ca) ad de [.ref o, .int p1, .int p2, .int p3, .int p4] (md_W o a ca S) (fun w => ∃ q, F q ∧ w = md_W o a ca q) 0 0 :=
  (mm_P3_ok l D ad de o a ca mm_d3).2.2.2.2.1 S p1 p2 p3 p4 F h
noncomputable def mm_both_r (S : md_S) (p1 : Int32) (p2 : Int32) (p3 : Int32) : Option (md_S) := (mm_P3 mm_d3).2.2.2.2.2.1 S p1 p2 p3
theorem mm_both_r_ok (l : Launch) (D : va_G) (ad : Nat → Nat) (de : Nat) (o : Nat) (a : Nat → Nat) (ca : Nat → ClassId) (S : md_S) (p1 : Int32) (p2 : Int32) (p3 : Int32) (F : md_S → Prop) (h : dc_wp (mm_both_r S p1 p2 p3) F) : dc_Cv l ⟨"SignalEngineModel", "both", "(IZZ)V"⟩ prog_15_method_73_code 7 none 602 16845 D (md_T ca) ad de [.ref o, .int p1, .int p2, .int p3] (md_W o a ca S) (fun w => ∃ q, F q ∧ w = md_W o a ca q) 0 0 :=
  (mm_P3_ok l D ad de o a ca mm_d3).2.2.2.2.2.1 S p1 p2 p3 F h
noncomputable def mm_side_r (S : md_S) (p1 : Int32) (p2 : Int32) (p3 : Int32) : Option (md_S) := (mm_P3 mm_d3).2.2.2.2.2.2.1 S p1 p2 p3
theorem mm_side_r_ok (l : Launch) (D : va_G) (ad : Nat → Nat) (de : Nat) (o : Nat) (a : Nat → Nat) (ca : Nat → ClassId) (S : md_S) (p1 : Int32) (p2 : Int32) (p3 : Int32) (F : md_S → Prop) (h : dc_wp (mm_side_r S p1 p2 p3) F) : dc_Cv l ⟨"SignalEngineModel", "side", "(IZZ)V"⟩ prog_15_method_72_code 4 none 602 16845 D (md_T ca) ad de [.ref o, .int p1, .int p2, .int p3] (md_W o a ca S) (fun w => ∃ q, F q ∧ w = md_W o a ca q) 0 0 :=
  (mm_P3_ok l D ad de o a ca mm_d3).2.2.2.2.2.2.1 S p1 p2 p3 F h
noncomputable def mm_trapped_r (S : md_S) (p1 : Int32) (p2 : Int32) (p3 : Int32) : Option (md_S) := (mm_P3 mm_d3).2.2.2.2.2.2.2 S p1 p2 p3
theorem mm_trapped_r_ok (l : Launch) (D : va_G) (ad : Nat → Nat) (de : Nat) (o : Nat) (a : Nat → Nat) (ca : Nat → ClassId) (S : md_S) (p1 : Int32) (p2 : Int32) (p3 : Int32) (F : md_S → Prop) (h : dc_wp (mm_trapped_r S p1 p2 p3) F) : dc_Cv l ⟨"SignalEngineModel", "trapped", "(IZZ)V"⟩ prog_15_method_74_code 5 none 602 16845 D (md_T ca) ad de [.ref o, .int p1, .int p2, .int p3] (md_W o a ca S) (fun w => ∃ q, F q ∧ w = md_W o a ca q) 0 0 :=
  (mm_P3_ok l D ad de o a ca mm_d3).2.2.2.2.2.2.2 S p1 p2 p3 F h
noncomputable def mm_learns_L93 (S : md_S) (x1 : Int32) : Option (md_S × Int32) :=
  (dc_zb x1).bind fun _ => some (S, x1)
noncomputable def mm_learns_L87 (S : md_S) (x1 : Int32) (x2 : Int32) : Option ((md_S × Int32 × Int32) ⊕ ((md_S × Int32))) :=
  some (.inl (S, x1, (x2 + 1)))
noncomputable def mm_learns_L84 (S : md_S) (x2 : Int32) (y0 : Int32) (y1 : Int32) : Option ((md_S × Int32 × Int32) ⊕ ((md_S × Int32))) :=
  (dc_ix y1 1662).bind fun j2 => dc_let (md_a S 70 j2 y0) fun S3 => mm_learns_L87 S3 1 x2
noncomputable def mm_learns_L65 (S : md_S) (x2 : Int32) : Option ((md_S × Int32 × Int32) ⊕ ((md_S × Int32))) :=
  (dc_ix x2 1662).bind fun j4 => if (S.2.1 71 j4) = 0 then (mm_learns_L84 S x2 0 x2) else (mm_learns_L84 S x2 1 x2)
noncomputable def mm_learns_L34 (S : md_S) (x1 : Int32) (x2 : Int32) : Option ((md_S × Int32 × Int32) ⊕ ((md_S × Int32))) :=
  (dc_ix x2 1662).bind fun j5 => if (S.2.1 70 j5) = 2 then ((dc_ix x2 1662).bind fun j6 => if (S.2.1 71 j6) = 0 then ((dc_ix x2 1662).bind fun j7 => if (S.2.1 72 j7) = 0 then (mm_learns_L65 S x2) else (mm_learns_L87 S x1 x2)) else (mm_learns_L65 S x2)) else (mm_learns_L87 S x1 x2)
noncomputable def mm_learns_b7 (S : md_S) (x1 : Int32) (x2 : Int32) : Option ((md_S × Int32 × Int32) ⊕ ((md_S × Int32))) :=
  if x2 < (S.1 50) then (if x2 < ((S.1 45) + (S.1 46)) then (mm_learns_L34 S x1 x2) else (if x2 < 62 then (mm_learns_L87 S x1 x2) else (mm_learns_L34 S x1 x2))) else (some (.inr (S, x1)))
noncomputable def mm_learns_s7 (q : md_S × Int32 × Int32) : Option ((md_S × Int32 × Int32) ⊕ ((md_S × Int32))) :=
  mm_learns_b7 q.1 q.2.1 q.2.2
noncomputable def mm_learns_L7 (S : md_S) (x1 : Int32) (x2 : Int32) : Option (md_S × Int32) :=
  (dc_it (mm_learns_s7) (S, x1, x2)).bind (fun (z : md_S × Int32) => mm_learns_L93 z.1 z.2)
noncomputable def mm_learns (S : md_S) : Option (md_S × Int32) :=
  dc_let ((S.1 45) : Int32) fun v8 => mm_learns_L7 S 0 v8
set_option maxHeartbeats 4000000 in
set_option maxRecDepth 100000 in
/-- learns()Z -/
theorem mm_learns_ok (l : Launch) (D : va_G) (ad : Nat → Nat) (de : Nat) (o : Nat) (a : Nat → Nat) (ca : Nat → ClassId) (S : md_S) (F : (md_S × Int32) → Prop) (h : dc_wp (mm_learns S) F) : dc_Ci l ⟨"SignalEngineModel", "learns", "()Z"⟩ prog_15_method_75_code 3 (some (.boolean)) 0 0 D (md_T ca) ad de [.ref o] (md_W o a ca S) (fun r w => ∃ q, F q ∧ r = q.2 ∧ w = md_W o a ca q.1) 0 0 := by
  refine dc_enteri (by decide +kernel) (Nat.le_of_ble_eq_true rfl) ?_
  intro X hC hR
  have lab_93 : ∀ (S : md_S) (x1 : Int32), dc_wp (mm_learns_L93 S x1) F → dc_G X l { frames := 0, cells := 0, slots := 0, locals := 0 } D 3 0 0 (md_W o a ca S) 93 [(0, .ref o), (1, .int x1)] [] := by
    intro S x1 h
    delta mm_learns_L93 at h
    refine dc_iloadn (pc := 93) (j := 1) (i := 1) hC 1 rfl rfl (show decode prog_15_method_75_code 93 = .ok (.iload_n 1, 1) by decide +kernel) ?_
    obtain ⟨hz1, h⟩ := dc_zb_wp (dc_bind h)
    exact dc_zret (pc := 94) hC hR hz1 ⟨_, dc_some h, rfl, rfl⟩ (show decode prog_15_method_75_code 94 = .ok (.ireturn, 1) by decide +kernel)
  have loop_7 : ∀ (q : md_S × Int32 × Int32), dc_wp (dc_it (mm_learns_s7) q) (fun z => dc_wp ((fun (z : md_S × Int32) => mm_learns_L93 z.1 z.2) z) F) → dc_G X l { frames := 0, cells := 0, slots := 0, locals := 0 } D 3 0 0 (md_W o a ca q.1) 7 [(0, .ref o), (1, .int q.2.1), (2, .int q.2.2)] [] := by
    refine dc_loopF ?_
    intro F_7 hl_7 hr_7
    have lab_87 : ∀ (S : md_S) (x1 : Int32) (x2 : Int32), dc_wp (mm_learns_L87 S x1 x2) F_7 → dc_G X l { frames := 0, cells := 0, slots := 0, locals := 0 } D 3 0 0 (md_W o a ca S) 87 [(0, .ref o), (1, .int x1), (2, .int x2)] [] := by
      intro S x1 x2 h
      delta mm_learns_L87 at h
      refine dc_iinc (pc := 87) (i := 2) (v := (x2 + 1)) (lv' := [(2, .int (x2 + 1)), (0, .ref o), (1, .int x1)]) hC 2 rfl rfl (Nat.le_of_ble_eq_true rfl) rfl (show decode prog_15_method_75_code 87 = .ok (.iinc 2 1, 3) by decide +kernel) ?_
      refine dc_goto (pc := 90) (tgt := 7) hC (show decode prog_15_method_75_code 90 = .ok (.goto (-83), 3) by decide +kernel) (by decide +kernel) ?_
      exact dc_sub [1, 2, 0] rfl (hl_7 (S, x1, (x2 + 1)) (dc_some h))
    have lab_84 : ∀ (S : md_S) (x2 : Int32) (y0 : Int32) (y1 : Int32), dc_wp (mm_learns_L84 S x2 y0 y1) F_7 → dc_G X l { frames := 0, cells := 0, slots := 0, locals := 0 } D 3 0 0 (md_W o a ca S) 84 [(0, .ref o), (2, .int x2)] [.int y0, .int y1, .ref (a 70)] := by
      intro S x2 y0 y1 h
      delta mm_learns_L84 at h
      refine md_s70 (pc := 84) hC (show decode prog_15_method_75_code 84 = .ok (.iastore, 1) by decide +kernel) h ?_
      intro j2 h
      refine dc_letS h ?_
      intro S3 h
      refine dc_iconst (pc := 85) (v := 1) hC (show decode prog_15_method_75_code 85 = .ok (.iconst 1, 1) by decide +kernel) (by decide +kernel) ?_
      refine dc_istoren (pc := 86) (j := 1) (i := 1) (lv' := [(1, .int 1), (0, .ref o), (2, .int x2)]) hC rfl (Nat.le_of_ble_eq_true rfl) rfl (show decode prog_15_method_75_code 86 = .ok (.istore_n 1, 1) by decide +kernel) ?_
      exact dc_sub [1, 0, 2] rfl (lab_87 S3 1 x2 h)
    have lab_65 : ∀ (S : md_S) (x2 : Int32), dc_wp (mm_learns_L65 S x2) F_7 → dc_G X l { frames := 0, cells := 0, slots := 0, locals := 0 } D 3 0 0 (md_W o a ca S) 65 [(0, .ref o), (2, .int x2)] [] := by
      intro S x2 h
      delta mm_learns_L65 at h
      refine dc_aloadn (pc := 65) (j := 0) (i := 0) hC 0 rfl rfl (show decode prog_15_method_75_code 65 = .ok (.aload_n 0, 1) by decide +kernel) ?_
      refine md_g70 (pc := 66) hC (show decode prog_15_method_75_code 66 = .ok (.getfield 123, 3) by decide +kernel) ?_
      refine dc_iloadn (pc := 69) (j := 2) (i := 2) hC 1 rfl rfl (show decode prog_15_method_75_code 69 = .ok (.iload_n 2, 1) by decide +kernel) ?_
      refine dc_aloadn (pc := 70) (j := 0) (i := 0) hC 0 rfl rfl (show decode prog_15_method_75_code 70 = .ok (.aload_n 0, 1) by decide +kernel) ?_
      refine md_g71 (pc := 71) hC (show decode prog_15_method_75_code 71 = .ok (.getfield 126, 3) by decide +kernel) ?_
      refine dc_iloadn (pc := 74) (j := 2) (i := 2) hC 1 rfl rfl (show decode prog_15_method_75_code 74 = .ok (.iload_n 2, 1) by decide +kernel) ?_
      refine md_l71 (pc := 75) hC (show decode prog_15_method_75_code 75 = .ok (.baload, 1) by decide +kernel) h ?_
      intro j4 h
      refine dc_if_eq (pc := 76) (tgt := 83) hC (show decode prog_15_method_75_code 76 = .ok (.ifCond .eq 7, 3) by decide +kernel) (by decide +kernel) h ?_ ?_
      · intro h
        refine dc_iconst (pc := 83) (v := 0) hC (show decode prog_15_method_75_code 83 = .ok (.iconst 0, 1) by decide +kernel) (by decide +kernel) ?_
        exact lab_84 S x2 0 x2 h
      · intro h
        refine dc_iconst (pc := 79) (v := 1) hC (show decode prog_15_method_75_code 79 = .ok (.iconst 1, 1) by decide +kernel) (by decide +kernel) ?_
        refine dc_goto (pc := 80) (tgt := 84) hC (show decode prog_15_method_75_code 80 = .ok (.goto 4, 3) by decide +kernel) (by decide +kernel) ?_
        exact lab_84 S x2 1 x2 h
    have lab_34 : ∀ (S : md_S) (x1 : Int32) (x2 : Int32), dc_wp (mm_learns_L34 S x1 x2) F_7 → dc_G X l { frames := 0, cells := 0, slots := 0, locals := 0 } D 3 0 0 (md_W o a ca S) 34 [(0, .ref o), (1, .int x1), (2, .int x2)] [] := by
      intro S x1 x2 h
      delta mm_learns_L34 at h
      refine dc_aloadn (pc := 34) (j := 0) (i := 0) hC 0 rfl rfl (show decode prog_15_method_75_code 34 = .ok (.aload_n 0, 1) by decide +kernel) ?_
      refine md_g70 (pc := 35) hC (show decode prog_15_method_75_code 35 = .ok (.getfield 123, 3) by decide +kernel) ?_
      refine dc_iloadn (pc := 38) (j := 2) (i := 2) hC 2 rfl rfl (show decode prog_15_method_75_code 38 = .ok (.iload_n 2, 1) by decide +kernel) ?_
      refine md_l70 (pc := 39) hC (show decode prog_15_method_75_code 39 = .ok (.iaload, 1) by decide +kernel) h ?_
      intro j5 h
      refine dc_iconst (pc := 40) (v := 2) hC (show decode prog_15_method_75_code 40 = .ok (.iconst 2, 1) by decide +kernel) (by decide +kernel) ?_
      refine dc_icmp_ne (pc := 41) (tgt := 87) hC (show decode prog_15_method_75_code 41 = .ok (.if_icmp .ne 46, 3) by decide +kernel) (by decide +kernel) h ?_ ?_
      · intro h
        refine dc_aloadn (pc := 44) (j := 0) (i := 0) hC 0 rfl rfl (show decode prog_15_method_75_code 44 = .ok (.aload_n 0, 1) by decide +kernel) ?_
        refine md_g71 (pc := 45) hC (show decode prog_15_method_75_code 45 = .ok (.getfield 126, 3) by decide +kernel) ?_
        refine dc_iloadn (pc := 48) (j := 2) (i := 2) hC 2 rfl rfl (show decode prog_15_method_75_code 48 = .ok (.iload_n 2, 1) by decide +kernel) ?_
        refine md_l71 (pc := 49) hC (show decode prog_15_method_75_code 49 = .ok (.baload, 1) by decide +kernel) h ?_
        intro j6 h
        refine dc_if_ne (pc := 50) (tgt := 65) hC (show decode prog_15_method_75_code 50 = .ok (.ifCond .ne 15, 3) by decide +kernel) (by decide +kernel) h ?_ ?_
        · intro h
          refine dc_aloadn (pc := 53) (j := 0) (i := 0) hC 0 rfl rfl (show decode prog_15_method_75_code 53 = .ok (.aload_n 0, 1) by decide +kernel) ?_
          refine md_g72 (pc := 54) hC (show decode prog_15_method_75_code 54 = .ok (.getfield 130, 3) by decide +kernel) ?_
          refine dc_iloadn (pc := 57) (j := 2) (i := 2) hC 2 rfl rfl (show decode prog_15_method_75_code 57 = .ok (.iload_n 2, 1) by decide +kernel) ?_
          refine md_l72 (pc := 58) hC (show decode prog_15_method_75_code 58 = .ok (.baload, 1) by decide +kernel) h ?_
          intro j7 h
          refine dc_if_eq (pc := 59) (tgt := 65) hC (show decode prog_15_method_75_code 59 = .ok (.ifCond .eq 6, 3) by decide +kernel) (by decide +kernel) h ?_ ?_
          · intro h
            exact dc_sub [0, 2] rfl (lab_65 S x2 h)
          · intro h
            refine dc_goto (pc := 62) (tgt := 87) hC (show decode prog_15_method_75_code 62 = .ok (.goto 25, 3) by decide +kernel) (by decide +kernel) ?_
            exact lab_87 S x1 x2 h
        · intro h
          exact dc_sub [0, 2] rfl (lab_65 S x2 h)
      · intro h
        exact lab_87 S x1 x2 h
    rintro ⟨S, x1, x2⟩ h
    have h : dc_wp (mm_learns_b7 S x1 x2) F_7 := h
    delta mm_learns_b7 at h
    refine dc_iloadn (pc := 7) (j := 2) (i := 2) hC 2 rfl rfl (show decode prog_15_method_75_code 7 = .ok (.iload_n 2, 1) by decide +kernel) ?_
    refine dc_aloadn (pc := 8) (j := 0) (i := 0) hC 0 rfl rfl (show decode prog_15_method_75_code 8 = .ok (.aload_n 0, 1) by decide +kernel) ?_
    refine md_g50 (pc := 9) hC (show decode prog_15_method_75_code 9 = .ok (.getfield 561, 3) by decide +kernel) ?_
    refine dc_icmp_ge (pc := 12) (tgt := 93) hC (show decode prog_15_method_75_code 12 = .ok (.if_icmp .ge 81, 3) by decide +kernel) (by decide +kernel) h ?_ ?_
    · intro h
      refine dc_iloadn (pc := 15) (j := 2) (i := 2) hC 2 rfl rfl (show decode prog_15_method_75_code 15 = .ok (.iload_n 2, 1) by decide +kernel) ?_
      refine dc_aloadn (pc := 16) (j := 0) (i := 0) hC 0 rfl rfl (show decode prog_15_method_75_code 16 = .ok (.aload_n 0, 1) by decide +kernel) ?_
      refine md_g45 (pc := 17) hC (show decode prog_15_method_75_code 17 = .ok (.getfield 533, 3) by decide +kernel) ?_
      refine dc_aloadn (pc := 20) (j := 0) (i := 0) hC 0 rfl rfl (show decode prog_15_method_75_code 20 = .ok (.aload_n 0, 1) by decide +kernel) ?_
      refine md_g46 (pc := 21) hC (show decode prog_15_method_75_code 21 = .ok (.getfield 530, 3) by decide +kernel) ?_
      refine dc_iadd (pc := 24) hC (show decode prog_15_method_75_code 24 = .ok (.iadd, 1) by decide +kernel) ?_
      refine dc_icmp_lt (pc := 25) (tgt := 34) hC (show decode prog_15_method_75_code 25 = .ok (.if_icmp .lt 9, 3) by decide +kernel) (by decide +kernel) h ?_ ?_
      · intro h
        exact lab_34 S x1 x2 h
      · intro h
        refine dc_iloadn (pc := 28) (j := 2) (i := 2) hC 2 rfl rfl (show decode prog_15_method_75_code 28 = .ok (.iload_n 2, 1) by decide +kernel) ?_
        refine dc_bipush (pc := 29) (v := 62) hC (show decode prog_15_method_75_code 29 = .ok (.bipush 62, 2) by decide +kernel) (by decide +kernel) ?_
        refine dc_icmp_lt (pc := 31) (tgt := 87) hC (show decode prog_15_method_75_code 31 = .ok (.if_icmp .lt 56, 3) by decide +kernel) (by decide +kernel) h ?_ ?_
        · intro h
          exact lab_87 S x1 x2 h
        · intro h
          exact lab_34 S x1 x2 h
    · intro h
      have h : dc_wp (mm_learns_L93 S x1) F := hr_7 (S, x1) (dc_some h)
      exact dc_sub [0, 1] rfl (lab_93 S x1 h)
  have lab_7 : ∀ (S : md_S) (x1 : Int32) (x2 : Int32), dc_wp (mm_learns_L7 S x1 x2) F → dc_G X l { frames := 0, cells := 0, slots := 0, locals := 0 } D 3 0 0 (md_W o a ca S) 7 [(0, .ref o), (1, .int x1), (2, .int x2)] [] := fun S x1 x2 h => loop_7  (S, x1, x2) (dc_bind h)
  show dc_G X l { frames := 0, cells := 0, slots := 0, locals := 0 } D 3 0 0 (md_W o a ca S) 0 [(0, .ref o)] []
  delta mm_learns at h
  refine dc_iconst (pc := 0) (v := 0) hC (show decode prog_15_method_75_code 0 = .ok (.iconst 0, 1) by decide +kernel) (by decide +kernel) ?_
  refine dc_istoren (pc := 1) (j := 1) (i := 1) (lv' := [(1, .int 0), (0, .ref o)]) hC rfl (Nat.le_of_ble_eq_true rfl) rfl (show decode prog_15_method_75_code 1 = .ok (.istore_n 1, 1) by decide +kernel) ?_
  refine dc_aloadn (pc := 2) (j := 0) (i := 0) hC 1 rfl rfl (show decode prog_15_method_75_code 2 = .ok (.aload_n 0, 1) by decide +kernel) ?_
  refine md_g45 (pc := 3) hC (show decode prog_15_method_75_code 3 = .ok (.getfield 533, 3) by decide +kernel) ?_
  refine dc_letI h ?_
  intro v8 h
  refine dc_istoren (pc := 6) (j := 2) (i := 2) (lv' := [(2, .int v8), (1, .int 0), (0, .ref o)]) hC rfl (Nat.le_of_ble_eq_true rfl) rfl (show decode prog_15_method_75_code 6 = .ok (.istore_n 2, 1) by decide +kernel) ?_
  exact dc_sub [2, 1, 0] rfl (lab_7 S 0 v8 h)
noncomputable def mm_react_L276 (S : md_S) (y0 : Int32) : Option (md_S × Int32) :=
  some (S, y0)
noncomputable def mm_react_L264 (S : md_S) (x3 : Int32) : Option (md_S × Int32) :=
  if (S.1 78) = 0 then (mm_react_L276 S x3) else (mm_react_L276 S (-1))
noncomputable def mm_react_L255 (S : md_S) (x3 : Int32) (x4 : Int32) (y0 : Int32) : Option ((md_S × Int32) ⊕ ((md_S))) :=
  (dc_zb y0).bind fun _ => dc_let (md_i S 78 y0) fun S2 => some (.inl (S2, (x4 + 1)))
noncomputable def mm_react_L250 (S : md_S) (x3 : Int32) (x4 : Int32) : Option ((md_S × Int32) ⊕ ((md_S))) :=
  mm_react_L255 S x3 x4 1
noncomputable def mm_react_b217 (S : md_S) (x3 : Int32) (x4 : Int32) : Option ((md_S × Int32) ⊕ ((md_S))) :=
  if x4 < ((S.1 45) + (S.1 46)) then (if (S.1 78) = 0 then ((dc_ix x4 1662).bind fun j3 => if (S.2.1 70 j3) = 2 then (mm_react_L250 S x3 x4) else (mm_react_L255 S x3 x4 0)) else (mm_react_L250 S x3 x4)) else (some (.inr S))
noncomputable def mm_react_s217 (x3 : Int32) (q : md_S × Int32) : Option ((md_S × Int32) ⊕ ((md_S))) :=
  mm_react_b217 q.1 x3 q.2
noncomputable def mm_react_L217 (S : md_S) (x3 : Int32) (x4 : Int32) : Option (md_S × Int32) :=
  (dc_it (mm_react_s217 x3) (S, x4)).bind (fun (z : md_S) => mm_react_L264 z x3)
noncomputable def mm_react_L206 (S : md_S) : Option (md_S × Int32) :=
  dc_let ((S.1 80) : Int32) fun v4 => dc_let ((S.1 45) : Int32) fun v5 => mm_react_L217 S v4 v5
noncomputable def mm_react_L178 (S : md_S) : Option ((md_S × Int32) ⊕ ((md_S))) :=
  dc_let (md_i S 79 1) fun S6 => dc_let (md_i S6 78 0) fun S7 => (mm_run_r S7 0 (S7.1 77) 1).bind fun q8 => (mm_learns q8).bind fun q9 => some (.inl (q9.1, q9.2))
noncomputable def mm_react_b157 (S : md_S) (x3 : Int32) : Option ((md_S × Int32) ⊕ ((md_S))) :=
  if x3 < (S.1 47) then ((dc_ix x3 200).bind fun j10 => dc_let (md_a S 75 j10 0) fun S11 => some (.inl (S11, (x3 + 1)))) else (some (.inr S))
noncomputable def mm_react_s157 (q : md_S × Int32) : Option ((md_S × Int32) ⊕ ((md_S))) :=
  mm_react_b157 q.1 q.2
noncomputable def mm_react_L157 (S : md_S) (x3 : Int32) : Option ((md_S × Int32) ⊕ ((md_S))) :=
  (dc_it (mm_react_s157) (S, x3)).bind (fun (z : md_S) => mm_react_L178 z)
noncomputable def mm_react_L155 (S : md_S) : Option ((md_S × Int32) ⊕ ((md_S))) :=
  mm_react_L157 S 0
noncomputable def mm_react_b129 (S : md_S) (x3 : Int32) : Option ((md_S × Int32) ⊕ ((md_S))) :=
  if x3 < ((S.1 45) + (S.1 46)) then ((dc_ix x3 400).bind fun j12 => dc_let (md_a S 73 j12 x3) fun S13 => some (.inl (S13, (x3 + 1)))) else (some (.inr S))
noncomputable def mm_react_s129 (q : md_S × Int32) : Option ((md_S × Int32) ⊕ ((md_S))) :=
  mm_react_b129 q.1 q.2
noncomputable def mm_react_L129 (S : md_S) (x3 : Int32) : Option ((md_S × Int32) ⊕ ((md_S))) :=
  (dc_it (mm_react_s129) (S, x3)).bind (fun (z : md_S) => mm_react_L155 z)
noncomputable def mm_react_L127 (S : md_S) : Option ((md_S × Int32) ⊕ ((md_S))) :=
  mm_react_L129 S 0
noncomputable def mm_react_b99 (S : md_S) (x3 : Int32) : Option ((md_S × Int32) ⊕ ((md_S))) :=
  if x3 < (S.1 50) then ((dc_ix x3 1662).bind fun j14 => dc_let (md_a S 72 j14 0) fun S15 => (dc_ix x3 1662).bind fun j16 => dc_let (md_a S15 71 j16 0) fun S17 => some (.inl (S17, (x3 + 1)))) else (some (.inr S))
noncomputable def mm_react_s99 (q : md_S × Int32) : Option ((md_S × Int32) ⊕ ((md_S))) :=
  mm_react_b99 q.1 q.2
noncomputable def mm_react_L99 (S : md_S) (x3 : Int32) : Option ((md_S × Int32) ⊕ ((md_S))) :=
  (dc_it (mm_react_s99) (S, x3)).bind (fun (z : md_S) => mm_react_L127 z)
noncomputable def mm_react_b93 (S : md_S) (x2 : Int32) : Option ((md_S × Int32) ⊕ ((md_S))) :=
  if x2 = 0 then (some (.inr S)) else (mm_react_L99 S 0)
noncomputable def mm_react_s93 (q : md_S × Int32) : Option ((md_S × Int32) ⊕ ((md_S))) :=
  mm_react_b93 q.1 q.2
noncomputable def mm_react_L93 (S : md_S) (x2 : Int32) : Option (md_S × Int32) :=
  (dc_it (mm_react_s93) (S, x2)).bind (fun (z : md_S) => mm_react_L206 z)
noncomputable def mm_react_L91 (S : md_S) : Option (md_S × Int32) :=
  mm_react_L93 S 1
noncomputable def mm_react_L84 (S : md_S) (x1 : Int32) (x2 : Int32) (y0 : Int32) (y1 : Int32) : Option ((md_S × Int32) ⊕ ((md_S))) :=
  (dc_ix y1 1662).bind fun j18 => dc_let (md_a S 70 j18 y0) fun S19 => some (.inl (S19, (x2 + 1)))
noncomputable def mm_react_b54 (S : md_S) (x1 : Int32) (x2 : Int32) : Option ((md_S × Int32) ⊕ ((md_S))) :=
  if x2 < (S.1 50) then (if x2 < (S.1 45) then (mm_react_L84 S x1 x2 ((x1 >>> (x2 &&& (31 : Int32))) &&& 1) x2) else (mm_react_L84 S x1 x2 2 x2)) else (some (.inr S))
noncomputable def mm_react_s54 (x1 : Int32) (q : md_S × Int32) : Option ((md_S × Int32) ⊕ ((md_S))) :=
  mm_react_b54 q.1 x1 q.2
noncomputable def mm_react_L54 (S : md_S) (x1 : Int32) (x2 : Int32) : Option (md_S × Int32) :=
  (dc_it (mm_react_s54 x1) (S, x2)).bind (fun (z : md_S) => mm_react_L91 z)
noncomputable def mm_react_L52 (S : md_S) (x1 : Int32) : Option (md_S × Int32) :=
  mm_react_L54 S x1 0
noncomputable def mm_react_L44 (S : md_S) (x1 : Int32) (x2 : Int32) (y0 : Int32) (y1 : Int32) (y2 : Int32) : Option ((md_S × Int32) ⊕ ((md_S))) :=
  (dc_ix y2 201).bind fun j20 => dc_let (md_a S 76 j20 (y1 + y0)) fun S21 => some (.inl (S21, (x2 + 1)))
noncomputable def mm_react_b9 (S : md_S) (x1 : Int32) (x2 : Int32) : Option ((md_S × Int32) ⊕ ((md_S))) :=
  if x2 < (S.1 47) then ((dc_ix x2 201).bind fun j22 => (dc_ix x2 200).bind fun j23 => if (S.2.1 74 j23) = 0 then (mm_react_L44 S x1 x2 0 (S.2.1 76 j22) (x2 + 1)) else (mm_react_L44 S x1 x2 1 (S.2.1 76 j22) (x2 + 1))) else (some (.inr S))
noncomputable def mm_react_s9 (x1 : Int32) (q : md_S × Int32) : Option ((md_S × Int32) ⊕ ((md_S))) :=
  mm_react_b9 q.1 x1 q.2
noncomputable def mm_react_L9 (S : md_S) (x1 : Int32) (x2 : Int32) : Option (md_S × Int32) :=
  (dc_it (mm_react_s9 x1) (S, x2)).bind (fun (z : md_S) => mm_react_L52 z x1)
noncomputable def mm_react (S : md_S) (p1 : Int32) : Option (md_S × Int32) :=
  (dc_ix 0 201).bind fun j24 => dc_let (md_a S 76 j24 0) fun S25 => mm_react_L9 S25 p1 0
set_option maxHeartbeats 4000000 in
set_option maxRecDepth 100000 in
/-- react(I)I -/
theorem mm_react_ok (l : Launch) (D : va_G) (ad : Nat → Nat) (de : Nat) (o : Nat) (a : Nat → Nat) (ca : Nat → ClassId) (S : md_S) (p1 : Int32) (F : (md_S × Int32) → Prop) (h : dc_wp (mm_react S p1) F) : dc_Ci l ⟨"SignalEngineModel", "react", "(I)I"⟩ prog_15_method_76_code 5 (some (.int)) 603 16869 D (md_T ca) ad de [.ref o, .int p1] (md_W o a ca S) (fun r w => ∃ q, F q ∧ r = q.2 ∧ w = md_W o a ca q.1) 0 0 := by
  refine dc_enteri (by decide +kernel) (Nat.le_of_ble_eq_true rfl) ?_
  intro X hC hR
  have lab_276 : ∀ (S : md_S) (y0 : Int32), dc_wp (mm_react_L276 S y0) F → dc_G X l { frames := 603, cells := 0, slots := 0, locals := 16869 } D 5 0 0 (md_W o a ca S) 276 [(0, .ref o)] [.int y0] := by
    intro S y0 h
    delta mm_react_L276 at h
    exact dc_iret (pc := 276) hC hR ⟨_, dc_some h, rfl, rfl⟩ (show decode prog_15_method_76_code 276 = .ok (.ireturn, 1) by decide +kernel)
  have lab_264 : ∀ (S : md_S) (x3 : Int32), dc_wp (mm_react_L264 S x3) F → dc_G X l { frames := 603, cells := 0, slots := 0, locals := 16869 } D 5 0 0 (md_W o a ca S) 264 [(0, .ref o), (3, .int x3)] [] := by
    intro S x3 h
    delta mm_react_L264 at h
    refine dc_aloadn (pc := 264) (j := 0) (i := 0) hC 0 rfl rfl (show decode prog_15_method_76_code 264 = .ok (.aload_n 0, 1) by decide +kernel) ?_
    refine md_g78 (pc := 265) hC (show decode prog_15_method_76_code 265 = .ok (.getfield 573, 3) by decide +kernel) ?_
    refine dc_if_eq (pc := 268) (tgt := 275) hC (show decode prog_15_method_76_code 268 = .ok (.ifCond .eq 7, 3) by decide +kernel) (by decide +kernel) h ?_ ?_
    · intro h
      refine dc_iloadn (pc := 275) (j := 3) (i := 3) hC 1 rfl rfl (show decode prog_15_method_76_code 275 = .ok (.iload_n 3, 1) by decide +kernel) ?_
      exact dc_sub [0] rfl (lab_276 S x3 h)
    · intro h
      refine dc_iconst (pc := 271) (v := (-1)) hC (show decode prog_15_method_76_code 271 = .ok (.iconst (-1), 1) by decide +kernel) (by decide +kernel) ?_
      refine dc_goto (pc := 272) (tgt := 276) hC (show decode prog_15_method_76_code 272 = .ok (.goto 4, 3) by decide +kernel) (by decide +kernel) ?_
      exact dc_sub [0] rfl (lab_276 S (-1) h)
  have loop_217 : ∀ (x3 : Int32) (q : md_S × Int32), dc_wp (dc_it (mm_react_s217 x3) q) (fun z => dc_wp ((fun (z : md_S) => mm_react_L264 z x3) z) F) → dc_G X l { frames := 603, cells := 0, slots := 0, locals := 16869 } D 5 0 0 (md_W o a ca q.1) 217 [(0, .ref o), (3, .int x3), (4, .int q.2)] [] := by
    intro x3
    refine dc_loopF ?_
    intro F_217 hl_217 hr_217
    have lab_255 : ∀ (S : md_S) (x4 : Int32) (y0 : Int32), dc_wp (mm_react_L255 S x3 x4 y0) F_217 → dc_G X l { frames := 603, cells := 0, slots := 0, locals := 16869 } D 5 0 0 (md_W o a ca S) 255 [(0, .ref o), (3, .int x3), (4, .int x4)] [.int y0, .ref o] := by
      intro S x4 y0 h
      delta mm_react_L255 at h
      obtain ⟨hz1, h⟩ := dc_zb_wp (dc_bind h)
      refine md_p78 (pc := 255) hC hz1 (show decode prog_15_method_76_code 255 = .ok (.putfield 573, 3) by decide +kernel) ?_
      refine dc_letS h ?_
      intro S2 h
      refine dc_iinc (pc := 258) (i := 4) (v := (x4 + 1)) (lv' := [(4, .int (x4 + 1)), (0, .ref o), (3, .int x3)]) hC 2 rfl rfl (Nat.le_of_ble_eq_true rfl) rfl (show decode prog_15_method_76_code 258 = .ok (.iinc 4 1, 3) by decide +kernel) ?_
      refine dc_goto (pc := 261) (tgt := 217) hC (show decode prog_15_method_76_code 261 = .ok (.goto (-44), 3) by decide +kernel) (by decide +kernel) ?_
      exact dc_sub [1, 2, 0] rfl (hl_217 (S2, (x4 + 1)) (dc_some h))
    have lab_250 : ∀ (S : md_S) (x4 : Int32), dc_wp (mm_react_L250 S x3 x4) F_217 → dc_G X l { frames := 603, cells := 0, slots := 0, locals := 16869 } D 5 0 0 (md_W o a ca S) 250 [(0, .ref o), (3, .int x3), (4, .int x4)] [.ref o] := by
      intro S x4 h
      delta mm_react_L250 at h
      refine dc_iconst (pc := 250) (v := 1) hC (show decode prog_15_method_76_code 250 = .ok (.iconst 1, 1) by decide +kernel) (by decide +kernel) ?_
      refine dc_goto (pc := 251) (tgt := 255) hC (show decode prog_15_method_76_code 251 = .ok (.goto 4, 3) by decide +kernel) (by decide +kernel) ?_
      exact lab_255 S x4 1 h
    rintro ⟨S, x4⟩ h
    have h : dc_wp (mm_react_b217 S x3 x4) F_217 := h
    delta mm_react_b217 at h
    refine dc_iload (pc := 217) (i := 4) hC 2 rfl (show decode prog_15_method_76_code 217 = .ok (.iload 4, 2) by decide +kernel) ?_
    refine dc_aloadn (pc := 219) (j := 0) (i := 0) hC 0 rfl rfl (show decode prog_15_method_76_code 219 = .ok (.aload_n 0, 1) by decide +kernel) ?_
    refine md_g45 (pc := 220) hC (show decode prog_15_method_76_code 220 = .ok (.getfield 533, 3) by decide +kernel) ?_
    refine dc_aloadn (pc := 223) (j := 0) (i := 0) hC 0 rfl rfl (show decode prog_15_method_76_code 223 = .ok (.aload_n 0, 1) by decide +kernel) ?_
    refine md_g46 (pc := 224) hC (show decode prog_15_method_76_code 224 = .ok (.getfield 530, 3) by decide +kernel) ?_
    refine dc_iadd (pc := 227) hC (show decode prog_15_method_76_code 227 = .ok (.iadd, 1) by decide +kernel) ?_
    refine dc_icmp_ge (pc := 228) (tgt := 264) hC (show decode prog_15_method_76_code 228 = .ok (.if_icmp .ge 36, 3) by decide +kernel) (by decide +kernel) h ?_ ?_
    · intro h
      refine dc_aloadn (pc := 231) (j := 0) (i := 0) hC 0 rfl rfl (show decode prog_15_method_76_code 231 = .ok (.aload_n 0, 1) by decide +kernel) ?_
      refine dc_aloadn (pc := 232) (j := 0) (i := 0) hC 0 rfl rfl (show decode prog_15_method_76_code 232 = .ok (.aload_n 0, 1) by decide +kernel) ?_
      refine md_g78 (pc := 233) hC (show decode prog_15_method_76_code 233 = .ok (.getfield 573, 3) by decide +kernel) ?_
      refine dc_if_ne (pc := 236) (tgt := 250) hC (show decode prog_15_method_76_code 236 = .ok (.ifCond .ne 14, 3) by decide +kernel) (by decide +kernel) h ?_ ?_
      · intro h
        refine dc_aloadn (pc := 239) (j := 0) (i := 0) hC 0 rfl rfl (show decode prog_15_method_76_code 239 = .ok (.aload_n 0, 1) by decide +kernel) ?_
        refine md_g70 (pc := 240) hC (show decode prog_15_method_76_code 240 = .ok (.getfield 123, 3) by decide +kernel) ?_
        refine dc_iload (pc := 243) (i := 4) hC 2 rfl (show decode prog_15_method_76_code 243 = .ok (.iload 4, 2) by decide +kernel) ?_
        refine md_l70 (pc := 245) hC (show decode prog_15_method_76_code 245 = .ok (.iaload, 1) by decide +kernel) h ?_
        intro j3 h
        refine dc_iconst (pc := 246) (v := 2) hC (show decode prog_15_method_76_code 246 = .ok (.iconst 2, 1) by decide +kernel) (by decide +kernel) ?_
        refine dc_icmp_ne (pc := 247) (tgt := 254) hC (show decode prog_15_method_76_code 247 = .ok (.if_icmp .ne 7, 3) by decide +kernel) (by decide +kernel) h ?_ ?_
        · intro h
          exact lab_250 S x4 h
        · intro h
          refine dc_iconst (pc := 254) (v := 0) hC (show decode prog_15_method_76_code 254 = .ok (.iconst 0, 1) by decide +kernel) (by decide +kernel) ?_
          exact lab_255 S x4 0 h
      · intro h
        exact lab_250 S x4 h
    · intro h
      have h : dc_wp (mm_react_L264 S x3) F := hr_217 S (dc_some h)
      exact dc_sub [0, 1] rfl (lab_264 S x3 h)
  have lab_217 : ∀ (S : md_S) (x3 : Int32) (x4 : Int32), dc_wp (mm_react_L217 S x3 x4) F → dc_G X l { frames := 603, cells := 0, slots := 0, locals := 16869 } D 5 0 0 (md_W o a ca S) 217 [(0, .ref o), (3, .int x3), (4, .int x4)] [] := fun S x3 x4 h => loop_217 x3 (S, x4) (dc_bind h)
  have lab_206 : ∀ (S : md_S), dc_wp (mm_react_L206 S) F → dc_G X l { frames := 603, cells := 0, slots := 0, locals := 16869 } D 5 0 0 (md_W o a ca S) 206 [(0, .ref o)] [] := by
    intro S  h
    delta mm_react_L206 at h
    refine dc_aloadn (pc := 206) (j := 0) (i := 0) hC 0 rfl rfl (show decode prog_15_method_76_code 206 = .ok (.aload_n 0, 1) by decide +kernel) ?_
    refine md_g80 (pc := 207) hC (show decode prog_15_method_76_code 207 = .ok (.getfield 567, 3) by decide +kernel) ?_
    refine dc_letI h ?_
    intro v4 h
    refine dc_istoren (pc := 210) (j := 3) (i := 3) (lv' := [(3, .int v4), (0, .ref o)]) hC rfl (Nat.le_of_ble_eq_true rfl) rfl (show decode prog_15_method_76_code 210 = .ok (.istore_n 3, 1) by decide +kernel) ?_
    refine dc_aloadn (pc := 211) (j := 0) (i := 0) hC 1 rfl rfl (show decode prog_15_method_76_code 211 = .ok (.aload_n 0, 1) by decide +kernel) ?_
    refine md_g45 (pc := 212) hC (show decode prog_15_method_76_code 212 = .ok (.getfield 533, 3) by decide +kernel) ?_
    refine dc_letI h ?_
    intro v5 h
    refine dc_istore (pc := 215) (i := 4) (lv' := [(4, .int v5), (3, .int v4), (0, .ref o)]) hC (Nat.le_of_ble_eq_true rfl) rfl (show decode prog_15_method_76_code 215 = .ok (.istore 4, 2) by decide +kernel) ?_
    exact dc_sub [2, 1, 0] rfl (lab_217 S v4 v5 h)
  have loop_93 : ∀ (q : md_S × Int32), dc_wp (dc_it (mm_react_s93) q) (fun z => dc_wp ((fun (z : md_S) => mm_react_L206 z) z) F) → dc_G X l { frames := 603, cells := 0, slots := 0, locals := 16869 } D 5 0 0 (md_W o a ca q.1) 93 [(0, .ref o), (2, .int q.2)] [] := by
    refine dc_loopF ?_
    intro F_93 hl_93 hr_93
    have lab_178 : ∀ (S : md_S), dc_wp (mm_react_L178 S) F_93 → dc_G X l { frames := 603, cells := 0, slots := 0, locals := 16869 } D 5 0 0 (md_W o a ca S) 178 [(0, .ref o)] [] := by
      intro S  h
      delta mm_react_L178 at h
      refine dc_aloadn (pc := 178) (j := 0) (i := 0) hC 0 rfl rfl (show decode prog_15_method_76_code 178 = .ok (.aload_n 0, 1) by decide +kernel) ?_
      refine dc_iconst (pc := 179) (v := 1) hC (show decode prog_15_method_76_code 179 = .ok (.iconst 1, 1) by decide +kernel) (by decide +kernel) ?_
      refine md_p79 (pc := 180) hC (show decode prog_15_method_76_code 180 = .ok (.putfield 570, 3) by decide +kernel) ?_
      refine dc_letS h ?_
      intro S6 h
      refine dc_aloadn (pc := 183) (j := 0) (i := 0) hC 0 rfl rfl (show decode prog_15_method_76_code 183 = .ok (.aload_n 0, 1) by decide +kernel) ?_
      refine dc_iconst (pc := 184) (v := 0) hC (show decode prog_15_method_76_code 184 = .ok (.iconst 0, 1) by decide +kernel) (by decide +kernel) ?_
      refine md_p78 (pc := 185) hC (Or.inl rfl) (show decode prog_15_method_76_code 185 = .ok (.putfield 573, 3) by decide +kernel) ?_
      refine dc_letS h ?_
      intro S7 h
      refine dc_aloadn (pc := 188) (j := 0) (i := 0) hC 0 rfl rfl (show decode prog_15_method_76_code 188 = .ok (.aload_n 0, 1) by decide +kernel) ?_
      refine dc_iconst (pc := 189) (v := 0) hC (show decode prog_15_method_76_code 189 = .ok (.iconst 0, 1) by decide +kernel) (by decide +kernel) ?_
      refine dc_aloadn (pc := 190) (j := 0) (i := 0) hC 0 rfl rfl (show decode prog_15_method_76_code 190 = .ok (.aload_n 0, 1) by decide +kernel) ?_
      refine md_g77 (pc := 191) hC (show decode prog_15_method_76_code 191 = .ok (.getfield 513, 3) by decide +kernel) ?_
      refine dc_iconst (pc := 194) (v := 1) hC (show decode prog_15_method_76_code 194 = .ok (.iconst 1, 1) by decide +kernel) (by decide +kernel) ?_
      refine mc_Vmv (pc := 195) (As := [.int 0, .int (S7.1 77), .int 1]) (rest := []) hC vw_run_591 (mm_run_r_ok l D ad de o a ca S7 0 (S7.1 77) 1) (Nat.le_of_ble_eq_true rfl) (Nat.le_of_ble_eq_true rfl) rfl (Nat.le_of_ble_eq_true rfl) (show decode prog_15_method_76_code 195 = .ok (.invokevirtual 591, 3) by decide +kernel) h ?_
      intro q8 h
      refine dc_aloadn (pc := 198) (j := 0) (i := 0) hC 0 rfl rfl (show decode prog_15_method_76_code 198 = .ok (.aload_n 0, 1) by decide +kernel) ?_
      refine mc_Vmi (pc := 199) (As := []) (rest := []) hC vw_learns_612 (mm_learns_ok l D ad de o a ca q8) (Nat.le_of_ble_eq_true rfl) (Nat.le_of_ble_eq_true rfl) rfl (Nat.le_of_ble_eq_true rfl) (show decode prog_15_method_76_code 199 = .ok (.invokevirtual 612, 3) by decide +kernel) h ?_
      intro q9 h
      refine dc_istoren (pc := 202) (j := 2) (i := 2) (lv' := [(2, .int q9.2), (0, .ref o)]) hC rfl (Nat.le_of_ble_eq_true rfl) rfl (show decode prog_15_method_76_code 202 = .ok (.istore_n 2, 1) by decide +kernel) ?_
      refine dc_goto (pc := 203) (tgt := 93) hC (show decode prog_15_method_76_code 203 = .ok (.goto (-110), 3) by decide +kernel) (by decide +kernel) ?_
      exact dc_sub [1, 0] rfl (hl_93 (q9.1, q9.2) (dc_some h))
    have loop_157 : ∀ (q : md_S × Int32), dc_wp (dc_it (mm_react_s157) q) (fun z => dc_wp ((fun (z : md_S) => mm_react_L178 z) z) F_93) → dc_G X l { frames := 603, cells := 0, slots := 0, locals := 16869 } D 5 0 0 (md_W o a ca q.1) 157 [(0, .ref o), (3, .int q.2)] [] := by
      refine dc_loopF ?_
      intro F_157 hl_157 hr_157
      rintro ⟨S, x3⟩ h
      have h : dc_wp (mm_react_b157 S x3) F_157 := h
      delta mm_react_b157 at h
      refine dc_iloadn (pc := 157) (j := 3) (i := 3) hC 1 rfl rfl (show decode prog_15_method_76_code 157 = .ok (.iload_n 3, 1) by decide +kernel) ?_
      refine dc_aloadn (pc := 158) (j := 0) (i := 0) hC 0 rfl rfl (show decode prog_15_method_76_code 158 = .ok (.aload_n 0, 1) by decide +kernel) ?_
      refine md_g47 (pc := 159) hC (show decode prog_15_method_76_code 159 = .ok (.getfield 498, 3) by decide +kernel) ?_
      refine dc_icmp_ge (pc := 162) (tgt := 178) hC (show decode prog_15_method_76_code 162 = .ok (.if_icmp .ge 16, 3) by decide +kernel) (by decide +kernel) h ?_ ?_
      · intro h
        refine dc_aloadn (pc := 165) (j := 0) (i := 0) hC 0 rfl rfl (show decode prog_15_method_76_code 165 = .ok (.aload_n 0, 1) by decide +kernel) ?_
        refine md_g75 (pc := 166) hC (show decode prog_15_method_76_code 166 = .ok (.getfield 139, 3) by decide +kernel) ?_
        refine dc_iloadn (pc := 169) (j := 3) (i := 3) hC 1 rfl rfl (show decode prog_15_method_76_code 169 = .ok (.iload_n 3, 1) by decide +kernel) ?_
        refine dc_iconst (pc := 170) (v := 0) hC (show decode prog_15_method_76_code 170 = .ok (.iconst 0, 1) by decide +kernel) (by decide +kernel) ?_
        refine md_s75 (pc := 171) hC (Or.inl rfl) (show decode prog_15_method_76_code 171 = .ok (.bastore, 1) by decide +kernel) h ?_
        intro j10 h
        refine dc_letS h ?_
        intro S11 h
        refine dc_iinc (pc := 172) (i := 3) (v := (x3 + 1)) (lv' := [(3, .int (x3 + 1)), (0, .ref o)]) hC 1 rfl rfl (Nat.le_of_ble_eq_true rfl) rfl (show decode prog_15_method_76_code 172 = .ok (.iinc 3 1, 3) by decide +kernel) ?_
        refine dc_goto (pc := 175) (tgt := 157) hC (show decode prog_15_method_76_code 175 = .ok (.goto (-18), 3) by decide +kernel) (by decide +kernel) ?_
        exact dc_sub [1, 0] rfl (hl_157 (S11, (x3 + 1)) (dc_some h))
      · intro h
        have h : dc_wp (mm_react_L178 S) F_93 := hr_157 S (dc_some h)
        exact dc_sub [0] rfl (lab_178 S h)
    have lab_157 : ∀ (S : md_S) (x3 : Int32), dc_wp (mm_react_L157 S x3) F_93 → dc_G X l { frames := 603, cells := 0, slots := 0, locals := 16869 } D 5 0 0 (md_W o a ca S) 157 [(0, .ref o), (3, .int x3)] [] := fun S x3 h => loop_157  (S, x3) (dc_bind h)
    have lab_155 : ∀ (S : md_S), dc_wp (mm_react_L155 S) F_93 → dc_G X l { frames := 603, cells := 0, slots := 0, locals := 16869 } D 5 0 0 (md_W o a ca S) 155 [(0, .ref o)] [] := by
      intro S  h
      delta mm_react_L155 at h
      refine dc_iconst (pc := 155) (v := 0) hC (show decode prog_15_method_76_code 155 = .ok (.iconst 0, 1) by decide +kernel) (by decide +kernel) ?_
      refine dc_istoren (pc := 156) (j := 3) (i := 3) (lv' := [(3, .int 0), (0, .ref o)]) hC rfl (Nat.le_of_ble_eq_true rfl) rfl (show decode prog_15_method_76_code 156 = .ok (.istore_n 3, 1) by decide +kernel) ?_
      exact dc_sub [1, 0] rfl (lab_157 S 0 h)
    have loop_129 : ∀ (q : md_S × Int32), dc_wp (dc_it (mm_react_s129) q) (fun z => dc_wp ((fun (z : md_S) => mm_react_L155 z) z) F_93) → dc_G X l { frames := 603, cells := 0, slots := 0, locals := 16869 } D 5 0 0 (md_W o a ca q.1) 129 [(0, .ref o), (3, .int q.2)] [] := by
      refine dc_loopF ?_
      intro F_129 hl_129 hr_129
      rintro ⟨S, x3⟩ h
      have h : dc_wp (mm_react_b129 S x3) F_129 := h
      delta mm_react_b129 at h
      refine dc_iloadn (pc := 129) (j := 3) (i := 3) hC 1 rfl rfl (show decode prog_15_method_76_code 129 = .ok (.iload_n 3, 1) by decide +kernel) ?_
      refine dc_aloadn (pc := 130) (j := 0) (i := 0) hC 0 rfl rfl (show decode prog_15_method_76_code 130 = .ok (.aload_n 0, 1) by decide +kernel) ?_
      refine md_g45 (pc := 131) hC (show decode prog_15_method_76_code 131 = .ok (.getfield 533, 3) by decide +kernel) ?_
      refine dc_aloadn (pc := 134) (j := 0) (i := 0) hC 0 rfl rfl (show decode prog_15_method_76_code 134 = .ok (.aload_n 0, 1) by decide +kernel) ?_
      refine md_g46 (pc := 135) hC (show decode prog_15_method_76_code 135 = .ok (.getfield 530, 3) by decide +kernel) ?_
      refine dc_iadd (pc := 138) hC (show decode prog_15_method_76_code 138 = .ok (.iadd, 1) by decide +kernel) ?_
      refine dc_icmp_ge (pc := 139) (tgt := 155) hC (show decode prog_15_method_76_code 139 = .ok (.if_icmp .ge 16, 3) by decide +kernel) (by decide +kernel) h ?_ ?_
      · intro h
        refine dc_aloadn (pc := 142) (j := 0) (i := 0) hC 0 rfl rfl (show decode prog_15_method_76_code 142 = .ok (.aload_n 0, 1) by decide +kernel) ?_
        refine md_g73 (pc := 143) hC (show decode prog_15_method_76_code 143 = .ok (.getfield 133, 3) by decide +kernel) ?_
        refine dc_iloadn (pc := 146) (j := 3) (i := 3) hC 1 rfl rfl (show decode prog_15_method_76_code 146 = .ok (.iload_n 3, 1) by decide +kernel) ?_
        refine dc_iloadn (pc := 147) (j := 3) (i := 3) hC 1 rfl rfl (show decode prog_15_method_76_code 147 = .ok (.iload_n 3, 1) by decide +kernel) ?_
        refine md_s73 (pc := 148) hC (show decode prog_15_method_76_code 148 = .ok (.iastore, 1) by decide +kernel) h ?_
        intro j12 h
        refine dc_letS h ?_
        intro S13 h
        refine dc_iinc (pc := 149) (i := 3) (v := (x3 + 1)) (lv' := [(3, .int (x3 + 1)), (0, .ref o)]) hC 1 rfl rfl (Nat.le_of_ble_eq_true rfl) rfl (show decode prog_15_method_76_code 149 = .ok (.iinc 3 1, 3) by decide +kernel) ?_
        refine dc_goto (pc := 152) (tgt := 129) hC (show decode prog_15_method_76_code 152 = .ok (.goto (-23), 3) by decide +kernel) (by decide +kernel) ?_
        exact dc_sub [1, 0] rfl (hl_129 (S13, (x3 + 1)) (dc_some h))
      · intro h
        have h : dc_wp (mm_react_L155 S) F_93 := hr_129 S (dc_some h)
        exact dc_sub [0] rfl (lab_155 S h)
    have lab_129 : ∀ (S : md_S) (x3 : Int32), dc_wp (mm_react_L129 S x3) F_93 → dc_G X l { frames := 603, cells := 0, slots := 0, locals := 16869 } D 5 0 0 (md_W o a ca S) 129 [(0, .ref o), (3, .int x3)] [] := fun S x3 h => loop_129  (S, x3) (dc_bind h)
    have lab_127 : ∀ (S : md_S), dc_wp (mm_react_L127 S) F_93 → dc_G X l { frames := 603, cells := 0, slots := 0, locals := 16869 } D 5 0 0 (md_W o a ca S) 127 [(0, .ref o)] [] := by
      intro S  h
      delta mm_react_L127 at h
      refine dc_iconst (pc := 127) (v := 0) hC (show decode prog_15_method_76_code 127 = .ok (.iconst 0, 1) by decide +kernel) (by decide +kernel) ?_
      refine dc_istoren (pc := 128) (j := 3) (i := 3) (lv' := [(3, .int 0), (0, .ref o)]) hC rfl (Nat.le_of_ble_eq_true rfl) rfl (show decode prog_15_method_76_code 128 = .ok (.istore_n 3, 1) by decide +kernel) ?_
      exact dc_sub [1, 0] rfl (lab_129 S 0 h)
    have loop_99 : ∀ (q : md_S × Int32), dc_wp (dc_it (mm_react_s99) q) (fun z => dc_wp ((fun (z : md_S) => mm_react_L127 z) z) F_93) → dc_G X l { frames := 603, cells := 0, slots := 0, locals := 16869 } D 5 0 0 (md_W o a ca q.1) 99 [(0, .ref o), (3, .int q.2)] [] := by
      refine dc_loopF ?_
      intro F_99 hl_99 hr_99
      rintro ⟨S, x3⟩ h
      have h : dc_wp (mm_react_b99 S x3) F_99 := h
      delta mm_react_b99 at h
      refine dc_iloadn (pc := 99) (j := 3) (i := 3) hC 1 rfl rfl (show decode prog_15_method_76_code 99 = .ok (.iload_n 3, 1) by decide +kernel) ?_
      refine dc_aloadn (pc := 100) (j := 0) (i := 0) hC 0 rfl rfl (show decode prog_15_method_76_code 100 = .ok (.aload_n 0, 1) by decide +kernel) ?_
      refine md_g50 (pc := 101) hC (show decode prog_15_method_76_code 101 = .ok (.getfield 561, 3) by decide +kernel) ?_
      refine dc_icmp_ge (pc := 104) (tgt := 127) hC (show decode prog_15_method_76_code 104 = .ok (.if_icmp .ge 23, 3) by decide +kernel) (by decide +kernel) h ?_ ?_
      · intro h
        refine dc_aloadn (pc := 107) (j := 0) (i := 0) hC 0 rfl rfl (show decode prog_15_method_76_code 107 = .ok (.aload_n 0, 1) by decide +kernel) ?_
        refine md_g71 (pc := 108) hC (show decode prog_15_method_76_code 108 = .ok (.getfield 126, 3) by decide +kernel) ?_
        refine dc_iloadn (pc := 111) (j := 3) (i := 3) hC 1 rfl rfl (show decode prog_15_method_76_code 111 = .ok (.iload_n 3, 1) by decide +kernel) ?_
        refine dc_aloadn (pc := 112) (j := 0) (i := 0) hC 0 rfl rfl (show decode prog_15_method_76_code 112 = .ok (.aload_n 0, 1) by decide +kernel) ?_
        refine md_g72 (pc := 113) hC (show decode prog_15_method_76_code 113 = .ok (.getfield 130, 3) by decide +kernel) ?_
        refine dc_iloadn (pc := 116) (j := 3) (i := 3) hC 1 rfl rfl (show decode prog_15_method_76_code 116 = .ok (.iload_n 3, 1) by decide +kernel) ?_
        refine dc_iconst (pc := 117) (v := 0) hC (show decode prog_15_method_76_code 117 = .ok (.iconst 0, 1) by decide +kernel) (by decide +kernel) ?_
        refine dc_dup_x2 (pc := 118) hC (show decode prog_15_method_76_code 118 = .ok (.dup_x2, 1) by decide +kernel) rfl rfl rfl ?_
        refine md_s72 (pc := 119) hC (Or.inl rfl) (show decode prog_15_method_76_code 119 = .ok (.bastore, 1) by decide +kernel) h ?_
        intro j14 h
        refine dc_letS h ?_
        intro S15 h
        refine md_s71 (pc := 120) hC (Or.inl rfl) (show decode prog_15_method_76_code 120 = .ok (.bastore, 1) by decide +kernel) h ?_
        intro j16 h
        refine dc_letS h ?_
        intro S17 h
        refine dc_iinc (pc := 121) (i := 3) (v := (x3 + 1)) (lv' := [(3, .int (x3 + 1)), (0, .ref o)]) hC 1 rfl rfl (Nat.le_of_ble_eq_true rfl) rfl (show decode prog_15_method_76_code 121 = .ok (.iinc 3 1, 3) by decide +kernel) ?_
        refine dc_goto (pc := 124) (tgt := 99) hC (show decode prog_15_method_76_code 124 = .ok (.goto (-25), 3) by decide +kernel) (by decide +kernel) ?_
        exact dc_sub [1, 0] rfl (hl_99 (S17, (x3 + 1)) (dc_some h))
      · intro h
        have h : dc_wp (mm_react_L127 S) F_93 := hr_99 S (dc_some h)
        exact dc_sub [0] rfl (lab_127 S h)
    have lab_99 : ∀ (S : md_S) (x3 : Int32), dc_wp (mm_react_L99 S x3) F_93 → dc_G X l { frames := 603, cells := 0, slots := 0, locals := 16869 } D 5 0 0 (md_W o a ca S) 99 [(0, .ref o), (3, .int x3)] [] := fun S x3 h => loop_99  (S, x3) (dc_bind h)
    rintro ⟨S, x2⟩ h
    have h : dc_wp (mm_react_b93 S x2) F_93 := h
    delta mm_react_b93 at h
    refine dc_iloadn (pc := 93) (j := 2) (i := 2) hC 1 rfl rfl (show decode prog_15_method_76_code 93 = .ok (.iload_n 2, 1) by decide +kernel) ?_
    refine dc_if_eq (pc := 94) (tgt := 206) hC (show decode prog_15_method_76_code 94 = .ok (.ifCond .eq 112, 3) by decide +kernel) (by decide +kernel) h ?_ ?_
    · intro h
      have h : dc_wp (mm_react_L206 S) F := hr_93 S (dc_some h)
      exact dc_sub [0] rfl (lab_206 S h)
    · intro h
      refine dc_iconst (pc := 97) (v := 0) hC (show decode prog_15_method_76_code 97 = .ok (.iconst 0, 1) by decide +kernel) (by decide +kernel) ?_
      refine dc_istoren (pc := 98) (j := 3) (i := 3) (lv' := [(3, .int 0), (0, .ref o), (2, .int x2)]) hC rfl (Nat.le_of_ble_eq_true rfl) rfl (show decode prog_15_method_76_code 98 = .ok (.istore_n 3, 1) by decide +kernel) ?_
      exact dc_sub [1, 0] rfl (lab_99 S 0 h)
  have lab_93 : ∀ (S : md_S) (x2 : Int32), dc_wp (mm_react_L93 S x2) F → dc_G X l { frames := 603, cells := 0, slots := 0, locals := 16869 } D 5 0 0 (md_W o a ca S) 93 [(0, .ref o), (2, .int x2)] [] := fun S x2 h => loop_93  (S, x2) (dc_bind h)
  have lab_91 : ∀ (S : md_S), dc_wp (mm_react_L91 S) F → dc_G X l { frames := 603, cells := 0, slots := 0, locals := 16869 } D 5 0 0 (md_W o a ca S) 91 [(0, .ref o)] [] := by
    intro S  h
    delta mm_react_L91 at h
    refine dc_iconst (pc := 91) (v := 1) hC (show decode prog_15_method_76_code 91 = .ok (.iconst 1, 1) by decide +kernel) (by decide +kernel) ?_
    refine dc_istoren (pc := 92) (j := 2) (i := 2) (lv' := [(2, .int 1), (0, .ref o)]) hC rfl (Nat.le_of_ble_eq_true rfl) rfl (show decode prog_15_method_76_code 92 = .ok (.istore_n 2, 1) by decide +kernel) ?_
    exact dc_sub [1, 0] rfl (lab_93 S 1 h)
  have loop_54 : ∀ (x1 : Int32) (q : md_S × Int32), dc_wp (dc_it (mm_react_s54 x1) q) (fun z => dc_wp ((fun (z : md_S) => mm_react_L91 z) z) F) → dc_G X l { frames := 603, cells := 0, slots := 0, locals := 16869 } D 5 0 0 (md_W o a ca q.1) 54 [(0, .ref o), (1, .int x1), (2, .int q.2)] [] := by
    intro x1
    refine dc_loopF ?_
    intro F_54 hl_54 hr_54
    have lab_84 : ∀ (S : md_S) (x2 : Int32) (y0 : Int32) (y1 : Int32), dc_wp (mm_react_L84 S x1 x2 y0 y1) F_54 → dc_G X l { frames := 603, cells := 0, slots := 0, locals := 16869 } D 5 0 0 (md_W o a ca S) 84 [(0, .ref o), (1, .int x1), (2, .int x2)] [.int y0, .int y1, .ref (a 70)] := by
      intro S x2 y0 y1 h
      delta mm_react_L84 at h
      refine md_s70 (pc := 84) hC (show decode prog_15_method_76_code 84 = .ok (.iastore, 1) by decide +kernel) h ?_
      intro j18 h
      refine dc_letS h ?_
      intro S19 h
      refine dc_iinc (pc := 85) (i := 2) (v := (x2 + 1)) (lv' := [(2, .int (x2 + 1)), (0, .ref o), (1, .int x1)]) hC 2 rfl rfl (Nat.le_of_ble_eq_true rfl) rfl (show decode prog_15_method_76_code 85 = .ok (.iinc 2 1, 3) by decide +kernel) ?_
      refine dc_goto (pc := 88) (tgt := 54) hC (show decode prog_15_method_76_code 88 = .ok (.goto (-34), 3) by decide +kernel) (by decide +kernel) ?_
      exact dc_sub [1, 2, 0] rfl (hl_54 (S19, (x2 + 1)) (dc_some h))
    rintro ⟨S, x2⟩ h
    have h : dc_wp (mm_react_b54 S x1 x2) F_54 := h
    delta mm_react_b54 at h
    refine dc_iloadn (pc := 54) (j := 2) (i := 2) hC 2 rfl rfl (show decode prog_15_method_76_code 54 = .ok (.iload_n 2, 1) by decide +kernel) ?_
    refine dc_aloadn (pc := 55) (j := 0) (i := 0) hC 0 rfl rfl (show decode prog_15_method_76_code 55 = .ok (.aload_n 0, 1) by decide +kernel) ?_
    refine md_g50 (pc := 56) hC (show decode prog_15_method_76_code 56 = .ok (.getfield 561, 3) by decide +kernel) ?_
    refine dc_icmp_ge (pc := 59) (tgt := 91) hC (show decode prog_15_method_76_code 59 = .ok (.if_icmp .ge 32, 3) by decide +kernel) (by decide +kernel) h ?_ ?_
    · intro h
      refine dc_aloadn (pc := 62) (j := 0) (i := 0) hC 0 rfl rfl (show decode prog_15_method_76_code 62 = .ok (.aload_n 0, 1) by decide +kernel) ?_
      refine md_g70 (pc := 63) hC (show decode prog_15_method_76_code 63 = .ok (.getfield 123, 3) by decide +kernel) ?_
      refine dc_iloadn (pc := 66) (j := 2) (i := 2) hC 2 rfl rfl (show decode prog_15_method_76_code 66 = .ok (.iload_n 2, 1) by decide +kernel) ?_
      refine dc_iloadn (pc := 67) (j := 2) (i := 2) hC 2 rfl rfl (show decode prog_15_method_76_code 67 = .ok (.iload_n 2, 1) by decide +kernel) ?_
      refine dc_aloadn (pc := 68) (j := 0) (i := 0) hC 0 rfl rfl (show decode prog_15_method_76_code 68 = .ok (.aload_n 0, 1) by decide +kernel) ?_
      refine md_g45 (pc := 69) hC (show decode prog_15_method_76_code 69 = .ok (.getfield 533, 3) by decide +kernel) ?_
      refine dc_icmp_ge (pc := 72) (tgt := 83) hC (show decode prog_15_method_76_code 72 = .ok (.if_icmp .ge 11, 3) by decide +kernel) (by decide +kernel) h ?_ ?_
      · intro h
        refine dc_iloadn (pc := 75) (j := 1) (i := 1) hC 1 rfl rfl (show decode prog_15_method_76_code 75 = .ok (.iload_n 1, 1) by decide +kernel) ?_
        refine dc_iloadn (pc := 76) (j := 2) (i := 2) hC 2 rfl rfl (show decode prog_15_method_76_code 76 = .ok (.iload_n 2, 1) by decide +kernel) ?_
        refine dc_ishr (pc := 77) hC (show decode prog_15_method_76_code 77 = .ok (.ishr, 1) by decide +kernel) ?_
        refine dc_iconst (pc := 78) (v := 1) hC (show decode prog_15_method_76_code 78 = .ok (.iconst 1, 1) by decide +kernel) (by decide +kernel) ?_
        refine dc_iand (pc := 79) hC (show decode prog_15_method_76_code 79 = .ok (.iand, 1) by decide +kernel) ?_
        refine dc_goto (pc := 80) (tgt := 84) hC (show decode prog_15_method_76_code 80 = .ok (.goto 4, 3) by decide +kernel) (by decide +kernel) ?_
        exact lab_84 S x2 ((x1 >>> (x2 &&& (31 : Int32))) &&& 1) x2 h
      · intro h
        refine dc_iconst (pc := 83) (v := 2) hC (show decode prog_15_method_76_code 83 = .ok (.iconst 2, 1) by decide +kernel) (by decide +kernel) ?_
        exact lab_84 S x2 2 x2 h
    · intro h
      have h : dc_wp (mm_react_L91 S) F := hr_54 S (dc_some h)
      exact dc_sub [0] rfl (lab_91 S h)
  have lab_54 : ∀ (S : md_S) (x1 : Int32) (x2 : Int32), dc_wp (mm_react_L54 S x1 x2) F → dc_G X l { frames := 603, cells := 0, slots := 0, locals := 16869 } D 5 0 0 (md_W o a ca S) 54 [(0, .ref o), (1, .int x1), (2, .int x2)] [] := fun S x1 x2 h => loop_54 x1 (S, x2) (dc_bind h)
  have lab_52 : ∀ (S : md_S) (x1 : Int32), dc_wp (mm_react_L52 S x1) F → dc_G X l { frames := 603, cells := 0, slots := 0, locals := 16869 } D 5 0 0 (md_W o a ca S) 52 [(0, .ref o), (1, .int x1)] [] := by
    intro S x1 h
    delta mm_react_L52 at h
    refine dc_iconst (pc := 52) (v := 0) hC (show decode prog_15_method_76_code 52 = .ok (.iconst 0, 1) by decide +kernel) (by decide +kernel) ?_
    refine dc_istoren (pc := 53) (j := 2) (i := 2) (lv' := [(2, .int 0), (0, .ref o), (1, .int x1)]) hC rfl (Nat.le_of_ble_eq_true rfl) rfl (show decode prog_15_method_76_code 53 = .ok (.istore_n 2, 1) by decide +kernel) ?_
    exact dc_sub [1, 2, 0] rfl (lab_54 S x1 0 h)
  have loop_9 : ∀ (x1 : Int32) (q : md_S × Int32), dc_wp (dc_it (mm_react_s9 x1) q) (fun z => dc_wp ((fun (z : md_S) => mm_react_L52 z x1) z) F) → dc_G X l { frames := 603, cells := 0, slots := 0, locals := 16869 } D 5 0 0 (md_W o a ca q.1) 9 [(0, .ref o), (1, .int x1), (2, .int q.2)] [] := by
    intro x1
    refine dc_loopF ?_
    intro F_9 hl_9 hr_9
    have lab_44 : ∀ (S : md_S) (x2 : Int32) (y0 : Int32) (y1 : Int32) (y2 : Int32), dc_wp (mm_react_L44 S x1 x2 y0 y1 y2) F_9 → dc_G X l { frames := 603, cells := 0, slots := 0, locals := 16869 } D 5 0 0 (md_W o a ca S) 44 [(0, .ref o), (1, .int x1), (2, .int x2)] [.int y0, .int y1, .int y2, .ref (a 76)] := by
      intro S x2 y0 y1 y2 h
      delta mm_react_L44 at h
      refine dc_iadd (pc := 44) hC (show decode prog_15_method_76_code 44 = .ok (.iadd, 1) by decide +kernel) ?_
      refine md_s76 (pc := 45) hC (show decode prog_15_method_76_code 45 = .ok (.iastore, 1) by decide +kernel) h ?_
      intro j20 h
      refine dc_letS h ?_
      intro S21 h
      refine dc_iinc (pc := 46) (i := 2) (v := (x2 + 1)) (lv' := [(2, .int (x2 + 1)), (0, .ref o), (1, .int x1)]) hC 2 rfl rfl (Nat.le_of_ble_eq_true rfl) rfl (show decode prog_15_method_76_code 46 = .ok (.iinc 2 1, 3) by decide +kernel) ?_
      refine dc_goto (pc := 49) (tgt := 9) hC (show decode prog_15_method_76_code 49 = .ok (.goto (-40), 3) by decide +kernel) (by decide +kernel) ?_
      exact dc_sub [1, 2, 0] rfl (hl_9 (S21, (x2 + 1)) (dc_some h))
    rintro ⟨S, x2⟩ h
    have h : dc_wp (mm_react_b9 S x1 x2) F_9 := h
    delta mm_react_b9 at h
    refine dc_iloadn (pc := 9) (j := 2) (i := 2) hC 2 rfl rfl (show decode prog_15_method_76_code 9 = .ok (.iload_n 2, 1) by decide +kernel) ?_
    refine dc_aloadn (pc := 10) (j := 0) (i := 0) hC 0 rfl rfl (show decode prog_15_method_76_code 10 = .ok (.aload_n 0, 1) by decide +kernel) ?_
    refine md_g47 (pc := 11) hC (show decode prog_15_method_76_code 11 = .ok (.getfield 498, 3) by decide +kernel) ?_
    refine dc_icmp_ge (pc := 14) (tgt := 52) hC (show decode prog_15_method_76_code 14 = .ok (.if_icmp .ge 38, 3) by decide +kernel) (by decide +kernel) h ?_ ?_
    · intro h
      refine dc_aloadn (pc := 17) (j := 0) (i := 0) hC 0 rfl rfl (show decode prog_15_method_76_code 17 = .ok (.aload_n 0, 1) by decide +kernel) ?_
      refine md_g76 (pc := 18) hC (show decode prog_15_method_76_code 18 = .ok (.getfield 142, 3) by decide +kernel) ?_
      refine dc_iloadn (pc := 21) (j := 2) (i := 2) hC 2 rfl rfl (show decode prog_15_method_76_code 21 = .ok (.iload_n 2, 1) by decide +kernel) ?_
      refine dc_iconst (pc := 22) (v := 1) hC (show decode prog_15_method_76_code 22 = .ok (.iconst 1, 1) by decide +kernel) (by decide +kernel) ?_
      refine dc_iadd (pc := 23) hC (show decode prog_15_method_76_code 23 = .ok (.iadd, 1) by decide +kernel) ?_
      refine dc_aloadn (pc := 24) (j := 0) (i := 0) hC 0 rfl rfl (show decode prog_15_method_76_code 24 = .ok (.aload_n 0, 1) by decide +kernel) ?_
      refine md_g76 (pc := 25) hC (show decode prog_15_method_76_code 25 = .ok (.getfield 142, 3) by decide +kernel) ?_
      refine dc_iloadn (pc := 28) (j := 2) (i := 2) hC 2 rfl rfl (show decode prog_15_method_76_code 28 = .ok (.iload_n 2, 1) by decide +kernel) ?_
      refine md_l76 (pc := 29) hC (show decode prog_15_method_76_code 29 = .ok (.iaload, 1) by decide +kernel) h ?_
      intro j22 h
      refine dc_aloadn (pc := 30) (j := 0) (i := 0) hC 0 rfl rfl (show decode prog_15_method_76_code 30 = .ok (.aload_n 0, 1) by decide +kernel) ?_
      refine md_g74 (pc := 31) hC (show decode prog_15_method_76_code 31 = .ok (.getfield 136, 3) by decide +kernel) ?_
      refine dc_iloadn (pc := 34) (j := 2) (i := 2) hC 2 rfl rfl (show decode prog_15_method_76_code 34 = .ok (.iload_n 2, 1) by decide +kernel) ?_
      refine md_l74 (pc := 35) hC (show decode prog_15_method_76_code 35 = .ok (.baload, 1) by decide +kernel) h ?_
      intro j23 h
      refine dc_if_eq (pc := 36) (tgt := 43) hC (show decode prog_15_method_76_code 36 = .ok (.ifCond .eq 7, 3) by decide +kernel) (by decide +kernel) h ?_ ?_
      · intro h
        refine dc_iconst (pc := 43) (v := 0) hC (show decode prog_15_method_76_code 43 = .ok (.iconst 0, 1) by decide +kernel) (by decide +kernel) ?_
        exact lab_44 S x2 0 (S.2.1 76 j22) (x2 + 1) h
      · intro h
        refine dc_iconst (pc := 39) (v := 1) hC (show decode prog_15_method_76_code 39 = .ok (.iconst 1, 1) by decide +kernel) (by decide +kernel) ?_
        refine dc_goto (pc := 40) (tgt := 44) hC (show decode prog_15_method_76_code 40 = .ok (.goto 4, 3) by decide +kernel) (by decide +kernel) ?_
        exact lab_44 S x2 1 (S.2.1 76 j22) (x2 + 1) h
    · intro h
      have h : dc_wp (mm_react_L52 S x1) F := hr_9 S (dc_some h)
      exact dc_sub [0, 1] rfl (lab_52 S x1 h)
  have lab_9 : ∀ (S : md_S) (x1 : Int32) (x2 : Int32), dc_wp (mm_react_L9 S x1 x2) F → dc_G X l { frames := 603, cells := 0, slots := 0, locals := 16869 } D 5 0 0 (md_W o a ca S) 9 [(0, .ref o), (1, .int x1), (2, .int x2)] [] := fun S x1 x2 h => loop_9 x1 (S, x2) (dc_bind h)
  show dc_G X l { frames := 603, cells := 0, slots := 0, locals := 16869 } D 5 0 0 (md_W o a ca S) 0 [(0, .ref o), (1, .int p1)] []
  delta mm_react at h
  refine dc_aloadn (pc := 0) (j := 0) (i := 0) hC 0 rfl rfl (show decode prog_15_method_76_code 0 = .ok (.aload_n 0, 1) by decide +kernel) ?_
  refine md_g76 (pc := 1) hC (show decode prog_15_method_76_code 1 = .ok (.getfield 142, 3) by decide +kernel) ?_
  refine dc_iconst (pc := 4) (v := 0) hC (show decode prog_15_method_76_code 4 = .ok (.iconst 0, 1) by decide +kernel) (by decide +kernel) ?_
  refine dc_iconst (pc := 5) (v := 0) hC (show decode prog_15_method_76_code 5 = .ok (.iconst 0, 1) by decide +kernel) (by decide +kernel) ?_
  refine md_s76 (pc := 6) hC (show decode prog_15_method_76_code 6 = .ok (.iastore, 1) by decide +kernel) h ?_
  intro j24 h
  refine dc_letS h ?_
  intro S25 h
  refine dc_iconst (pc := 7) (v := 0) hC (show decode prog_15_method_76_code 7 = .ok (.iconst 0, 1) by decide +kernel) (by decide +kernel) ?_
  refine dc_istoren (pc := 8) (j := 2) (i := 2) (lv' := [(2, .int 0), (0, .ref o), (1, .int p1)]) hC rfl (Nat.le_of_ble_eq_true rfl) rfl (show decode prog_15_method_76_code 8 = .ok (.istore_n 2, 1) by decide +kernel) ?_
  exact dc_sub [1, 2, 0] rfl (lab_9 S25 p1 0 h)
noncomputable def mm_instant_L183 (S : md_S) (y0 : Int32) : Option (md_S × Int32) :=
  some (S, y0)
noncomputable def mm_instant_L170 (S : md_S) (x3 : Int32) (y0 : Int32) : Option (md_S × Int32) :=
  dc_let (md_i S 82 y0) fun S1 => if x3 = 1 then (mm_instant_L183 S1 0) else (mm_instant_L183 S1 1)
noncomputable def mm_instant_L159 (S : md_S) (x3 : Int32) : Option (md_S × Int32) :=
  if x3 = 1 then (mm_instant_L170 S x3 1) else (mm_instant_L170 S x3 2)
noncomputable def mm_instant_L152 (S : md_S) (x3 : Int32) (x4 : Int32) (y0 : Int32) (y1 : Int32) : Option ((md_S × Int32) ⊕ ((md_S))) :=
  (dc_zb y0).bind fun _ => (dc_ix y1 200).bind fun j3 => dc_let (md_a S 74 j3 y0) fun S4 => some (.inl (S4, (x4 + 1)))
noncomputable def mm_instant_L151 (S : md_S) (x3 : Int32) (x4 : Int32) (y0 : Int32) : Option ((md_S × Int32) ⊕ ((md_S))) :=
  mm_instant_L152 S x3 x4 0 y0
noncomputable def mm_instant_b117 (S : md_S) (x3 : Int32) (x4 : Int32) : Option ((md_S × Int32) ⊕ ((md_S))) :=
  if x4 < (S.1 47) then (if x3 = 1 then ((dc_ix x4 200).bind fun j5 => if (S.2.1 75 j5) = 0 then (mm_instant_L151 S x3 x4 x4) else (mm_instant_L152 S x3 x4 1 x4)) else (mm_instant_L151 S x3 x4 x4)) else (some (.inr S))
noncomputable def mm_instant_s117 (x3 : Int32) (q : md_S × Int32) : Option ((md_S × Int32) ⊕ ((md_S))) :=
  mm_instant_b117 q.1 x3 q.2
noncomputable def mm_instant_L117 (S : md_S) (x3 : Int32) (x4 : Int32) : Option (md_S × Int32) :=
  (dc_it (mm_instant_s117 x3) (S, x4)).bind (fun (z : md_S) => mm_instant_L159 z x3)
noncomputable def mm_instant_L92 (S : md_S) (x3 : Int32) : Option (md_S × Int32) :=
  if x3 = (-1) then (some (S, 2)) else (dc_let (md_i S 83 ((S.1 83) + 1)) fun S6 => dc_let (md_i S6 77 0) fun S7 => mm_instant_L117 S7 x3 0)
noncomputable def mm_instant_b58 (S : md_S) (x3 : Int32) (x4 : Int32) : Option ((md_S × Int32) ⊕ ((md_S))) :=
  if x4 < ((S.1 45) + (S.1 46)) then ((dc_ix x4 1662).bind fun j8 => (dc_ix x4 62).bind fun j9 => dc_let (md_a S 84 j9 (S.2.1 70 j8)) fun S10 => some (.inl (S10, (x4 + 1)))) else (some (.inr S))
noncomputable def mm_instant_s58 (x3 : Int32) (q : md_S × Int32) : Option ((md_S × Int32) ⊕ ((md_S))) :=
  mm_instant_b58 q.1 x3 q.2
noncomputable def mm_instant_L58 (S : md_S) (x3 : Int32) (x4 : Int32) : Option (md_S × Int32) :=
  (dc_it (mm_instant_s58 x3) (S, x4)).bind (fun (z : md_S) => mm_instant_L92 z x3)
noncomputable def mm_instant_L41 (S : md_S) (x1 : Int32) (y0 : Int32) (y1 : Int32) : Option (md_S × Int32) :=
  (mm_fails S y1 y0).bind fun q11 => if q11.2 = 0 then ((mm_react q11.1 x1).bind fun q12 => mm_instant_L58 q12.1 q12.2 0) else (some (q11.1, 0))
noncomputable def mm_instant_L40 (S : md_S) (x1 : Int32) (y0 : Int32) : Option (md_S × Int32) :=
  mm_instant_L41 S x1 0 y0
noncomputable def mm_instant_L24 (S : md_S) (x1 : Int32) (x2 : Int32) (y0 : Int32) : Option (md_S × Int32) :=
  if x2 = 0 then (mm_instant_L40 S x1 y0) else ((mm_isInput S x1).bind fun q13 => if q13 = 0 then (mm_instant_L41 S x1 1 y0) else (mm_instant_L40 S x1 y0))
noncomputable def mm_instant_L13 (S : md_S) (x1 : Int32) (y0 : Int32) : Option (md_S × Int32) :=
  if y0 = 0 then (mm_instant_L24 S x1 y0 1) else (mm_instant_L24 S x1 y0 0)
noncomputable def mm_instant (S : md_S) (p1 : Int32) : Option (md_S × Int32) :=
  if (S.1 82) = 1 then (mm_instant_L13 S p1 1) else (mm_instant_L13 S p1 0)
set_option maxHeartbeats 4000000 in
set_option maxRecDepth 100000 in
/-- instant(I)I -/
theorem mm_instant_ok (l : Launch) (D : va_G) (ad : Nat → Nat) (de : Nat) (o : Nat) (a : Nat → Nat) (ca : Nat → ClassId) (S : md_S) (p1 : Int32) (F : (md_S × Int32) → Prop) (h : dc_wp (mm_instant S p1) F) : dc_Ci l ⟨"SignalEngineModel", "instant", "(I)I"⟩ prog_15_method_81_code 5 (some (.int)) 604 16893 D (md_T ca) ad de [.ref o, .int p1] (md_W o a ca S) (fun r w => ∃ q, F q ∧ r = q.2 ∧ w = md_W o a ca q.1) 0 0 := by
  refine dc_enteri (by decide +kernel) (Nat.le_of_ble_eq_true rfl) ?_
  intro X hC hR
  have lab_183 : ∀ (S : md_S) (y0 : Int32), dc_wp (mm_instant_L183 S y0) F → dc_G X l { frames := 604, cells := 0, slots := 0, locals := 16893 } D 5 0 0 (md_W o a ca S) 183 [(0, .ref o)] [.int y0] := by
    intro S y0 h
    delta mm_instant_L183 at h
    exact dc_iret (pc := 183) hC hR ⟨_, dc_some h, rfl, rfl⟩ (show decode prog_15_method_81_code 183 = .ok (.ireturn, 1) by decide +kernel)
  have lab_170 : ∀ (S : md_S) (x3 : Int32) (y0 : Int32), dc_wp (mm_instant_L170 S x3 y0) F → dc_G X l { frames := 604, cells := 0, slots := 0, locals := 16893 } D 5 0 0 (md_W o a ca S) 170 [(0, .ref o), (3, .int x3)] [.int y0, .ref o] := by
    intro S x3 y0 h
    delta mm_instant_L170 at h
    refine md_p82 (pc := 170) hC (show decode prog_15_method_81_code 170 = .ok (.putfield 545, 3) by decide +kernel) ?_
    refine dc_letS h ?_
    intro S1 h
    refine dc_iloadn (pc := 173) (j := 3) (i := 3) hC 1 rfl rfl (show decode prog_15_method_81_code 173 = .ok (.iload_n 3, 1) by decide +kernel) ?_
    refine dc_iconst (pc := 174) (v := 1) hC (show decode prog_15_method_81_code 174 = .ok (.iconst 1, 1) by decide +kernel) (by decide +kernel) ?_
    refine dc_icmp_ne (pc := 175) (tgt := 182) hC (show decode prog_15_method_81_code 175 = .ok (.if_icmp .ne 7, 3) by decide +kernel) (by decide +kernel) h ?_ ?_
    · intro h
      refine dc_iconst (pc := 178) (v := 0) hC (show decode prog_15_method_81_code 178 = .ok (.iconst 0, 1) by decide +kernel) (by decide +kernel) ?_
      refine dc_goto (pc := 179) (tgt := 183) hC (show decode prog_15_method_81_code 179 = .ok (.goto 4, 3) by decide +kernel) (by decide +kernel) ?_
      exact dc_sub [0] rfl (lab_183 S1 0 h)
    · intro h
      refine dc_iconst (pc := 182) (v := 1) hC (show decode prog_15_method_81_code 182 = .ok (.iconst 1, 1) by decide +kernel) (by decide +kernel) ?_
      exact dc_sub [0] rfl (lab_183 S1 1 h)
  have lab_159 : ∀ (S : md_S) (x3 : Int32), dc_wp (mm_instant_L159 S x3) F → dc_G X l { frames := 604, cells := 0, slots := 0, locals := 16893 } D 5 0 0 (md_W o a ca S) 159 [(0, .ref o), (3, .int x3)] [] := by
    intro S x3 h
    delta mm_instant_L159 at h
    refine dc_aloadn (pc := 159) (j := 0) (i := 0) hC 0 rfl rfl (show decode prog_15_method_81_code 159 = .ok (.aload_n 0, 1) by decide +kernel) ?_
    refine dc_iloadn (pc := 160) (j := 3) (i := 3) hC 1 rfl rfl (show decode prog_15_method_81_code 160 = .ok (.iload_n 3, 1) by decide +kernel) ?_
    refine dc_iconst (pc := 161) (v := 1) hC (show decode prog_15_method_81_code 161 = .ok (.iconst 1, 1) by decide +kernel) (by decide +kernel) ?_
    refine dc_icmp_ne (pc := 162) (tgt := 169) hC (show decode prog_15_method_81_code 162 = .ok (.if_icmp .ne 7, 3) by decide +kernel) (by decide +kernel) h ?_ ?_
    · intro h
      refine dc_iconst (pc := 165) (v := 1) hC (show decode prog_15_method_81_code 165 = .ok (.iconst 1, 1) by decide +kernel) (by decide +kernel) ?_
      refine dc_goto (pc := 166) (tgt := 170) hC (show decode prog_15_method_81_code 166 = .ok (.goto 4, 3) by decide +kernel) (by decide +kernel) ?_
      exact lab_170 S x3 1 h
    · intro h
      refine dc_iconst (pc := 169) (v := 2) hC (show decode prog_15_method_81_code 169 = .ok (.iconst 2, 1) by decide +kernel) (by decide +kernel) ?_
      exact lab_170 S x3 2 h
  have loop_117 : ∀ (x3 : Int32) (q : md_S × Int32), dc_wp (dc_it (mm_instant_s117 x3) q) (fun z => dc_wp ((fun (z : md_S) => mm_instant_L159 z x3) z) F) → dc_G X l { frames := 604, cells := 0, slots := 0, locals := 16893 } D 5 0 0 (md_W o a ca q.1) 117 [(0, .ref o), (3, .int x3), (4, .int q.2)] [] := by
    intro x3
    refine dc_loopF ?_
    intro F_117 hl_117 hr_117
    have lab_152 : ∀ (S : md_S) (x4 : Int32) (y0 : Int32) (y1 : Int32), dc_wp (mm_instant_L152 S x3 x4 y0 y1) F_117 → dc_G X l { frames := 604, cells := 0, slots := 0, locals := 16893 } D 5 0 0 (md_W o a ca S) 152 [(0, .ref o), (3, .int x3), (4, .int x4)] [.int y0, .int y1, .ref (a 74)] := by
      intro S x4 y0 y1 h
      delta mm_instant_L152 at h
      obtain ⟨hz2, h⟩ := dc_zb_wp (dc_bind h)
      refine md_s74 (pc := 152) hC hz2 (show decode prog_15_method_81_code 152 = .ok (.bastore, 1) by decide +kernel) h ?_
      intro j3 h
      refine dc_letS h ?_
      intro S4 h
      refine dc_iinc (pc := 153) (i := 4) (v := (x4 + 1)) (lv' := [(4, .int (x4 + 1)), (0, .ref o), (3, .int x3)]) hC 2 rfl rfl (Nat.le_of_ble_eq_true rfl) rfl (show decode prog_15_method_81_code 153 = .ok (.iinc 4 1, 3) by decide +kernel) ?_
      refine dc_goto (pc := 156) (tgt := 117) hC (show decode prog_15_method_81_code 156 = .ok (.goto (-39), 3) by decide +kernel) (by decide +kernel) ?_
      exact dc_sub [1, 2, 0] rfl (hl_117 (S4, (x4 + 1)) (dc_some h))
    have lab_151 : ∀ (S : md_S) (x4 : Int32) (y0 : Int32), dc_wp (mm_instant_L151 S x3 x4 y0) F_117 → dc_G X l { frames := 604, cells := 0, slots := 0, locals := 16893 } D 5 0 0 (md_W o a ca S) 151 [(0, .ref o), (3, .int x3), (4, .int x4)] [.int y0, .ref (a 74)] := by
      intro S x4 y0 h
      delta mm_instant_L151 at h
      refine dc_iconst (pc := 151) (v := 0) hC (show decode prog_15_method_81_code 151 = .ok (.iconst 0, 1) by decide +kernel) (by decide +kernel) ?_
      exact lab_152 S x4 0 y0 h
    rintro ⟨S, x4⟩ h
    have h : dc_wp (mm_instant_b117 S x3 x4) F_117 := h
    delta mm_instant_b117 at h
    refine dc_iload (pc := 117) (i := 4) hC 2 rfl (show decode prog_15_method_81_code 117 = .ok (.iload 4, 2) by decide +kernel) ?_
    refine dc_aloadn (pc := 119) (j := 0) (i := 0) hC 0 rfl rfl (show decode prog_15_method_81_code 119 = .ok (.aload_n 0, 1) by decide +kernel) ?_
    refine md_g47 (pc := 120) hC (show decode prog_15_method_81_code 120 = .ok (.getfield 498, 3) by decide +kernel) ?_
    refine dc_icmp_ge (pc := 123) (tgt := 159) hC (show decode prog_15_method_81_code 123 = .ok (.if_icmp .ge 36, 3) by decide +kernel) (by decide +kernel) h ?_ ?_
    · intro h
      refine dc_aloadn (pc := 126) (j := 0) (i := 0) hC 0 rfl rfl (show decode prog_15_method_81_code 126 = .ok (.aload_n 0, 1) by decide +kernel) ?_
      refine md_g74 (pc := 127) hC (show decode prog_15_method_81_code 127 = .ok (.getfield 136, 3) by decide +kernel) ?_
      refine dc_iload (pc := 130) (i := 4) hC 2 rfl (show decode prog_15_method_81_code 130 = .ok (.iload 4, 2) by decide +kernel) ?_
      refine dc_iloadn (pc := 132) (j := 3) (i := 3) hC 1 rfl rfl (show decode prog_15_method_81_code 132 = .ok (.iload_n 3, 1) by decide +kernel) ?_
      refine dc_iconst (pc := 133) (v := 1) hC (show decode prog_15_method_81_code 133 = .ok (.iconst 1, 1) by decide +kernel) (by decide +kernel) ?_
      refine dc_icmp_ne (pc := 134) (tgt := 151) hC (show decode prog_15_method_81_code 134 = .ok (.if_icmp .ne 17, 3) by decide +kernel) (by decide +kernel) h ?_ ?_
      · intro h
        refine dc_aloadn (pc := 137) (j := 0) (i := 0) hC 0 rfl rfl (show decode prog_15_method_81_code 137 = .ok (.aload_n 0, 1) by decide +kernel) ?_
        refine md_g75 (pc := 138) hC (show decode prog_15_method_81_code 138 = .ok (.getfield 139, 3) by decide +kernel) ?_
        refine dc_iload (pc := 141) (i := 4) hC 2 rfl (show decode prog_15_method_81_code 141 = .ok (.iload 4, 2) by decide +kernel) ?_
        refine md_l75 (pc := 143) hC (show decode prog_15_method_81_code 143 = .ok (.baload, 1) by decide +kernel) h ?_
        intro j5 h
        refine dc_if_eq (pc := 144) (tgt := 151) hC (show decode prog_15_method_81_code 144 = .ok (.ifCond .eq 7, 3) by decide +kernel) (by decide +kernel) h ?_ ?_
        · intro h
          exact lab_151 S x4 x4 h
        · intro h
          refine dc_iconst (pc := 147) (v := 1) hC (show decode prog_15_method_81_code 147 = .ok (.iconst 1, 1) by decide +kernel) (by decide +kernel) ?_
          refine dc_goto (pc := 148) (tgt := 152) hC (show decode prog_15_method_81_code 148 = .ok (.goto 4, 3) by decide +kernel) (by decide +kernel) ?_
          exact lab_152 S x4 1 x4 h
      · intro h
        exact lab_151 S x4 x4 h
    · intro h
      have h : dc_wp (mm_instant_L159 S x3) F := hr_117 S (dc_some h)
      exact dc_sub [0, 1] rfl (lab_159 S x3 h)
  have lab_117 : ∀ (S : md_S) (x3 : Int32) (x4 : Int32), dc_wp (mm_instant_L117 S x3 x4) F → dc_G X l { frames := 604, cells := 0, slots := 0, locals := 16893 } D 5 0 0 (md_W o a ca S) 117 [(0, .ref o), (3, .int x3), (4, .int x4)] [] := fun S x3 x4 h => loop_117 x3 (S, x4) (dc_bind h)
  have lab_92 : ∀ (S : md_S) (x3 : Int32), dc_wp (mm_instant_L92 S x3) F → dc_G X l { frames := 604, cells := 0, slots := 0, locals := 16893 } D 5 0 0 (md_W o a ca S) 92 [(0, .ref o), (3, .int x3)] [] := by
    intro S x3 h
    delta mm_instant_L92 at h
    refine dc_iloadn (pc := 92) (j := 3) (i := 3) hC 1 rfl rfl (show decode prog_15_method_81_code 92 = .ok (.iload_n 3, 1) by decide +kernel) ?_
    refine dc_iconst (pc := 93) (v := (-1)) hC (show decode prog_15_method_81_code 93 = .ok (.iconst (-1), 1) by decide +kernel) (by decide +kernel) ?_
    refine dc_icmp_ne (pc := 94) (tgt := 99) hC (show decode prog_15_method_81_code 94 = .ok (.if_icmp .ne 5, 3) by decide +kernel) (by decide +kernel) h ?_ ?_
    · intro h
      refine dc_iconst (pc := 97) (v := 2) hC (show decode prog_15_method_81_code 97 = .ok (.iconst 2, 1) by decide +kernel) (by decide +kernel) ?_
      exact dc_iret (pc := 98) hC hR ⟨_, dc_some h, rfl, rfl⟩ (show decode prog_15_method_81_code 98 = .ok (.ireturn, 1) by decide +kernel)
    · intro h
      refine dc_aloadn (pc := 99) (j := 0) (i := 0) hC 0 rfl rfl (show decode prog_15_method_81_code 99 = .ok (.aload_n 0, 1) by decide +kernel) ?_
      refine dc_dup (pc := 100) hC (show decode prog_15_method_81_code 100 = .ok (.dup, 1) by decide +kernel) rfl ?_
      refine md_g83 (pc := 101) hC (show decode prog_15_method_81_code 101 = .ok (.getfield 542, 3) by decide +kernel) ?_
      refine dc_iconst (pc := 104) (v := 1) hC (show decode prog_15_method_81_code 104 = .ok (.iconst 1, 1) by decide +kernel) (by decide +kernel) ?_
      refine dc_iadd (pc := 105) hC (show decode prog_15_method_81_code 105 = .ok (.iadd, 1) by decide +kernel) ?_
      refine md_p83 (pc := 106) hC (show decode prog_15_method_81_code 106 = .ok (.putfield 542, 3) by decide +kernel) ?_
      refine dc_letS h ?_
      intro S6 h
      refine dc_aloadn (pc := 109) (j := 0) (i := 0) hC 0 rfl rfl (show decode prog_15_method_81_code 109 = .ok (.aload_n 0, 1) by decide +kernel) ?_
      refine dc_iconst (pc := 110) (v := 0) hC (show decode prog_15_method_81_code 110 = .ok (.iconst 0, 1) by decide +kernel) (by decide +kernel) ?_
      refine md_p77 (pc := 111) hC (Or.inl rfl) (show decode prog_15_method_81_code 111 = .ok (.putfield 513, 3) by decide +kernel) ?_
      refine dc_letS h ?_
      intro S7 h
      refine dc_iconst (pc := 114) (v := 0) hC (show decode prog_15_method_81_code 114 = .ok (.iconst 0, 1) by decide +kernel) (by decide +kernel) ?_
      refine dc_istore (pc := 115) (i := 4) (lv' := [(4, .int 0), (0, .ref o), (3, .int x3)]) hC (Nat.le_of_ble_eq_true rfl) rfl (show decode prog_15_method_81_code 115 = .ok (.istore 4, 2) by decide +kernel) ?_
      exact dc_sub [1, 2, 0] rfl (lab_117 S7 x3 0 h)
  have loop_58 : ∀ (x3 : Int32) (q : md_S × Int32), dc_wp (dc_it (mm_instant_s58 x3) q) (fun z => dc_wp ((fun (z : md_S) => mm_instant_L92 z x3) z) F) → dc_G X l { frames := 604, cells := 0, slots := 0, locals := 16893 } D 5 0 0 (md_W o a ca q.1) 58 [(0, .ref o), (3, .int x3), (4, .int q.2)] [] := by
    intro x3
    refine dc_loopF ?_
    intro F_58 hl_58 hr_58
    rintro ⟨S, x4⟩ h
    have h : dc_wp (mm_instant_b58 S x3 x4) F_58 := h
    delta mm_instant_b58 at h
    refine dc_iload (pc := 58) (i := 4) hC 2 rfl (show decode prog_15_method_81_code 58 = .ok (.iload 4, 2) by decide +kernel) ?_
    refine dc_aloadn (pc := 60) (j := 0) (i := 0) hC 0 rfl rfl (show decode prog_15_method_81_code 60 = .ok (.aload_n 0, 1) by decide +kernel) ?_
    refine md_g45 (pc := 61) hC (show decode prog_15_method_81_code 61 = .ok (.getfield 533, 3) by decide +kernel) ?_
    refine dc_aloadn (pc := 64) (j := 0) (i := 0) hC 0 rfl rfl (show decode prog_15_method_81_code 64 = .ok (.aload_n 0, 1) by decide +kernel) ?_
    refine md_g46 (pc := 65) hC (show decode prog_15_method_81_code 65 = .ok (.getfield 530, 3) by decide +kernel) ?_
    refine dc_iadd (pc := 68) hC (show decode prog_15_method_81_code 68 = .ok (.iadd, 1) by decide +kernel) ?_
    refine dc_icmp_ge (pc := 69) (tgt := 92) hC (show decode prog_15_method_81_code 69 = .ok (.if_icmp .ge 23, 3) by decide +kernel) (by decide +kernel) h ?_ ?_
    · intro h
      refine dc_aloadn (pc := 72) (j := 0) (i := 0) hC 0 rfl rfl (show decode prog_15_method_81_code 72 = .ok (.aload_n 0, 1) by decide +kernel) ?_
      refine md_g84 (pc := 73) hC (show decode prog_15_method_81_code 73 = .ok (.getfield 145, 3) by decide +kernel) ?_
      refine dc_iload (pc := 76) (i := 4) hC 2 rfl (show decode prog_15_method_81_code 76 = .ok (.iload 4, 2) by decide +kernel) ?_
      refine dc_aloadn (pc := 78) (j := 0) (i := 0) hC 0 rfl rfl (show decode prog_15_method_81_code 78 = .ok (.aload_n 0, 1) by decide +kernel) ?_
      refine md_g70 (pc := 79) hC (show decode prog_15_method_81_code 79 = .ok (.getfield 123, 3) by decide +kernel) ?_
      refine dc_iload (pc := 82) (i := 4) hC 2 rfl (show decode prog_15_method_81_code 82 = .ok (.iload 4, 2) by decide +kernel) ?_
      refine md_l70 (pc := 84) hC (show decode prog_15_method_81_code 84 = .ok (.iaload, 1) by decide +kernel) h ?_
      intro j8 h
      refine md_s84 (pc := 85) hC (show decode prog_15_method_81_code 85 = .ok (.iastore, 1) by decide +kernel) h ?_
      intro j9 h
      refine dc_letS h ?_
      intro S10 h
      refine dc_iinc (pc := 86) (i := 4) (v := (x4 + 1)) (lv' := [(4, .int (x4 + 1)), (0, .ref o), (3, .int x3)]) hC 2 rfl rfl (Nat.le_of_ble_eq_true rfl) rfl (show decode prog_15_method_81_code 86 = .ok (.iinc 4 1, 3) by decide +kernel) ?_
      refine dc_goto (pc := 89) (tgt := 58) hC (show decode prog_15_method_81_code 89 = .ok (.goto (-31), 3) by decide +kernel) (by decide +kernel) ?_
      exact dc_sub [1, 2, 0] rfl (hl_58 (S10, (x4 + 1)) (dc_some h))
    · intro h
      have h : dc_wp (mm_instant_L92 S x3) F := hr_58 S (dc_some h)
      exact dc_sub [0, 1] rfl (lab_92 S x3 h)
  have lab_58 : ∀ (S : md_S) (x3 : Int32) (x4 : Int32), dc_wp (mm_instant_L58 S x3 x4) F → dc_G X l { frames := 604, cells := 0, slots := 0, locals := 16893 } D 5 0 0 (md_W o a ca S) 58 [(0, .ref o), (3, .int x3), (4, .int x4)] [] := fun S x3 x4 h => loop_58 x3 (S, x4) (dc_bind h)
  have lab_41 : ∀ (S : md_S) (x1 : Int32) (y0 : Int32) (y1 : Int32), dc_wp (mm_instant_L41 S x1 y0 y1) F → dc_G X l { frames := 604, cells := 0, slots := 0, locals := 16893 } D 5 0 0 (md_W o a ca S) 41 [(0, .ref o), (1, .int x1)] [.int y0, .int y1, .ref o] := by
    intro S x1 y0 y1 h
    delta mm_instant_L41 at h
    refine mc_Vmi (pc := 41) (As := [.int y1, .int y0]) (rest := []) hC vw_fails_615 (mm_fails_ok l D ad de o a ca S y1 y0) (Nat.le_of_ble_eq_true rfl) (Nat.le_of_ble_eq_true rfl) rfl (Nat.le_of_ble_eq_true rfl) (show decode prog_15_method_81_code 41 = .ok (.invokevirtual 615, 3) by decide +kernel) h ?_
    intro q11 h
    refine dc_if_eq (pc := 44) (tgt := 49) hC (show decode prog_15_method_81_code 44 = .ok (.ifCond .eq 5, 3) by decide +kernel) (by decide +kernel) h ?_ ?_
    · intro h
      refine dc_aloadn (pc := 49) (j := 0) (i := 0) hC 0 rfl rfl (show decode prog_15_method_81_code 49 = .ok (.aload_n 0, 1) by decide +kernel) ?_
      refine dc_iloadn (pc := 50) (j := 1) (i := 1) hC 1 rfl rfl (show decode prog_15_method_81_code 50 = .ok (.iload_n 1, 1) by decide +kernel) ?_
      refine mc_Vmi (pc := 51) (As := [.int x1]) (rest := []) hC vw_react_628 (mm_react_ok l D ad de o a ca q11.1 x1) (Nat.le_of_ble_eq_true rfl) (Nat.le_of_ble_eq_true rfl) rfl (Nat.le_of_ble_eq_true rfl) (show decode prog_15_method_81_code 51 = .ok (.invokevirtual 628, 3) by decide +kernel) h ?_
      intro q12 h
      refine dc_istoren (pc := 54) (j := 3) (i := 3) (lv' := [(3, .int q12.2), (0, .ref o), (1, .int x1)]) hC rfl (Nat.le_of_ble_eq_true rfl) rfl (show decode prog_15_method_81_code 54 = .ok (.istore_n 3, 1) by decide +kernel) ?_
      refine dc_iconst (pc := 55) (v := 0) hC (show decode prog_15_method_81_code 55 = .ok (.iconst 0, 1) by decide +kernel) (by decide +kernel) ?_
      refine dc_istore (pc := 56) (i := 4) (lv' := [(4, .int 0), (3, .int q12.2), (0, .ref o), (1, .int x1)]) hC (Nat.le_of_ble_eq_true rfl) rfl (show decode prog_15_method_81_code 56 = .ok (.istore 4, 2) by decide +kernel) ?_
      exact dc_sub [2, 1, 0] rfl (lab_58 q12.1 q12.2 0 h)
    · intro h
      refine dc_iconst (pc := 47) (v := 0) hC (show decode prog_15_method_81_code 47 = .ok (.iconst 0, 1) by decide +kernel) (by decide +kernel) ?_
      exact dc_iret (pc := 48) hC hR ⟨_, dc_some h, rfl, rfl⟩ (show decode prog_15_method_81_code 48 = .ok (.ireturn, 1) by decide +kernel)
  have lab_40 : ∀ (S : md_S) (x1 : Int32) (y0 : Int32), dc_wp (mm_instant_L40 S x1 y0) F → dc_G X l { frames := 604, cells := 0, slots := 0, locals := 16893 } D 5 0 0 (md_W o a ca S) 40 [(0, .ref o), (1, .int x1)] [.int y0, .ref o] := by
    intro S x1 y0 h
    delta mm_instant_L40 at h
    refine dc_iconst (pc := 40) (v := 0) hC (show decode prog_15_method_81_code 40 = .ok (.iconst 0, 1) by decide +kernel) (by decide +kernel) ?_
    exact lab_41 S x1 0 y0 h
  have lab_24 : ∀ (S : md_S) (x1 : Int32) (x2 : Int32) (y0 : Int32), dc_wp (mm_instant_L24 S x1 x2 y0) F → dc_G X l { frames := 604, cells := 0, slots := 0, locals := 16893 } D 5 0 0 (md_W o a ca S) 24 [(0, .ref o), (1, .int x1), (2, .int x2)] [.int y0, .ref o] := by
    intro S x1 x2 y0 h
    delta mm_instant_L24 at h
    refine dc_iloadn (pc := 24) (j := 2) (i := 2) hC 2 rfl rfl (show decode prog_15_method_81_code 24 = .ok (.iload_n 2, 1) by decide +kernel) ?_
    refine dc_if_eq (pc := 25) (tgt := 40) hC (show decode prog_15_method_81_code 25 = .ok (.ifCond .eq 15, 3) by decide +kernel) (by decide +kernel) h ?_ ?_
    · intro h
      exact dc_sub [0, 1] rfl (lab_40 S x1 y0 h)
    · intro h
      refine dc_aloadn (pc := 28) (j := 0) (i := 0) hC 0 rfl rfl (show decode prog_15_method_81_code 28 = .ok (.aload_n 0, 1) by decide +kernel) ?_
      refine dc_iloadn (pc := 29) (j := 1) (i := 1) hC 1 rfl rfl (show decode prog_15_method_81_code 29 = .ok (.iload_n 1, 1) by decide +kernel) ?_
      refine mc_Vpi (pc := 30) (As := [.int x1]) (rest := [.int y0, .ref o]) hC vw_isInput_625 (mm_isInput_ok l D ad de o a ca S x1) (Nat.le_of_ble_eq_true rfl) (Nat.le_of_ble_eq_true rfl) rfl (Nat.le_of_ble_eq_true rfl) (show decode prog_15_method_81_code 30 = .ok (.invokevirtual 625, 3) by decide +kernel) h ?_
      intro q13 h
      refine dc_if_ne (pc := 33) (tgt := 40) hC (show decode prog_15_method_81_code 33 = .ok (.ifCond .ne 7, 3) by decide +kernel) (by decide +kernel) h ?_ ?_
      · intro h
        refine dc_iconst (pc := 36) (v := 1) hC (show decode prog_15_method_81_code 36 = .ok (.iconst 1, 1) by decide +kernel) (by decide +kernel) ?_
        refine dc_goto (pc := 37) (tgt := 41) hC (show decode prog_15_method_81_code 37 = .ok (.goto 4, 3) by decide +kernel) (by decide +kernel) ?_
        exact dc_sub [0, 1] rfl (lab_41 S x1 1 y0 h)
      · intro h
        exact dc_sub [0, 1] rfl (lab_40 S x1 y0 h)
  have lab_13 : ∀ (S : md_S) (x1 : Int32) (y0 : Int32), dc_wp (mm_instant_L13 S x1 y0) F → dc_G X l { frames := 604, cells := 0, slots := 0, locals := 16893 } D 5 0 0 (md_W o a ca S) 13 [(0, .ref o), (1, .int x1)] [.int y0] := by
    intro S x1 y0 h
    delta mm_instant_L13 at h
    refine dc_istoren (pc := 13) (j := 2) (i := 2) (lv' := [(2, .int y0), (0, .ref o), (1, .int x1)]) hC rfl (Nat.le_of_ble_eq_true rfl) rfl (show decode prog_15_method_81_code 13 = .ok (.istore_n 2, 1) by decide +kernel) ?_
    refine dc_aloadn (pc := 14) (j := 0) (i := 0) hC 1 rfl rfl (show decode prog_15_method_81_code 14 = .ok (.aload_n 0, 1) by decide +kernel) ?_
    refine dc_iloadn (pc := 15) (j := 2) (i := 2) hC 0 rfl rfl (show decode prog_15_method_81_code 15 = .ok (.iload_n 2, 1) by decide +kernel) ?_
    refine dc_if_ne (pc := 16) (tgt := 23) hC (show decode prog_15_method_81_code 16 = .ok (.ifCond .ne 7, 3) by decide +kernel) (by decide +kernel) h ?_ ?_
    · intro h
      refine dc_iconst (pc := 19) (v := 1) hC (show decode prog_15_method_81_code 19 = .ok (.iconst 1, 1) by decide +kernel) (by decide +kernel) ?_
      refine dc_goto (pc := 20) (tgt := 24) hC (show decode prog_15_method_81_code 20 = .ok (.goto 4, 3) by decide +kernel) (by decide +kernel) ?_
      exact dc_sub [1, 2, 0] rfl (lab_24 S x1 y0 1 h)
    · intro h
      refine dc_iconst (pc := 23) (v := 0) hC (show decode prog_15_method_81_code 23 = .ok (.iconst 0, 1) by decide +kernel) (by decide +kernel) ?_
      exact dc_sub [1, 2, 0] rfl (lab_24 S x1 y0 0 h)
  show dc_G X l { frames := 604, cells := 0, slots := 0, locals := 16893 } D 5 0 0 (md_W o a ca S) 0 [(0, .ref o), (1, .int p1)] []
  delta mm_instant at h
  refine dc_aloadn (pc := 0) (j := 0) (i := 0) hC 0 rfl rfl (show decode prog_15_method_81_code 0 = .ok (.aload_n 0, 1) by decide +kernel) ?_
  refine md_g82 (pc := 1) hC (show decode prog_15_method_81_code 1 = .ok (.getfield 545, 3) by decide +kernel) ?_
  refine dc_iconst (pc := 4) (v := 1) hC (show decode prog_15_method_81_code 4 = .ok (.iconst 1, 1) by decide +kernel) (by decide +kernel) ?_
  refine dc_icmp_ne (pc := 5) (tgt := 12) hC (show decode prog_15_method_81_code 5 = .ok (.if_icmp .ne 7, 3) by decide +kernel) (by decide +kernel) h ?_ ?_
  · intro h
    refine dc_iconst (pc := 8) (v := 1) hC (show decode prog_15_method_81_code 8 = .ok (.iconst 1, 1) by decide +kernel) (by decide +kernel) ?_
    refine dc_goto (pc := 9) (tgt := 13) hC (show decode prog_15_method_81_code 9 = .ok (.goto 4, 3) by decide +kernel) (by decide +kernel) ?_
    exact lab_13 S p1 1 h
  · intro h
    refine dc_iconst (pc := 12) (v := 0) hC (show decode prog_15_method_81_code 12 = .ok (.iconst 0, 1) by decide +kernel) (by decide +kernel) ?_
    exact lab_13 S p1 0 h
noncomputable def mm_status_L39 (S : md_S) (y0 : Int32) : Option (md_S × Int32) :=
  some (S, y0)
noncomputable def mm_status_L29 (S : md_S) : Option (md_S × Int32) :=
  mm_status_L39 S 0
noncomputable def mm_status (S : md_S) (p1 : Int32) : Option (md_S × Int32) :=
  dc_let (md_i S 0 0) fun S1 => if p1 < 0 then (mm_status_L29 S1) else (if p1 < ((S1.1 45) + (S1.1 46)) then (if (S1.1 41) = 0 then (mm_status_L29 S1) else ((dc_ix p1 62).bind fun j2 => mm_status_L39 S1 (S1.2.1 84 j2))) else (mm_status_L29 S1))
set_option maxHeartbeats 4000000 in
set_option maxRecDepth 100000 in
/-- status(I)I -/
theorem mm_status_ok (l : Launch) (D : va_G) (ad : Nat → Nat) (de : Nat) (o : Nat) (a : Nat → Nat) (ca : Nat → ClassId) (S : md_S) (p1 : Int32) (F : (md_S × Int32) → Prop) (h : dc_wp (mm_status S p1) F) : dc_Ci l ⟨"SignalEngineModel", "status", "(I)I"⟩ prog_15_method_82_code 2 (some (.int)) 0 0 D (md_T ca) ad de [.ref o, .int p1] (md_W o a ca S) (fun r w => ∃ q, F q ∧ r = q.2 ∧ w = md_W o a ca q.1) 0 0 := by
  refine dc_enteri (by decide +kernel) (Nat.le_of_ble_eq_true rfl) ?_
  intro X hC hR
  have lab_39 : ∀ (S : md_S) (y0 : Int32), dc_wp (mm_status_L39 S y0) F → dc_G X l { frames := 0, cells := 0, slots := 0, locals := 0 } D 2 0 0 (md_W o a ca S) 39 [(0, .ref o)] [.int y0] := by
    intro S y0 h
    delta mm_status_L39 at h
    exact dc_iret (pc := 39) hC hR ⟨_, dc_some h, rfl, rfl⟩ (show decode prog_15_method_82_code 39 = .ok (.ireturn, 1) by decide +kernel)
  have lab_29 : ∀ (S : md_S), dc_wp (mm_status_L29 S) F → dc_G X l { frames := 0, cells := 0, slots := 0, locals := 0 } D 2 0 0 (md_W o a ca S) 29 [(0, .ref o)] [] := by
    intro S  h
    delta mm_status_L29 at h
    refine dc_iconst (pc := 29) (v := 0) hC (show decode prog_15_method_82_code 29 = .ok (.iconst 0, 1) by decide +kernel) (by decide +kernel) ?_
    refine dc_goto (pc := 30) (tgt := 39) hC (show decode prog_15_method_82_code 30 = .ok (.goto 9, 3) by decide +kernel) (by decide +kernel) ?_
    exact lab_39 S 0 h
  show dc_G X l { frames := 0, cells := 0, slots := 0, locals := 0 } D 2 0 0 (md_W o a ca S) 0 [(0, .ref o), (1, .int p1)] []
  delta mm_status at h
  refine dc_aloadn (pc := 0) (j := 0) (i := 0) hC 0 rfl rfl (show decode prog_15_method_82_code 0 = .ok (.aload_n 0, 1) by decide +kernel) ?_
  refine dc_iconst (pc := 1) (v := 0) hC (show decode prog_15_method_82_code 1 = .ok (.iconst 0, 1) by decide +kernel) (by decide +kernel) ?_
  refine md_p0 (pc := 2) hC (show decode prog_15_method_82_code 2 = .ok (.putfield 206, 3) by decide +kernel) ?_
  refine dc_letS h ?_
  intro S1 h
  refine dc_iloadn (pc := 5) (j := 1) (i := 1) hC 1 rfl rfl (show decode prog_15_method_82_code 5 = .ok (.iload_n 1, 1) by decide +kernel) ?_
  refine dc_if_lt (pc := 6) (tgt := 29) hC (show decode prog_15_method_82_code 6 = .ok (.ifCond .lt 23, 3) by decide +kernel) (by decide +kernel) h ?_ ?_
  · intro h
    exact dc_sub [0] rfl (lab_29 S1 h)
  · intro h
    refine dc_iloadn (pc := 9) (j := 1) (i := 1) hC 1 rfl rfl (show decode prog_15_method_82_code 9 = .ok (.iload_n 1, 1) by decide +kernel) ?_
    refine dc_aloadn (pc := 10) (j := 0) (i := 0) hC 0 rfl rfl (show decode prog_15_method_82_code 10 = .ok (.aload_n 0, 1) by decide +kernel) ?_
    refine md_g45 (pc := 11) hC (show decode prog_15_method_82_code 11 = .ok (.getfield 533, 3) by decide +kernel) ?_
    refine dc_aloadn (pc := 14) (j := 0) (i := 0) hC 0 rfl rfl (show decode prog_15_method_82_code 14 = .ok (.aload_n 0, 1) by decide +kernel) ?_
    refine md_g46 (pc := 15) hC (show decode prog_15_method_82_code 15 = .ok (.getfield 530, 3) by decide +kernel) ?_
    refine dc_iadd (pc := 18) hC (show decode prog_15_method_82_code 18 = .ok (.iadd, 1) by decide +kernel) ?_
    refine dc_icmp_ge (pc := 19) (tgt := 29) hC (show decode prog_15_method_82_code 19 = .ok (.if_icmp .ge 10, 3) by decide +kernel) (by decide +kernel) h ?_ ?_
    · intro h
      refine dc_aloadn (pc := 22) (j := 0) (i := 0) hC 0 rfl rfl (show decode prog_15_method_82_code 22 = .ok (.aload_n 0, 1) by decide +kernel) ?_
      refine md_g41 (pc := 23) hC (show decode prog_15_method_82_code 23 = .ok (.getfield 521, 3) by decide +kernel) ?_
      refine dc_if_ne (pc := 26) (tgt := 33) hC (show decode prog_15_method_82_code 26 = .ok (.ifCond .ne 7, 3) by decide +kernel) (by decide +kernel) h ?_ ?_
      · intro h
        exact dc_sub [0] rfl (lab_29 S1 h)
      · intro h
        refine dc_aloadn (pc := 33) (j := 0) (i := 0) hC 0 rfl rfl (show decode prog_15_method_82_code 33 = .ok (.aload_n 0, 1) by decide +kernel) ?_
        refine md_g84 (pc := 34) hC (show decode prog_15_method_82_code 34 = .ok (.getfield 145, 3) by decide +kernel) ?_
        refine dc_iloadn (pc := 37) (j := 1) (i := 1) hC 1 rfl rfl (show decode prog_15_method_82_code 37 = .ok (.iload_n 1, 1) by decide +kernel) ?_
        refine md_l84 (pc := 38) hC (show decode prog_15_method_82_code 38 = .ok (.iaload, 1) by decide +kernel) h ?_
        intro j2 h
        exact dc_sub [0] rfl (lab_39 S1 (S1.2.1 84 j2) h)
    · intro h
      exact dc_sub [0] rfl (lab_29 S1 h)
noncomputable def mm_selected_L31 (S : md_S) (y0 : Int32) : Option (md_S × Int32) :=
  (dc_zb y0).bind fun _ => some (S, y0)
noncomputable def mm_selected_L30 (S : md_S) : Option (md_S × Int32) :=
  mm_selected_L31 S 0
noncomputable def mm_selected (S : md_S) (p1 : Int32) : Option (md_S × Int32) :=
  dc_let (md_i S 0 0) fun S2 => if p1 < 0 then (mm_selected_L30 S2) else (if p1 < (S2.1 47) then ((dc_ix p1 200).bind fun j3 => if (S2.2.1 74 j3) = 0 then (mm_selected_L30 S2) else (mm_selected_L31 S2 1)) else (mm_selected_L30 S2))
set_option maxHeartbeats 4000000 in
set_option maxRecDepth 100000 in
/-- selected(I)Z -/
theorem mm_selected_ok (l : Launch) (D : va_G) (ad : Nat → Nat) (de : Nat) (o : Nat) (a : Nat → Nat) (ca : Nat → ClassId) (S : md_S) (p1 : Int32) (F : (md_S × Int32) → Prop) (h : dc_wp (mm_selected S p1) F) : dc_Ci l ⟨"SignalEngineModel", "selected", "(I)Z"⟩ prog_15_method_83_code 2 (some (.boolean)) 0 0 D (md_T ca) ad de [.ref o, .int p1] (md_W o a ca S) (fun r w => ∃ q, F q ∧ r = q.2 ∧ w = md_W o a ca q.1) 0 0 := by
  refine dc_enteri (by decide +kernel) (Nat.le_of_ble_eq_true rfl) ?_
  intro X hC hR
  have lab_31 : ∀ (S : md_S) (y0 : Int32), dc_wp (mm_selected_L31 S y0) F → dc_G X l { frames := 0, cells := 0, slots := 0, locals := 0 } D 2 0 0 (md_W o a ca S) 31 [(0, .ref o)] [.int y0] := by
    intro S y0 h
    delta mm_selected_L31 at h
    obtain ⟨hz1, h⟩ := dc_zb_wp (dc_bind h)
    exact dc_zret (pc := 31) hC hR hz1 ⟨_, dc_some h, rfl, rfl⟩ (show decode prog_15_method_83_code 31 = .ok (.ireturn, 1) by decide +kernel)
  have lab_30 : ∀ (S : md_S), dc_wp (mm_selected_L30 S) F → dc_G X l { frames := 0, cells := 0, slots := 0, locals := 0 } D 2 0 0 (md_W o a ca S) 30 [(0, .ref o)] [] := by
    intro S  h
    delta mm_selected_L30 at h
    refine dc_iconst (pc := 30) (v := 0) hC (show decode prog_15_method_83_code 30 = .ok (.iconst 0, 1) by decide +kernel) (by decide +kernel) ?_
    exact lab_31 S 0 h
  show dc_G X l { frames := 0, cells := 0, slots := 0, locals := 0 } D 2 0 0 (md_W o a ca S) 0 [(0, .ref o), (1, .int p1)] []
  delta mm_selected at h
  refine dc_aloadn (pc := 0) (j := 0) (i := 0) hC 0 rfl rfl (show decode prog_15_method_83_code 0 = .ok (.aload_n 0, 1) by decide +kernel) ?_
  refine dc_iconst (pc := 1) (v := 0) hC (show decode prog_15_method_83_code 1 = .ok (.iconst 0, 1) by decide +kernel) (by decide +kernel) ?_
  refine md_p0 (pc := 2) hC (show decode prog_15_method_83_code 2 = .ok (.putfield 206, 3) by decide +kernel) ?_
  refine dc_letS h ?_
  intro S2 h
  refine dc_iloadn (pc := 5) (j := 1) (i := 1) hC 1 rfl rfl (show decode prog_15_method_83_code 5 = .ok (.iload_n 1, 1) by decide +kernel) ?_
  refine dc_if_lt (pc := 6) (tgt := 30) hC (show decode prog_15_method_83_code 6 = .ok (.ifCond .lt 24, 3) by decide +kernel) (by decide +kernel) h ?_ ?_
  · intro h
    exact dc_sub [0] rfl (lab_30 S2 h)
  · intro h
    refine dc_iloadn (pc := 9) (j := 1) (i := 1) hC 1 rfl rfl (show decode prog_15_method_83_code 9 = .ok (.iload_n 1, 1) by decide +kernel) ?_
    refine dc_aloadn (pc := 10) (j := 0) (i := 0) hC 0 rfl rfl (show decode prog_15_method_83_code 10 = .ok (.aload_n 0, 1) by decide +kernel) ?_
    refine md_g47 (pc := 11) hC (show decode prog_15_method_83_code 11 = .ok (.getfield 498, 3) by decide +kernel) ?_
    refine dc_icmp_ge (pc := 14) (tgt := 30) hC (show decode prog_15_method_83_code 14 = .ok (.if_icmp .ge 16, 3) by decide +kernel) (by decide +kernel) h ?_ ?_
    · intro h
      refine dc_aloadn (pc := 17) (j := 0) (i := 0) hC 0 rfl rfl (show decode prog_15_method_83_code 17 = .ok (.aload_n 0, 1) by decide +kernel) ?_
      refine md_g74 (pc := 18) hC (show decode prog_15_method_83_code 18 = .ok (.getfield 136, 3) by decide +kernel) ?_
      refine dc_iloadn (pc := 21) (j := 1) (i := 1) hC 1 rfl rfl (show decode prog_15_method_83_code 21 = .ok (.iload_n 1, 1) by decide +kernel) ?_
      refine md_l74 (pc := 22) hC (show decode prog_15_method_83_code 22 = .ok (.baload, 1) by decide +kernel) h ?_
      intro j3 h
      refine dc_if_eq (pc := 23) (tgt := 30) hC (show decode prog_15_method_83_code 23 = .ok (.ifCond .eq 7, 3) by decide +kernel) (by decide +kernel) h ?_ ?_
      · intro h
        exact dc_sub [0] rfl (lab_30 S2 h)
      · intro h
        refine dc_iconst (pc := 26) (v := 1) hC (show decode prog_15_method_83_code 26 = .ok (.iconst 1, 1) by decide +kernel) (by decide +kernel) ?_
        refine dc_goto (pc := 27) (tgt := 31) hC (show decode prog_15_method_83_code 27 = .ok (.goto 4, 3) by decide +kernel) (by decide +kernel) ?_
        exact dc_sub [0] rfl (lab_31 S2 1 h)
    · intro h
      exact dc_sub [0] rfl (lab_30 S2 h)
