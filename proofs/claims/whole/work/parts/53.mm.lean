noncomputable def mm_multiplexer_L95 (S : md_S) (x1 : Int32) (x2 : Int32) (x3 : Int32) (x4 : Int32) : Option (md_S × Int32) :=
  (dc_ix (S.1 106) 24000).bind fun j1 => dc_let (md_a S 101 j1 x1) fun S2 => (dc_ix (S2.1 106) 24000).bind fun j3 => dc_let (md_a S2 102 j3 x2) fun S4 => (dc_ix (S4.1 106) 24000).bind fun j5 => dc_let (md_a S4 103 j5 x3) fun S6 => dc_let (md_i S6 106 ((S6.1 106) + 1)) fun S7 => (dc_ix x4 65536).bind fun j8 => dc_let (md_a S7 104 j8 (S7.1 106)) fun S9 => some (S9, ((S9.1 106) - 1))
noncomputable def mm_multiplexer_L80 (S : md_S) (x5 : Int32) : Option (md_S × Int32) :=
  some (S, x5)
noncomputable def mm_multiplexer_L83 (S : md_S) (x1 : Int32) (x2 : Int32) (x3 : Int32) (x4 : Int32) : Option ((Int32) ⊕ ((Int32) ⊕ (Int32))) :=
  dc_let (((x4 + 1) - (x4 + 1) / 65536 * 65536) : Int32) fun v10 => some (.inl v10)
noncomputable def mm_multiplexer_b26 (S : md_S) (x1 : Int32) (x2 : Int32) (x3 : Int32) (x4 : Int32) : Option ((Int32) ⊕ ((Int32) ⊕ (Int32))) :=
  (dc_ix x4 65536).bind fun j11 => if (0 : Int32) < (S.2.1 104 j11) then ((dc_ix x4 65536).bind fun j12 => dc_let (((S.2.1 104 j12) - 1) : Int32) fun v13 => (dc_ix v13 24000).bind fun j14 => if (S.2.1 101 j14) = x1 then ((dc_ix v13 24000).bind fun j15 => if (S.2.1 102 j15) = x2 then ((dc_ix v13 24000).bind fun j16 => if (S.2.1 103 j16) = x3 then (some (.inr (.inl v13))) else (mm_multiplexer_L83 S x1 x2 x3 x4)) else (mm_multiplexer_L83 S x1 x2 x3 x4)) else (mm_multiplexer_L83 S x1 x2 x3 x4)) else (some (.inr (.inr x4)))
noncomputable def mm_multiplexer_s26 (S : md_S) (x1 : Int32) (x2 : Int32) (x3 : Int32) (q : Int32) : Option ((Int32) ⊕ ((Int32) ⊕ (Int32))) :=
  mm_multiplexer_b26 S x1 x2 x3 q
noncomputable def mm_multiplexer_L26 (S : md_S) (x1 : Int32) (x2 : Int32) (x3 : Int32) (x4 : Int32) : Option (md_S × Int32) :=
  (dc_it (mm_multiplexer_s26 S x1 x2 x3) x4).bind (Sum.elim (fun (z : Int32) => mm_multiplexer_L80 S z) (fun (z : Int32) => mm_multiplexer_L95 S x1 x2 x3 z))
noncomputable def mm_multiplexer (S : md_S) (p1 : Int32) (p2 : Int32) (p3 : Int32) : Option (md_S × Int32) :=
  dc_let ((((((p1 * 40503) + (p2 * 30011)) + (p3 * 16411)) &&& 2147483647) - ((((p1 * 40503) + (p2 * 30011)) + (p3 * 16411)) &&& 2147483647) / 65536 * 65536) : Int32) fun v17 => mm_multiplexer_L26 S p1 p2 p3 v17
set_option maxHeartbeats 4000000 in
set_option maxRecDepth 100000 in
/-- multiplexer(III)I -/
theorem mm_multiplexer_ok (l : Launch) (D : va_G) (ad : Nat → Nat) (de : Nat) (o : Nat) (a : Nat → Nat) (ca : Nat → ClassId) (S : md_S) (p1 : Int32) (p2 : Int32) (p3 : Int32) (F : (md_S × Int32) → Prop) (h : dc_wp (mm_multiplexer S p1 p2 p3) F) : dc_Ci l ⟨"SignalEngineModel", "multiplexer", "(III)I"⟩ prog_15_method_105_code 6 (some (.int)) 0 0 D (md_T ca) ad de [.ref o, .int p1, .int p2, .int p3] (md_W o a ca S) (fun r w => ∃ q, F q ∧ r = q.2 ∧ w = md_W o a ca q.1) 0 0 := by
  refine dc_enteri (by decide +kernel) (Nat.le_of_ble_eq_true rfl) ?_
  intro X hC hR
  have lab_95 : ∀ (S : md_S) (x1 : Int32) (x2 : Int32) (x3 : Int32) (x4 : Int32), dc_wp (mm_multiplexer_L95 S x1 x2 x3 x4) F → dc_G X l { frames := 0, cells := 0, slots := 0, locals := 0 } D 6 0 0 (md_W o a ca S) 95 [(0, .ref o), (1, .int x1), (2, .int x2), (3, .int x3), (4, .int x4)] [] := by
    intro S x1 x2 x3 x4 h
    delta mm_multiplexer_L95 at h
    refine dc_aloadn (pc := 95) (j := 0) (i := 0) hC 0 rfl rfl (show decode prog_15_method_105_code 95 = .ok (.aload_n 0, 1) by decide +kernel) ?_
    refine md_g101 (pc := 96) hC (show decode prog_15_method_105_code 96 = .ok (.getfield 190, 3) by decide +kernel) ?_
    refine dc_aloadn (pc := 99) (j := 0) (i := 0) hC 0 rfl rfl (show decode prog_15_method_105_code 99 = .ok (.aload_n 0, 1) by decide +kernel) ?_
    refine md_g106 (pc := 100) hC (show decode prog_15_method_105_code 100 = .ok (.getfield 524, 3) by decide +kernel) ?_
    refine dc_iloadn (pc := 103) (j := 1) (i := 1) hC 1 rfl rfl (show decode prog_15_method_105_code 103 = .ok (.iload_n 1, 1) by decide +kernel) ?_
    refine md_s101 (pc := 104) hC (show decode prog_15_method_105_code 104 = .ok (.iastore, 1) by decide +kernel) h ?_
    intro j1 h
    refine dc_letS h ?_
    intro S2 h
    refine dc_aloadn (pc := 105) (j := 0) (i := 0) hC 0 rfl rfl (show decode prog_15_method_105_code 105 = .ok (.aload_n 0, 1) by decide +kernel) ?_
    refine md_g102 (pc := 106) hC (show decode prog_15_method_105_code 106 = .ok (.getfield 193, 3) by decide +kernel) ?_
    refine dc_aloadn (pc := 109) (j := 0) (i := 0) hC 0 rfl rfl (show decode prog_15_method_105_code 109 = .ok (.aload_n 0, 1) by decide +kernel) ?_
    refine md_g106 (pc := 110) hC (show decode prog_15_method_105_code 110 = .ok (.getfield 524, 3) by decide +kernel) ?_
    refine dc_iloadn (pc := 113) (j := 2) (i := 2) hC 2 rfl rfl (show decode prog_15_method_105_code 113 = .ok (.iload_n 2, 1) by decide +kernel) ?_
    refine md_s102 (pc := 114) hC (show decode prog_15_method_105_code 114 = .ok (.iastore, 1) by decide +kernel) h ?_
    intro j3 h
    refine dc_letS h ?_
    intro S4 h
    refine dc_aloadn (pc := 115) (j := 0) (i := 0) hC 0 rfl rfl (show decode prog_15_method_105_code 115 = .ok (.aload_n 0, 1) by decide +kernel) ?_
    refine md_g103 (pc := 116) hC (show decode prog_15_method_105_code 116 = .ok (.getfield 196, 3) by decide +kernel) ?_
    refine dc_aloadn (pc := 119) (j := 0) (i := 0) hC 0 rfl rfl (show decode prog_15_method_105_code 119 = .ok (.aload_n 0, 1) by decide +kernel) ?_
    refine md_g106 (pc := 120) hC (show decode prog_15_method_105_code 120 = .ok (.getfield 524, 3) by decide +kernel) ?_
    refine dc_iloadn (pc := 123) (j := 3) (i := 3) hC 3 rfl rfl (show decode prog_15_method_105_code 123 = .ok (.iload_n 3, 1) by decide +kernel) ?_
    refine md_s103 (pc := 124) hC (show decode prog_15_method_105_code 124 = .ok (.iastore, 1) by decide +kernel) h ?_
    intro j5 h
    refine dc_letS h ?_
    intro S6 h
    refine dc_aloadn (pc := 125) (j := 0) (i := 0) hC 0 rfl rfl (show decode prog_15_method_105_code 125 = .ok (.aload_n 0, 1) by decide +kernel) ?_
    refine dc_dup (pc := 126) hC (show decode prog_15_method_105_code 126 = .ok (.dup, 1) by decide +kernel) rfl ?_
    refine md_g106 (pc := 127) hC (show decode prog_15_method_105_code 127 = .ok (.getfield 524, 3) by decide +kernel) ?_
    refine dc_iconst (pc := 130) (v := 1) hC (show decode prog_15_method_105_code 130 = .ok (.iconst 1, 1) by decide +kernel) (by decide +kernel) ?_
    refine dc_iadd (pc := 131) hC (show decode prog_15_method_105_code 131 = .ok (.iadd, 1) by decide +kernel) ?_
    refine md_p106 (pc := 132) hC (show decode prog_15_method_105_code 132 = .ok (.putfield 524, 3) by decide +kernel) ?_
    refine dc_letS h ?_
    intro S7 h
    refine dc_aloadn (pc := 135) (j := 0) (i := 0) hC 0 rfl rfl (show decode prog_15_method_105_code 135 = .ok (.aload_n 0, 1) by decide +kernel) ?_
    refine md_g104 (pc := 136) hC (show decode prog_15_method_105_code 136 = .ok (.getfield 200, 3) by decide +kernel) ?_
    refine dc_iload (pc := 139) (i := 4) hC 4 rfl (show decode prog_15_method_105_code 139 = .ok (.iload 4, 2) by decide +kernel) ?_
    refine dc_aloadn (pc := 141) (j := 0) (i := 0) hC 0 rfl rfl (show decode prog_15_method_105_code 141 = .ok (.aload_n 0, 1) by decide +kernel) ?_
    refine md_g106 (pc := 142) hC (show decode prog_15_method_105_code 142 = .ok (.getfield 524, 3) by decide +kernel) ?_
    refine md_s104 (pc := 145) hC (show decode prog_15_method_105_code 145 = .ok (.iastore, 1) by decide +kernel) h ?_
    intro j8 h
    refine dc_letS h ?_
    intro S9 h
    refine dc_aloadn (pc := 146) (j := 0) (i := 0) hC 0 rfl rfl (show decode prog_15_method_105_code 146 = .ok (.aload_n 0, 1) by decide +kernel) ?_
    refine md_g106 (pc := 147) hC (show decode prog_15_method_105_code 147 = .ok (.getfield 524, 3) by decide +kernel) ?_
    refine dc_iconst (pc := 150) (v := 1) hC (show decode prog_15_method_105_code 150 = .ok (.iconst 1, 1) by decide +kernel) (by decide +kernel) ?_
    refine dc_isub (pc := 151) hC (show decode prog_15_method_105_code 151 = .ok (.isub, 1) by decide +kernel) ?_
    exact dc_iret (pc := 152) hC hR ⟨_, dc_some h, rfl, rfl⟩ (show decode prog_15_method_105_code 152 = .ok (.ireturn, 1) by decide +kernel)
  have lab_80 : ∀ (S : md_S) (x5 : Int32), dc_wp (mm_multiplexer_L80 S x5) F → dc_G X l { frames := 0, cells := 0, slots := 0, locals := 0 } D 6 0 0 (md_W o a ca S) 80 [(0, .ref o), (5, .int x5)] [] := by
    intro S x5 h
    delta mm_multiplexer_L80 at h
    refine dc_iload (pc := 80) (i := 5) hC 1 rfl (show decode prog_15_method_105_code 80 = .ok (.iload 5, 2) by decide +kernel) ?_
    exact dc_iret (pc := 82) hC hR ⟨_, dc_some h, rfl, rfl⟩ (show decode prog_15_method_105_code 82 = .ok (.ireturn, 1) by decide +kernel)
  have loop_26 : ∀ (S : md_S) (x1 : Int32) (x2 : Int32) (x3 : Int32) (q : Int32), dc_wp (dc_it (mm_multiplexer_s26 S x1 x2 x3) q) (fun z => dc_wp ((Sum.elim (fun (z : Int32) => mm_multiplexer_L80 S z) (fun (z : Int32) => mm_multiplexer_L95 S x1 x2 x3 z)) z) F) → dc_G X l { frames := 0, cells := 0, slots := 0, locals := 0 } D 6 0 0 (md_W o a ca S) 26 [(0, .ref o), (1, .int x1), (2, .int x2), (3, .int x3), (4, .int q)] [] := by
    intro S x1 x2 x3
    refine dc_loopF ?_
    intro F_26 hl_26 hr_26
    have lab_83 : ∀ (x4 : Int32), dc_wp (mm_multiplexer_L83 S x1 x2 x3 x4) F_26 → dc_G X l { frames := 0, cells := 0, slots := 0, locals := 0 } D 6 0 0 (md_W o a ca S) 83 [(0, .ref o), (1, .int x1), (2, .int x2), (3, .int x3), (4, .int x4)] [] := by
      intro x4 h
      delta mm_multiplexer_L83 at h
      refine dc_iload (pc := 83) (i := 4) hC 4 rfl (show decode prog_15_method_105_code 83 = .ok (.iload 4, 2) by decide +kernel) ?_
      refine dc_iconst (pc := 85) (v := 1) hC (show decode prog_15_method_105_code 85 = .ok (.iconst 1, 1) by decide +kernel) (by decide +kernel) ?_
      refine dc_iadd (pc := 86) hC (show decode prog_15_method_105_code 86 = .ok (.iadd, 1) by decide +kernel) ?_
      refine dc_ldc (pc := 87) (v := 65536) hC w_1561 (show decode prog_15_method_105_code 87 = .ok (.ldc 199, 2) by decide +kernel) ?_
      refine dc_irem (pc := 89) hC (show decode prog_15_method_105_code 89 = .ok (.irem, 1) by decide +kernel) (by decide +kernel) ?_
      refine dc_letI h ?_
      intro v10 h
      refine dc_istore (pc := 90) (i := 4) (lv' := [(4, .int v10), (0, .ref o), (1, .int x1), (2, .int x2), (3, .int x3)]) hC (Nat.le_of_ble_eq_true rfl) rfl (show decode prog_15_method_105_code 90 = .ok (.istore 4, 2) by decide +kernel) ?_
      refine dc_goto (pc := 92) (tgt := 26) hC (show decode prog_15_method_105_code 92 = .ok (.goto (-66), 3) by decide +kernel) (by decide +kernel) ?_
      exact dc_sub [1, 2, 3, 4, 0] rfl (hl_26 v10 (dc_some h))
    rintro x4 h
    have h : dc_wp (mm_multiplexer_b26 S x1 x2 x3 x4) F_26 := h
    delta mm_multiplexer_b26 at h
    refine dc_aloadn (pc := 26) (j := 0) (i := 0) hC 0 rfl rfl (show decode prog_15_method_105_code 26 = .ok (.aload_n 0, 1) by decide +kernel) ?_
    refine md_g104 (pc := 27) hC (show decode prog_15_method_105_code 27 = .ok (.getfield 200, 3) by decide +kernel) ?_
    refine dc_iload (pc := 30) (i := 4) hC 4 rfl (show decode prog_15_method_105_code 30 = .ok (.iload 4, 2) by decide +kernel) ?_
    refine md_l104 (pc := 32) hC (show decode prog_15_method_105_code 32 = .ok (.iaload, 1) by decide +kernel) h ?_
    intro j11 h
    refine dc_if_le (pc := 33) (tgt := 95) hC (show decode prog_15_method_105_code 33 = .ok (.ifCond .le 62, 3) by decide +kernel) (by decide +kernel) h ?_ ?_
    · intro h
      refine dc_aloadn (pc := 36) (j := 0) (i := 0) hC 0 rfl rfl (show decode prog_15_method_105_code 36 = .ok (.aload_n 0, 1) by decide +kernel) ?_
      refine md_g104 (pc := 37) hC (show decode prog_15_method_105_code 37 = .ok (.getfield 200, 3) by decide +kernel) ?_
      refine dc_iload (pc := 40) (i := 4) hC 4 rfl (show decode prog_15_method_105_code 40 = .ok (.iload 4, 2) by decide +kernel) ?_
      refine md_l104 (pc := 42) hC (show decode prog_15_method_105_code 42 = .ok (.iaload, 1) by decide +kernel) h ?_
      intro j12 h
      refine dc_iconst (pc := 43) (v := 1) hC (show decode prog_15_method_105_code 43 = .ok (.iconst 1, 1) by decide +kernel) (by decide +kernel) ?_
      refine dc_isub (pc := 44) hC (show decode prog_15_method_105_code 44 = .ok (.isub, 1) by decide +kernel) ?_
      refine dc_letI h ?_
      intro v13 h
      refine dc_istore (pc := 45) (i := 5) (lv' := [(5, .int v13), (0, .ref o), (1, .int x1), (2, .int x2), (3, .int x3), (4, .int x4)]) hC (Nat.le_of_ble_eq_true rfl) rfl (show decode prog_15_method_105_code 45 = .ok (.istore 5, 2) by decide +kernel) ?_
      refine dc_aloadn (pc := 47) (j := 0) (i := 0) hC 1 rfl rfl (show decode prog_15_method_105_code 47 = .ok (.aload_n 0, 1) by decide +kernel) ?_
      refine md_g101 (pc := 48) hC (show decode prog_15_method_105_code 48 = .ok (.getfield 190, 3) by decide +kernel) ?_
      refine dc_iload (pc := 51) (i := 5) hC 0 rfl (show decode prog_15_method_105_code 51 = .ok (.iload 5, 2) by decide +kernel) ?_
      refine md_l101 (pc := 53) hC (show decode prog_15_method_105_code 53 = .ok (.iaload, 1) by decide +kernel) h ?_
      intro j14 h
      refine dc_iloadn (pc := 54) (j := 1) (i := 1) hC 2 rfl rfl (show decode prog_15_method_105_code 54 = .ok (.iload_n 1, 1) by decide +kernel) ?_
      refine dc_icmp_ne (pc := 55) (tgt := 83) hC (show decode prog_15_method_105_code 55 = .ok (.if_icmp .ne 28, 3) by decide +kernel) (by decide +kernel) h ?_ ?_
      · intro h
        refine dc_aloadn (pc := 58) (j := 0) (i := 0) hC 1 rfl rfl (show decode prog_15_method_105_code 58 = .ok (.aload_n 0, 1) by decide +kernel) ?_
        refine md_g102 (pc := 59) hC (show decode prog_15_method_105_code 59 = .ok (.getfield 193, 3) by decide +kernel) ?_
        refine dc_iload (pc := 62) (i := 5) hC 0 rfl (show decode prog_15_method_105_code 62 = .ok (.iload 5, 2) by decide +kernel) ?_
        refine md_l102 (pc := 64) hC (show decode prog_15_method_105_code 64 = .ok (.iaload, 1) by decide +kernel) h ?_
        intro j15 h
        refine dc_iloadn (pc := 65) (j := 2) (i := 2) hC 3 rfl rfl (show decode prog_15_method_105_code 65 = .ok (.iload_n 2, 1) by decide +kernel) ?_
        refine dc_icmp_ne (pc := 66) (tgt := 83) hC (show decode prog_15_method_105_code 66 = .ok (.if_icmp .ne 17, 3) by decide +kernel) (by decide +kernel) h ?_ ?_
        · intro h
          refine dc_aloadn (pc := 69) (j := 0) (i := 0) hC 1 rfl rfl (show decode prog_15_method_105_code 69 = .ok (.aload_n 0, 1) by decide +kernel) ?_
          refine md_g103 (pc := 70) hC (show decode prog_15_method_105_code 70 = .ok (.getfield 196, 3) by decide +kernel) ?_
          refine dc_iload (pc := 73) (i := 5) hC 0 rfl (show decode prog_15_method_105_code 73 = .ok (.iload 5, 2) by decide +kernel) ?_
          refine md_l103 (pc := 75) hC (show decode prog_15_method_105_code 75 = .ok (.iaload, 1) by decide +kernel) h ?_
          intro j16 h
          refine dc_iloadn (pc := 76) (j := 3) (i := 3) hC 4 rfl rfl (show decode prog_15_method_105_code 76 = .ok (.iload_n 3, 1) by decide +kernel) ?_
          refine dc_icmp_ne (pc := 77) (tgt := 83) hC (show decode prog_15_method_105_code 77 = .ok (.if_icmp .ne 6, 3) by decide +kernel) (by decide +kernel) h ?_ ?_
          · intro h
            have h : dc_wp (mm_multiplexer_L80 S v13) F := hr_26 (.inl v13) (dc_some h)
            exact dc_sub [1, 0] rfl (lab_80 S v13 h)
          · intro h
            exact dc_sub [1, 2, 3, 4, 5] rfl (lab_83 x4 h)
        · intro h
          exact dc_sub [1, 2, 3, 4, 5] rfl (lab_83 x4 h)
      · intro h
        exact dc_sub [1, 2, 3, 4, 5] rfl (lab_83 x4 h)
    · intro h
      have h : dc_wp (mm_multiplexer_L95 S x1 x2 x3 x4) F := hr_26 (.inr x4) (dc_some h)
      exact lab_95 S x1 x2 x3 x4 h
  have lab_26 : ∀ (S : md_S) (x1 : Int32) (x2 : Int32) (x3 : Int32) (x4 : Int32), dc_wp (mm_multiplexer_L26 S x1 x2 x3 x4) F → dc_G X l { frames := 0, cells := 0, slots := 0, locals := 0 } D 6 0 0 (md_W o a ca S) 26 [(0, .ref o), (1, .int x1), (2, .int x2), (3, .int x3), (4, .int x4)] [] := fun S x1 x2 x3 x4 h => loop_26 S x1 x2 x3 x4 (dc_bind h)
  show dc_G X l { frames := 0, cells := 0, slots := 0, locals := 0 } D 6 0 0 (md_W o a ca S) 0 [(0, .ref o), (1, .int p1), (2, .int p2), (3, .int p3)] []
  delta mm_multiplexer at h
  refine dc_iloadn (pc := 0) (j := 1) (i := 1) hC 1 rfl rfl (show decode prog_15_method_105_code 0 = .ok (.iload_n 1, 1) by decide +kernel) ?_
  refine dc_ldcw (pc := 1) (v := 40503) hC w_2328 (show decode prog_15_method_105_code 1 = .ok (.ldc_w 660, 3) by decide +kernel) ?_
  refine dc_imul (pc := 4) hC (show decode prog_15_method_105_code 4 = .ok (.imul, 1) by decide +kernel) ?_
  refine dc_iloadn (pc := 5) (j := 2) (i := 2) hC 2 rfl rfl (show decode prog_15_method_105_code 5 = .ok (.iload_n 2, 1) by decide +kernel) ?_
  refine dc_sipush (pc := 6) (v := 30011) hC (show decode prog_15_method_105_code 6 = .ok (.sipush 30011, 3) by decide +kernel) (by decide +kernel) ?_
  refine dc_imul (pc := 9) hC (show decode prog_15_method_105_code 9 = .ok (.imul, 1) by decide +kernel) ?_
  refine dc_iadd (pc := 10) hC (show decode prog_15_method_105_code 10 = .ok (.iadd, 1) by decide +kernel) ?_
  refine dc_iloadn (pc := 11) (j := 3) (i := 3) hC 3 rfl rfl (show decode prog_15_method_105_code 11 = .ok (.iload_n 3, 1) by decide +kernel) ?_
  refine dc_sipush (pc := 12) (v := 16411) hC (show decode prog_15_method_105_code 12 = .ok (.sipush 16411, 3) by decide +kernel) (by decide +kernel) ?_
  refine dc_imul (pc := 15) hC (show decode prog_15_method_105_code 15 = .ok (.imul, 1) by decide +kernel) ?_
  refine dc_iadd (pc := 16) hC (show decode prog_15_method_105_code 16 = .ok (.iadd, 1) by decide +kernel) ?_
  refine dc_ldcw (pc := 17) (v := 2147483647) hC w_2329 (show decode prog_15_method_105_code 17 = .ok (.ldc_w 661, 3) by decide +kernel) ?_
  refine dc_iand (pc := 20) hC (show decode prog_15_method_105_code 20 = .ok (.iand, 1) by decide +kernel) ?_
  refine dc_ldc (pc := 21) (v := 65536) hC w_1561 (show decode prog_15_method_105_code 21 = .ok (.ldc 199, 2) by decide +kernel) ?_
  refine dc_irem (pc := 23) hC (show decode prog_15_method_105_code 23 = .ok (.irem, 1) by decide +kernel) (by decide +kernel) ?_
  refine dc_letI h ?_
  intro v17 h
  refine dc_istore (pc := 24) (i := 4) (lv' := [(4, .int v17), (0, .ref o), (1, .int p1), (2, .int p2), (3, .int p3)]) hC (Nat.le_of_ble_eq_true rfl) rfl (show decode prog_15_method_105_code 24 = .ok (.istore 4, 2) by decide +kernel) ?_
  exact dc_sub [1, 2, 3, 4, 0] rfl (lab_26 S p1 p2 p3 v17 h)
noncomputable def mm_lay_0_L204 (S : md_S) : Option (md_S × Int32) :=
  dc_let (md_i S 86 1) fun S1 => some (S1, (S1.1 106))
noncomputable def mm_lay_0_L186 (S : md_S) (x1 : Int32) : Option ((md_S × Int32) ⊕ ((md_S))) :=
  (dc_ix 0 8192).bind fun j2 => (dc_ix x1 40).bind fun j3 => dc_let (md_a S 100 j3 (S.2.1 99 j2)) fun S4 => some (.inl (S4, (x1 + 1)))
noncomputable def mm_lay_0_L180 (S : md_S) (x1 : Int32) (x2 : Int32) : Option ((md_S × Int32) ⊕ ((md_S))) :=
  some (.inl (S, (x2 + (-1))))
noncomputable def mm_lay_0_L173 (S : md_S) (x1 : Int32) (x2 : Int32) (x3 : Int32) (y0 : Int32) (y1 : Int32) : Option ((md_S × Int32) ⊕ ((md_S))) :=
  (dc_ix y1 8192).bind fun j5 => dc_let (md_a S 99 j5 y0) fun S6 => some (.inl (S6, (x3 + 1)))
noncomputable def mm_lay_0_b118 (S : md_S) (x1 : Int32) (x2 : Int32) (x3 : Int32) : Option ((md_S × Int32) ⊕ ((md_S))) :=
  if x3 < ((1 : Int32) <<< (x2 &&& (31 : Int32))) then ((dc_ix (2 * x3) 8192).bind fun j7 => dc_let ((S.2.1 99 j7) : Int32) fun v8 => (dc_ix ((2 * x3) + 1) 8192).bind fun j9 => dc_let ((S.2.1 99 j9) : Int32) fun v10 => if v8 = v10 then (mm_lay_0_L173 S x1 x2 x3 v8 x3) else ((mm_multiplexer S x2 v8 v10).bind fun q11 => mm_lay_0_L173 q11.1 x1 x2 x3 q11.2 x3)) else (some (.inr S))
noncomputable def mm_lay_0_s118 (x1 : Int32) (x2 : Int32) (q : md_S × Int32) : Option ((md_S × Int32) ⊕ ((md_S))) :=
  mm_lay_0_b118 q.1 x1 x2 q.2
noncomputable def mm_lay_0_L118 (S : md_S) (x1 : Int32) (x2 : Int32) (x3 : Int32) : Option ((md_S × Int32) ⊕ ((md_S))) :=
  (dc_it (mm_lay_0_s118 x1 x2) (S, x3)).bind (fun (z : md_S) => mm_lay_0_L180 z x1 x2)
noncomputable def mm_lay_0_b112 (S : md_S) (x1 : Int32) (x2 : Int32) : Option ((md_S × Int32) ⊕ ((md_S))) :=
  if x2 < 0 then (some (.inr S)) else (mm_lay_0_L118 S x1 x2 0)
noncomputable def mm_lay_0_s112 (x1 : Int32) (q : md_S × Int32) : Option ((md_S × Int32) ⊕ ((md_S))) :=
  mm_lay_0_b112 q.1 x1 q.2
noncomputable def mm_lay_0_L112 (S : md_S) (x1 : Int32) (x2 : Int32) : Option ((md_S × Int32) ⊕ ((md_S))) :=
  (dc_it (mm_lay_0_s112 x1) (S, x2)).bind (fun (z : md_S) => mm_lay_0_L186 z x1)
noncomputable def mm_lay_0_L109 (S : md_S) (x1 : Int32) : Option ((md_S × Int32) ⊕ ((md_S))) :=
  mm_lay_0_L112 S x1 12
noncomputable def mm_lay_0_L102 (S : md_S) (x1 : Int32) (x2 : Int32) (y0 : Int32) (y1 : Int32) : Option ((md_S × Int32) ⊕ ((md_S))) :=
  (dc_ix y1 8192).bind fun j12 => dc_let (md_a S 99 j12 y0) fun S13 => some (.inl (S13, (x2 + 1)))
noncomputable def mm_lay_0_b69 (S : md_S) (x1 : Int32) (x2 : Int32) : Option ((md_S × Int32) ⊕ ((md_S))) :=
  if x2 < 8192 then ((dc_ix x2 8192).bind fun j14 => if (dc_cmp (((S.2.2.2 j14) >>> (Int32.toInt64 x1 &&& 63)) &&& 1) 1) = 0 then (mm_lay_0_L102 S x1 x2 (-1) x2) else (mm_lay_0_L102 S x1 x2 (-2) x2)) else (some (.inr S))
noncomputable def mm_lay_0_s69 (x1 : Int32) (q : md_S × Int32) : Option ((md_S × Int32) ⊕ ((md_S))) :=
  mm_lay_0_b69 q.1 x1 q.2
noncomputable def mm_lay_0_L69 (S : md_S) (x1 : Int32) (x2 : Int32) : Option ((md_S × Int32) ⊕ ((md_S))) :=
  (dc_it (mm_lay_0_s69 x1) (S, x2)).bind (fun (z : md_S) => mm_lay_0_L109 z x1)
noncomputable def mm_lay_0_b54 (S : md_S) (x1 : Int32) : Option ((md_S × Int32) ⊕ ((md_S))) :=
  if ((S.1 46) + (S.1 47)) < x1 then (some (.inr S)) else (mm_lay_0_L69 S x1 0)
noncomputable def mm_lay_0_s54 (q : md_S × Int32) : Option ((md_S × Int32) ⊕ ((md_S))) :=
  mm_lay_0_b54 q.1 q.2
noncomputable def mm_lay_0_L54 (S : md_S) (x1 : Int32) : Option (md_S × Int32) :=
  (dc_it (mm_lay_0_s54) (S, x1)).bind (fun (z : md_S) => mm_lay_0_L204 z)
noncomputable def mm_lay_0_L52 (S : md_S) : Option (md_S × Int32) :=
  mm_lay_0_L54 S 0
noncomputable def mm_lay_0_b33 (S : md_S) (x1 : Int32) : Option ((md_S × Int32) ⊕ ((md_S))) :=
  if x1 < 65536 then ((dc_ix x1 65536).bind fun j15 => dc_let (md_a S 104 j15 0) fun S16 => some (.inl (S16, (x1 + 1)))) else (some (.inr S))
noncomputable def mm_lay_0_s33 (q : md_S × Int32) : Option ((md_S × Int32) ⊕ ((md_S))) :=
  mm_lay_0_b33 q.1 q.2
noncomputable def mm_lay_0_L33 (S : md_S) (x1 : Int32) : Option (md_S × Int32) :=
  (dc_it (mm_lay_0_s33) (S, x1)).bind (fun (z : md_S) => mm_lay_0_L52 z)
noncomputable def mm_lay_0_L13 (S : md_S) (y0 : Int32) : Option (md_S × Int32) :=
  (mm_fails S y0 0).bind fun q17 => if q17.2 = 0 then ((mm_tables q17.1).bind fun q18 => dc_let (md_i q18 106 0) fun S19 => mm_lay_0_L33 S19 0) else (some (q17.1, 0))
noncomputable def mm_lay_0 (S : md_S) : Option (md_S × Int32) :=
  if (S.1 85) = 0 then (mm_lay_0_L13 S 1) else (mm_lay_0_L13 S 0)
set_option maxHeartbeats 4000000 in
set_option maxRecDepth 100000 in
/-- lay()I -/
theorem mm_lay_0_ok (l : Launch) (D : va_G) (ad : Nat → Nat) (de : Nat) (o : Nat) (a : Nat → Nat) (ca : Nat → ClassId) (S : md_S) (F : (md_S × Int32) → Prop) (h : dc_wp (mm_lay_0 S) F) : dc_Ci l ⟨"SignalEngineModel", "lay", "()I"⟩ prog_15_method_106_code 6 (some (.int)) 2 50 D (md_T ca) ad de [.ref o] (md_W o a ca S) (fun r w => ∃ q, F q ∧ r = q.2 ∧ w = md_W o a ca q.1) 0 0 := by
  refine dc_enteri (by decide +kernel) (Nat.le_of_ble_eq_true rfl) ?_
  intro X hC hR
  have lab_204 : ∀ (S : md_S), dc_wp (mm_lay_0_L204 S) F → dc_G X l { frames := 2, cells := 0, slots := 0, locals := 50 } D 6 0 0 (md_W o a ca S) 204 [(0, .ref o)] [] := by
    intro S  h
    delta mm_lay_0_L204 at h
    refine dc_aloadn (pc := 204) (j := 0) (i := 0) hC 0 rfl rfl (show decode prog_15_method_106_code 204 = .ok (.aload_n 0, 1) by decide +kernel) ?_
    refine dc_iconst (pc := 205) (v := 1) hC (show decode prog_15_method_106_code 205 = .ok (.iconst 1, 1) by decide +kernel) (by decide +kernel) ?_
    refine md_p86 (pc := 206) hC (Or.inr rfl) (show decode prog_15_method_106_code 206 = .ok (.putfield 515, 3) by decide +kernel) ?_
    refine dc_letS h ?_
    intro S1 h
    refine dc_aloadn (pc := 209) (j := 0) (i := 0) hC 0 rfl rfl (show decode prog_15_method_106_code 209 = .ok (.aload_n 0, 1) by decide +kernel) ?_
    refine md_g106 (pc := 210) hC (show decode prog_15_method_106_code 210 = .ok (.getfield 524, 3) by decide +kernel) ?_
    exact dc_iret (pc := 213) hC hR ⟨_, dc_some h, rfl, rfl⟩ (show decode prog_15_method_106_code 213 = .ok (.ireturn, 1) by decide +kernel)
  have loop_54 : ∀ (q : md_S × Int32), dc_wp (dc_it (mm_lay_0_s54) q) (fun z => dc_wp ((fun (z : md_S) => mm_lay_0_L204 z) z) F) → dc_G X l { frames := 2, cells := 0, slots := 0, locals := 50 } D 6 0 0 (md_W o a ca q.1) 54 [(0, .ref o), (1, .int q.2)] [] := by
    refine dc_loopF ?_
    intro F_54 hl_54 hr_54
    have lab_186 : ∀ (S : md_S) (x1 : Int32), dc_wp (mm_lay_0_L186 S x1) F_54 → dc_G X l { frames := 2, cells := 0, slots := 0, locals := 50 } D 6 0 0 (md_W o a ca S) 186 [(0, .ref o), (1, .int x1)] [] := by
      intro S x1 h
      delta mm_lay_0_L186 at h
      refine dc_aloadn (pc := 186) (j := 0) (i := 0) hC 0 rfl rfl (show decode prog_15_method_106_code 186 = .ok (.aload_n 0, 1) by decide +kernel) ?_
      refine md_g100 (pc := 187) hC (show decode prog_15_method_106_code 187 = .ok (.getfield 187, 3) by decide +kernel) ?_
      refine dc_iloadn (pc := 190) (j := 1) (i := 1) hC 1 rfl rfl (show decode prog_15_method_106_code 190 = .ok (.iload_n 1, 1) by decide +kernel) ?_
      refine dc_aloadn (pc := 191) (j := 0) (i := 0) hC 0 rfl rfl (show decode prog_15_method_106_code 191 = .ok (.aload_n 0, 1) by decide +kernel) ?_
      refine md_g99 (pc := 192) hC (show decode prog_15_method_106_code 192 = .ok (.getfield 184, 3) by decide +kernel) ?_
      refine dc_iconst (pc := 195) (v := 0) hC (show decode prog_15_method_106_code 195 = .ok (.iconst 0, 1) by decide +kernel) (by decide +kernel) ?_
      refine md_l99 (pc := 196) hC (show decode prog_15_method_106_code 196 = .ok (.iaload, 1) by decide +kernel) h ?_
      intro j2 h
      refine md_s100 (pc := 197) hC (show decode prog_15_method_106_code 197 = .ok (.iastore, 1) by decide +kernel) h ?_
      intro j3 h
      refine dc_letS h ?_
      intro S4 h
      refine dc_iinc (pc := 198) (i := 1) (v := (x1 + 1)) (lv' := [(1, .int (x1 + 1)), (0, .ref o)]) hC 1 rfl rfl (Nat.le_of_ble_eq_true rfl) rfl (show decode prog_15_method_106_code 198 = .ok (.iinc 1 1, 3) by decide +kernel) ?_
      refine dc_goto (pc := 201) (tgt := 54) hC (show decode prog_15_method_106_code 201 = .ok (.goto (-147), 3) by decide +kernel) (by decide +kernel) ?_
      exact dc_sub [1, 0] rfl (hl_54 (S4, (x1 + 1)) (dc_some h))
    have loop_112 : ∀ (x1 : Int32) (q : md_S × Int32), dc_wp (dc_it (mm_lay_0_s112 x1) q) (fun z => dc_wp ((fun (z : md_S) => mm_lay_0_L186 z x1) z) F_54) → dc_G X l { frames := 2, cells := 0, slots := 0, locals := 50 } D 6 0 0 (md_W o a ca q.1) 112 [(0, .ref o), (1, .int x1), (2, .int q.2)] [] := by
      intro x1
      refine dc_loopF ?_
      intro F_112 hl_112 hr_112
      have lab_180 : ∀ (S : md_S) (x2 : Int32), dc_wp (mm_lay_0_L180 S x1 x2) F_112 → dc_G X l { frames := 2, cells := 0, slots := 0, locals := 50 } D 6 0 0 (md_W o a ca S) 180 [(0, .ref o), (1, .int x1), (2, .int x2)] [] := by
        intro S x2 h
        delta mm_lay_0_L180 at h
        refine dc_iinc (pc := 180) (i := 2) (v := (x2 + (-1))) (lv' := [(2, .int (x2 + (-1))), (0, .ref o), (1, .int x1)]) hC 2 rfl (congrArg (fun z => x2 + z) (show Int32.ofInt (-1) = (-1 : Int32) by decide +kernel)) (Nat.le_of_ble_eq_true rfl) rfl (show decode prog_15_method_106_code 180 = .ok (.iinc 2 (-1), 3) by decide +kernel) ?_
        refine dc_goto (pc := 183) (tgt := 112) hC (show decode prog_15_method_106_code 183 = .ok (.goto (-71), 3) by decide +kernel) (by decide +kernel) ?_
        exact dc_sub [1, 2, 0] rfl (hl_112 (S, (x2 + (-1))) (dc_some h))
      have loop_118 : ∀ (x2 : Int32) (q : md_S × Int32), dc_wp (dc_it (mm_lay_0_s118 x1 x2) q) (fun z => dc_wp ((fun (z : md_S) => mm_lay_0_L180 z x1 x2) z) F_112) → dc_G X l { frames := 2, cells := 0, slots := 0, locals := 50 } D 6 0 0 (md_W o a ca q.1) 118 [(0, .ref o), (1, .int x1), (2, .int x2), (3, .int q.2)] [] := by
        intro x2
        refine dc_loopF ?_
        intro F_118 hl_118 hr_118
        have lab_173 : ∀ (S : md_S) (x3 : Int32) (y0 : Int32) (y1 : Int32), dc_wp (mm_lay_0_L173 S x1 x2 x3 y0 y1) F_118 → dc_G X l { frames := 2, cells := 0, slots := 0, locals := 50 } D 6 0 0 (md_W o a ca S) 173 [(0, .ref o), (1, .int x1), (2, .int x2), (3, .int x3)] [.int y0, .int y1, .ref (a 99)] := by
          intro S x3 y0 y1 h
          delta mm_lay_0_L173 at h
          refine md_s99 (pc := 173) hC (show decode prog_15_method_106_code 173 = .ok (.iastore, 1) by decide +kernel) h ?_
          intro j5 h
          refine dc_letS h ?_
          intro S6 h
          refine dc_iinc (pc := 174) (i := 3) (v := (x3 + 1)) (lv' := [(3, .int (x3 + 1)), (0, .ref o), (1, .int x1), (2, .int x2)]) hC 3 rfl rfl (Nat.le_of_ble_eq_true rfl) rfl (show decode prog_15_method_106_code 174 = .ok (.iinc 3 1, 3) by decide +kernel) ?_
          refine dc_goto (pc := 177) (tgt := 118) hC (show decode prog_15_method_106_code 177 = .ok (.goto (-59), 3) by decide +kernel) (by decide +kernel) ?_
          exact dc_sub [1, 2, 3, 0] rfl (hl_118 (S6, (x3 + 1)) (dc_some h))
        rintro ⟨S, x3⟩ h
        have h : dc_wp (mm_lay_0_b118 S x1 x2 x3) F_118 := h
        delta mm_lay_0_b118 at h
        refine dc_iloadn (pc := 118) (j := 3) (i := 3) hC 3 rfl rfl (show decode prog_15_method_106_code 118 = .ok (.iload_n 3, 1) by decide +kernel) ?_
        refine dc_iconst (pc := 119) (v := 1) hC (show decode prog_15_method_106_code 119 = .ok (.iconst 1, 1) by decide +kernel) (by decide +kernel) ?_
        refine dc_iloadn (pc := 120) (j := 2) (i := 2) hC 2 rfl rfl (show decode prog_15_method_106_code 120 = .ok (.iload_n 2, 1) by decide +kernel) ?_
        refine dc_ishl (pc := 121) hC (show decode prog_15_method_106_code 121 = .ok (.ishl, 1) by decide +kernel) ?_
        refine dc_icmp_ge (pc := 122) (tgt := 180) hC (show decode prog_15_method_106_code 122 = .ok (.if_icmp .ge 58, 3) by decide +kernel) (by decide +kernel) h ?_ ?_
        · intro h
          refine dc_aloadn (pc := 125) (j := 0) (i := 0) hC 0 rfl rfl (show decode prog_15_method_106_code 125 = .ok (.aload_n 0, 1) by decide +kernel) ?_
          refine md_g99 (pc := 126) hC (show decode prog_15_method_106_code 126 = .ok (.getfield 184, 3) by decide +kernel) ?_
          refine dc_iconst (pc := 129) (v := 2) hC (show decode prog_15_method_106_code 129 = .ok (.iconst 2, 1) by decide +kernel) (by decide +kernel) ?_
          refine dc_iloadn (pc := 130) (j := 3) (i := 3) hC 3 rfl rfl (show decode prog_15_method_106_code 130 = .ok (.iload_n 3, 1) by decide +kernel) ?_
          refine dc_imul (pc := 131) hC (show decode prog_15_method_106_code 131 = .ok (.imul, 1) by decide +kernel) ?_
          refine md_l99 (pc := 132) hC (show decode prog_15_method_106_code 132 = .ok (.iaload, 1) by decide +kernel) h ?_
          intro j7 h
          refine dc_letI h ?_
          intro v8 h
          refine dc_istore (pc := 133) (i := 4) (lv' := [(4, .int v8), (0, .ref o), (1, .int x1), (2, .int x2), (3, .int x3)]) hC (Nat.le_of_ble_eq_true rfl) rfl (show decode prog_15_method_106_code 133 = .ok (.istore 4, 2) by decide +kernel) ?_
          refine dc_aloadn (pc := 135) (j := 0) (i := 0) hC 1 rfl rfl (show decode prog_15_method_106_code 135 = .ok (.aload_n 0, 1) by decide +kernel) ?_
          refine md_g99 (pc := 136) hC (show decode prog_15_method_106_code 136 = .ok (.getfield 184, 3) by decide +kernel) ?_
          refine dc_iconst (pc := 139) (v := 2) hC (show decode prog_15_method_106_code 139 = .ok (.iconst 2, 1) by decide +kernel) (by decide +kernel) ?_
          refine dc_iloadn (pc := 140) (j := 3) (i := 3) hC 4 rfl rfl (show decode prog_15_method_106_code 140 = .ok (.iload_n 3, 1) by decide +kernel) ?_
          refine dc_imul (pc := 141) hC (show decode prog_15_method_106_code 141 = .ok (.imul, 1) by decide +kernel) ?_
          refine dc_iconst (pc := 142) (v := 1) hC (show decode prog_15_method_106_code 142 = .ok (.iconst 1, 1) by decide +kernel) (by decide +kernel) ?_
          refine dc_iadd (pc := 143) hC (show decode prog_15_method_106_code 143 = .ok (.iadd, 1) by decide +kernel) ?_
          refine md_l99 (pc := 144) hC (show decode prog_15_method_106_code 144 = .ok (.iaload, 1) by decide +kernel) h ?_
          intro j9 h
          refine dc_letI h ?_
          intro v10 h
          refine dc_istore (pc := 145) (i := 5) (lv' := [(5, .int v10), (4, .int v8), (0, .ref o), (1, .int x1), (2, .int x2), (3, .int x3)]) hC (Nat.le_of_ble_eq_true rfl) rfl (show decode prog_15_method_106_code 145 = .ok (.istore 5, 2) by decide +kernel) ?_
          refine dc_aloadn (pc := 147) (j := 0) (i := 0) hC 2 rfl rfl (show decode prog_15_method_106_code 147 = .ok (.aload_n 0, 1) by decide +kernel) ?_
          refine md_g99 (pc := 148) hC (show decode prog_15_method_106_code 148 = .ok (.getfield 184, 3) by decide +kernel) ?_
          refine dc_iloadn (pc := 151) (j := 3) (i := 3) hC 5 rfl rfl (show decode prog_15_method_106_code 151 = .ok (.iload_n 3, 1) by decide +kernel) ?_
          refine dc_iload (pc := 152) (i := 4) hC 1 rfl (show decode prog_15_method_106_code 152 = .ok (.iload 4, 2) by decide +kernel) ?_
          refine dc_iload (pc := 154) (i := 5) hC 0 rfl (show decode prog_15_method_106_code 154 = .ok (.iload 5, 2) by decide +kernel) ?_
          refine dc_icmp_ne (pc := 156) (tgt := 164) hC (show decode prog_15_method_106_code 156 = .ok (.if_icmp .ne 8, 3) by decide +kernel) (by decide +kernel) h ?_ ?_
          · intro h
            refine dc_iload (pc := 159) (i := 4) hC 1 rfl (show decode prog_15_method_106_code 159 = .ok (.iload 4, 2) by decide +kernel) ?_
            refine dc_goto (pc := 161) (tgt := 173) hC (show decode prog_15_method_106_code 161 = .ok (.goto 12, 3) by decide +kernel) (by decide +kernel) ?_
            exact dc_sub [2, 3, 4, 5] rfl (lab_173 S x3 v8 x3 h)
          · intro h
            refine dc_aloadn (pc := 164) (j := 0) (i := 0) hC 2 rfl rfl (show decode prog_15_method_106_code 164 = .ok (.aload_n 0, 1) by decide +kernel) ?_
            refine dc_iloadn (pc := 165) (j := 2) (i := 2) hC 4 rfl rfl (show decode prog_15_method_106_code 165 = .ok (.iload_n 2, 1) by decide +kernel) ?_
            refine dc_iload (pc := 166) (i := 4) hC 1 rfl (show decode prog_15_method_106_code 166 = .ok (.iload 4, 2) by decide +kernel) ?_
            refine dc_iload (pc := 168) (i := 5) hC 0 rfl (show decode prog_15_method_106_code 168 = .ok (.iload 5, 2) by decide +kernel) ?_
            refine mc_Vmi (pc := 170) (As := [.int x2, .int v8, .int v10]) (rest := [.int x3, .ref (a 99)]) hC vw_multiplexer_665 (mm_multiplexer_ok l D ad de o a ca S x2 v8 v10) (Nat.le_of_ble_eq_true rfl) (Nat.le_of_ble_eq_true rfl) rfl (Nat.le_of_ble_eq_true rfl) (show decode prog_15_method_106_code 170 = .ok (.invokevirtual 665, 3) by decide +kernel) h ?_
            intro q11 h
            exact dc_sub [2, 3, 4, 5] rfl (lab_173 q11.1 x3 q11.2 x3 h)
        · intro h
          have h : dc_wp (mm_lay_0_L180 S x1 x2) F_112 := hr_118 S (dc_some h)
          exact dc_sub [0, 1, 2] rfl (lab_180 S x2 h)
      have lab_118 : ∀ (S : md_S) (x2 : Int32) (x3 : Int32), dc_wp (mm_lay_0_L118 S x1 x2 x3) F_112 → dc_G X l { frames := 2, cells := 0, slots := 0, locals := 50 } D 6 0 0 (md_W o a ca S) 118 [(0, .ref o), (1, .int x1), (2, .int x2), (3, .int x3)] [] := fun S x2 x3 h => loop_118 x2 (S, x3) (dc_bind h)
      rintro ⟨S, x2⟩ h
      have h : dc_wp (mm_lay_0_b112 S x1 x2) F_112 := h
      delta mm_lay_0_b112 at h
      refine dc_iloadn (pc := 112) (j := 2) (i := 2) hC 2 rfl rfl (show decode prog_15_method_106_code 112 = .ok (.iload_n 2, 1) by decide +kernel) ?_
      refine dc_if_lt (pc := 113) (tgt := 186) hC (show decode prog_15_method_106_code 113 = .ok (.ifCond .lt 73, 3) by decide +kernel) (by decide +kernel) h ?_ ?_
      · intro h
        have h : dc_wp (mm_lay_0_L186 S x1) F_54 := hr_112 S (dc_some h)
        exact dc_sub [0, 1] rfl (lab_186 S x1 h)
      · intro h
        refine dc_iconst (pc := 116) (v := 0) hC (show decode prog_15_method_106_code 116 = .ok (.iconst 0, 1) by decide +kernel) (by decide +kernel) ?_
        refine dc_istoren (pc := 117) (j := 3) (i := 3) (lv' := [(3, .int 0), (0, .ref o), (1, .int x1), (2, .int x2)]) hC rfl (Nat.le_of_ble_eq_true rfl) rfl (show decode prog_15_method_106_code 117 = .ok (.istore_n 3, 1) by decide +kernel) ?_
        exact dc_sub [1, 2, 3, 0] rfl (lab_118 S x2 0 h)
    have lab_112 : ∀ (S : md_S) (x1 : Int32) (x2 : Int32), dc_wp (mm_lay_0_L112 S x1 x2) F_54 → dc_G X l { frames := 2, cells := 0, slots := 0, locals := 50 } D 6 0 0 (md_W o a ca S) 112 [(0, .ref o), (1, .int x1), (2, .int x2)] [] := fun S x1 x2 h => loop_112 x1 (S, x2) (dc_bind h)
    have lab_109 : ∀ (S : md_S) (x1 : Int32), dc_wp (mm_lay_0_L109 S x1) F_54 → dc_G X l { frames := 2, cells := 0, slots := 0, locals := 50 } D 6 0 0 (md_W o a ca S) 109 [(0, .ref o), (1, .int x1)] [] := by
      intro S x1 h
      delta mm_lay_0_L109 at h
      refine dc_bipush (pc := 109) (v := 12) hC (show decode prog_15_method_106_code 109 = .ok (.bipush 12, 2) by decide +kernel) (by decide +kernel) ?_
      refine dc_istoren (pc := 111) (j := 2) (i := 2) (lv' := [(2, .int 12), (0, .ref o), (1, .int x1)]) hC rfl (Nat.le_of_ble_eq_true rfl) rfl (show decode prog_15_method_106_code 111 = .ok (.istore_n 2, 1) by decide +kernel) ?_
      exact dc_sub [1, 2, 0] rfl (lab_112 S x1 12 h)
    have loop_69 : ∀ (x1 : Int32) (q : md_S × Int32), dc_wp (dc_it (mm_lay_0_s69 x1) q) (fun z => dc_wp ((fun (z : md_S) => mm_lay_0_L109 z x1) z) F_54) → dc_G X l { frames := 2, cells := 0, slots := 0, locals := 50 } D 6 0 0 (md_W o a ca q.1) 69 [(0, .ref o), (1, .int x1), (2, .int q.2)] [] := by
      intro x1
      refine dc_loopF ?_
      intro F_69 hl_69 hr_69
      have lab_102 : ∀ (S : md_S) (x2 : Int32) (y0 : Int32) (y1 : Int32), dc_wp (mm_lay_0_L102 S x1 x2 y0 y1) F_69 → dc_G X l { frames := 2, cells := 0, slots := 0, locals := 50 } D 6 0 0 (md_W o a ca S) 102 [(0, .ref o), (1, .int x1), (2, .int x2)] [.int y0, .int y1, .ref (a 99)] := by
        intro S x2 y0 y1 h
        delta mm_lay_0_L102 at h
        refine md_s99 (pc := 102) hC (show decode prog_15_method_106_code 102 = .ok (.iastore, 1) by decide +kernel) h ?_
        intro j12 h
        refine dc_letS h ?_
        intro S13 h
        refine dc_iinc (pc := 103) (i := 2) (v := (x2 + 1)) (lv' := [(2, .int (x2 + 1)), (0, .ref o), (1, .int x1)]) hC 2 rfl rfl (Nat.le_of_ble_eq_true rfl) rfl (show decode prog_15_method_106_code 103 = .ok (.iinc 2 1, 3) by decide +kernel) ?_
        refine dc_goto (pc := 106) (tgt := 69) hC (show decode prog_15_method_106_code 106 = .ok (.goto (-37), 3) by decide +kernel) (by decide +kernel) ?_
        exact dc_sub [1, 2, 0] rfl (hl_69 (S13, (x2 + 1)) (dc_some h))
      rintro ⟨S, x2⟩ h
      have h : dc_wp (mm_lay_0_b69 S x1 x2) F_69 := h
      delta mm_lay_0_b69 at h
      refine dc_iloadn (pc := 69) (j := 2) (i := 2) hC 2 rfl rfl (show decode prog_15_method_106_code 69 = .ok (.iload_n 2, 1) by decide +kernel) ?_
      refine dc_sipush (pc := 70) (v := 8192) hC (show decode prog_15_method_106_code 70 = .ok (.sipush 8192, 3) by decide +kernel) (by decide +kernel) ?_
      refine dc_icmp_ge (pc := 73) (tgt := 109) hC (show decode prog_15_method_106_code 73 = .ok (.if_icmp .ge 36, 3) by decide +kernel) (by decide +kernel) h ?_ ?_
      · intro h
        refine dc_aloadn (pc := 76) (j := 0) (i := 0) hC 0 rfl rfl (show decode prog_15_method_106_code 76 = .ok (.aload_n 0, 1) by decide +kernel) ?_
        refine md_g99 (pc := 77) hC (show decode prog_15_method_106_code 77 = .ok (.getfield 184, 3) by decide +kernel) ?_
        refine dc_iloadn (pc := 80) (j := 2) (i := 2) hC 2 rfl rfl (show decode prog_15_method_106_code 80 = .ok (.iload_n 2, 1) by decide +kernel) ?_
        refine dc_aloadn (pc := 81) (j := 0) (i := 0) hC 0 rfl rfl (show decode prog_15_method_106_code 81 = .ok (.aload_n 0, 1) by decide +kernel) ?_
        refine md_g98 (pc := 82) hC (show decode prog_15_method_106_code 82 = .ok (.getfield 180, 3) by decide +kernel) ?_
        refine dc_iloadn (pc := 85) (j := 2) (i := 2) hC 2 rfl rfl (show decode prog_15_method_106_code 85 = .ok (.iload_n 2, 1) by decide +kernel) ?_
        refine md_l98 (pc := 86) hC (show decode prog_15_method_106_code 86 = .ok (.laload, 1) by decide +kernel) h ?_
        intro j14 h
        refine dc_iloadn (pc := 87) (j := 1) (i := 1) hC 1 rfl rfl (show decode prog_15_method_106_code 87 = .ok (.iload_n 1, 1) by decide +kernel) ?_
        refine dc_lshr (pc := 88) hC (show decode prog_15_method_106_code 88 = .ok (.lshr, 1) by decide +kernel) ?_
        refine dc_lconst (pc := 89) (v := 1) hC (show decode prog_15_method_106_code 89 = .ok (.lconst 1, 1) by decide +kernel) (by decide +kernel) ?_
        refine dc_land (pc := 90) hC (show decode prog_15_method_106_code 90 = .ok (.land, 1) by decide +kernel) ?_
        refine dc_lconst (pc := 91) (v := 1) hC (show decode prog_15_method_106_code 91 = .ok (.lconst 1, 1) by decide +kernel) (by decide +kernel) ?_
        refine dc_lcmp (pc := 92) hC (show decode prog_15_method_106_code 92 = .ok (.lcmp, 1) by decide +kernel) ?_
        refine dc_if_ne (pc := 93) (tgt := 100) hC (show decode prog_15_method_106_code 93 = .ok (.ifCond .ne 7, 3) by decide +kernel) (by decide +kernel) h ?_ ?_
        · intro h
          refine dc_iconst (pc := 96) (v := (-1)) hC (show decode prog_15_method_106_code 96 = .ok (.iconst (-1), 1) by decide +kernel) (by decide +kernel) ?_
          refine dc_goto (pc := 97) (tgt := 102) hC (show decode prog_15_method_106_code 97 = .ok (.goto 5, 3) by decide +kernel) (by decide +kernel) ?_
          exact lab_102 S x2 (-1) x2 h
        · intro h
          refine dc_bipush (pc := 100) (v := (-2)) hC (show decode prog_15_method_106_code 100 = .ok (.bipush (-2), 2) by decide +kernel) (by decide +kernel) ?_
          exact lab_102 S x2 (-2) x2 h
      · intro h
        have h : dc_wp (mm_lay_0_L109 S x1) F_54 := hr_69 S (dc_some h)
        exact dc_sub [0, 1] rfl (lab_109 S x1 h)
    have lab_69 : ∀ (S : md_S) (x1 : Int32) (x2 : Int32), dc_wp (mm_lay_0_L69 S x1 x2) F_54 → dc_G X l { frames := 2, cells := 0, slots := 0, locals := 50 } D 6 0 0 (md_W o a ca S) 69 [(0, .ref o), (1, .int x1), (2, .int x2)] [] := fun S x1 x2 h => loop_69 x1 (S, x2) (dc_bind h)
    rintro ⟨S, x1⟩ h
    have h : dc_wp (mm_lay_0_b54 S x1) F_54 := h
    delta mm_lay_0_b54 at h
    refine dc_iloadn (pc := 54) (j := 1) (i := 1) hC 1 rfl rfl (show decode prog_15_method_106_code 54 = .ok (.iload_n 1, 1) by decide +kernel) ?_
    refine dc_aloadn (pc := 55) (j := 0) (i := 0) hC 0 rfl rfl (show decode prog_15_method_106_code 55 = .ok (.aload_n 0, 1) by decide +kernel) ?_
    refine md_g46 (pc := 56) hC (show decode prog_15_method_106_code 56 = .ok (.getfield 530, 3) by decide +kernel) ?_
    refine dc_aloadn (pc := 59) (j := 0) (i := 0) hC 0 rfl rfl (show decode prog_15_method_106_code 59 = .ok (.aload_n 0, 1) by decide +kernel) ?_
    refine md_g47 (pc := 60) hC (show decode prog_15_method_106_code 60 = .ok (.getfield 498, 3) by decide +kernel) ?_
    refine dc_iadd (pc := 63) hC (show decode prog_15_method_106_code 63 = .ok (.iadd, 1) by decide +kernel) ?_
    refine dc_icmp_gt (pc := 64) (tgt := 204) hC (show decode prog_15_method_106_code 64 = .ok (.if_icmp .gt 140, 3) by decide +kernel) (by decide +kernel) h ?_ ?_
    · intro h
      have h : dc_wp (mm_lay_0_L204 S) F := hr_54 S (dc_some h)
      exact dc_sub [0] rfl (lab_204 S h)
    · intro h
      refine dc_iconst (pc := 67) (v := 0) hC (show decode prog_15_method_106_code 67 = .ok (.iconst 0, 1) by decide +kernel) (by decide +kernel) ?_
      refine dc_istoren (pc := 68) (j := 2) (i := 2) (lv' := [(2, .int 0), (0, .ref o), (1, .int x1)]) hC rfl (Nat.le_of_ble_eq_true rfl) rfl (show decode prog_15_method_106_code 68 = .ok (.istore_n 2, 1) by decide +kernel) ?_
      exact dc_sub [1, 2, 0] rfl (lab_69 S x1 0 h)
  have lab_54 : ∀ (S : md_S) (x1 : Int32), dc_wp (mm_lay_0_L54 S x1) F → dc_G X l { frames := 2, cells := 0, slots := 0, locals := 50 } D 6 0 0 (md_W o a ca S) 54 [(0, .ref o), (1, .int x1)] [] := fun S x1 h => loop_54  (S, x1) (dc_bind h)
  have lab_52 : ∀ (S : md_S), dc_wp (mm_lay_0_L52 S) F → dc_G X l { frames := 2, cells := 0, slots := 0, locals := 50 } D 6 0 0 (md_W o a ca S) 52 [(0, .ref o)] [] := by
    intro S  h
    delta mm_lay_0_L52 at h
    refine dc_iconst (pc := 52) (v := 0) hC (show decode prog_15_method_106_code 52 = .ok (.iconst 0, 1) by decide +kernel) (by decide +kernel) ?_
    refine dc_istoren (pc := 53) (j := 1) (i := 1) (lv' := [(1, .int 0), (0, .ref o)]) hC rfl (Nat.le_of_ble_eq_true rfl) rfl (show decode prog_15_method_106_code 53 = .ok (.istore_n 1, 1) by decide +kernel) ?_
    exact dc_sub [1, 0] rfl (lab_54 S 0 h)
  have loop_33 : ∀ (q : md_S × Int32), dc_wp (dc_it (mm_lay_0_s33) q) (fun z => dc_wp ((fun (z : md_S) => mm_lay_0_L52 z) z) F) → dc_G X l { frames := 2, cells := 0, slots := 0, locals := 50 } D 6 0 0 (md_W o a ca q.1) 33 [(0, .ref o), (1, .int q.2)] [] := by
    refine dc_loopF ?_
    intro F_33 hl_33 hr_33
    rintro ⟨S, x1⟩ h
    have h : dc_wp (mm_lay_0_b33 S x1) F_33 := h
    delta mm_lay_0_b33 at h
    refine dc_iloadn (pc := 33) (j := 1) (i := 1) hC 1 rfl rfl (show decode prog_15_method_106_code 33 = .ok (.iload_n 1, 1) by decide +kernel) ?_
    refine dc_ldc (pc := 34) (v := 65536) hC w_1561 (show decode prog_15_method_106_code 34 = .ok (.ldc 199, 2) by decide +kernel) ?_
    refine dc_icmp_ge (pc := 36) (tgt := 52) hC (show decode prog_15_method_106_code 36 = .ok (.if_icmp .ge 16, 3) by decide +kernel) (by decide +kernel) h ?_ ?_
    · intro h
      refine dc_aloadn (pc := 39) (j := 0) (i := 0) hC 0 rfl rfl (show decode prog_15_method_106_code 39 = .ok (.aload_n 0, 1) by decide +kernel) ?_
      refine md_g104 (pc := 40) hC (show decode prog_15_method_106_code 40 = .ok (.getfield 200, 3) by decide +kernel) ?_
      refine dc_iloadn (pc := 43) (j := 1) (i := 1) hC 1 rfl rfl (show decode prog_15_method_106_code 43 = .ok (.iload_n 1, 1) by decide +kernel) ?_
      refine dc_iconst (pc := 44) (v := 0) hC (show decode prog_15_method_106_code 44 = .ok (.iconst 0, 1) by decide +kernel) (by decide +kernel) ?_
      refine md_s104 (pc := 45) hC (show decode prog_15_method_106_code 45 = .ok (.iastore, 1) by decide +kernel) h ?_
      intro j15 h
      refine dc_letS h ?_
      intro S16 h
      refine dc_iinc (pc := 46) (i := 1) (v := (x1 + 1)) (lv' := [(1, .int (x1 + 1)), (0, .ref o)]) hC 1 rfl rfl (Nat.le_of_ble_eq_true rfl) rfl (show decode prog_15_method_106_code 46 = .ok (.iinc 1 1, 3) by decide +kernel) ?_
      refine dc_goto (pc := 49) (tgt := 33) hC (show decode prog_15_method_106_code 49 = .ok (.goto (-16), 3) by decide +kernel) (by decide +kernel) ?_
      exact dc_sub [1, 0] rfl (hl_33 (S16, (x1 + 1)) (dc_some h))
    · intro h
      have h : dc_wp (mm_lay_0_L52 S) F := hr_33 S (dc_some h)
      exact dc_sub [0] rfl (lab_52 S h)
  have lab_33 : ∀ (S : md_S) (x1 : Int32), dc_wp (mm_lay_0_L33 S x1) F → dc_G X l { frames := 2, cells := 0, slots := 0, locals := 50 } D 6 0 0 (md_W o a ca S) 33 [(0, .ref o), (1, .int x1)] [] := fun S x1 h => loop_33  (S, x1) (dc_bind h)
  have lab_13 : ∀ (S : md_S) (y0 : Int32), dc_wp (mm_lay_0_L13 S y0) F → dc_G X l { frames := 2, cells := 0, slots := 0, locals := 50 } D 6 0 0 (md_W o a ca S) 13 [(0, .ref o)] [.int y0, .ref o] := by
    intro S y0 h
    delta mm_lay_0_L13 at h
    refine dc_iconst (pc := 13) (v := 0) hC (show decode prog_15_method_106_code 13 = .ok (.iconst 0, 1) by decide +kernel) (by decide +kernel) ?_
    refine mc_Vmi (pc := 14) (As := [.int y0, .int 0]) (rest := []) hC vw_fails_615 (mm_fails_ok l D ad de o a ca S y0 0) (Nat.le_of_ble_eq_true rfl) (Nat.le_of_ble_eq_true rfl) rfl (Nat.le_of_ble_eq_true rfl) (show decode prog_15_method_106_code 14 = .ok (.invokevirtual 615, 3) by decide +kernel) h ?_
    intro q17 h
    refine dc_if_eq (pc := 17) (tgt := 22) hC (show decode prog_15_method_106_code 17 = .ok (.ifCond .eq 5, 3) by decide +kernel) (by decide +kernel) h ?_ ?_
    · intro h
      refine dc_aloadn (pc := 22) (j := 0) (i := 0) hC 0 rfl rfl (show decode prog_15_method_106_code 22 = .ok (.aload_n 0, 1) by decide +kernel) ?_
      refine mc_Vmv (pc := 23) (As := []) (rest := []) hC vw_tables_662 (mm_tables_ok l D ad de o a ca q17.1) (Nat.le_of_ble_eq_true rfl) (Nat.le_of_ble_eq_true rfl) rfl (Nat.le_of_ble_eq_true rfl) (show decode prog_15_method_106_code 23 = .ok (.invokevirtual 662, 3) by decide +kernel) h ?_
      intro q18 h
      refine dc_aloadn (pc := 26) (j := 0) (i := 0) hC 0 rfl rfl (show decode prog_15_method_106_code 26 = .ok (.aload_n 0, 1) by decide +kernel) ?_
      refine dc_iconst (pc := 27) (v := 0) hC (show decode prog_15_method_106_code 27 = .ok (.iconst 0, 1) by decide +kernel) (by decide +kernel) ?_
      refine md_p106 (pc := 28) hC (show decode prog_15_method_106_code 28 = .ok (.putfield 524, 3) by decide +kernel) ?_
      refine dc_letS h ?_
      intro S19 h
      refine dc_iconst (pc := 31) (v := 0) hC (show decode prog_15_method_106_code 31 = .ok (.iconst 0, 1) by decide +kernel) (by decide +kernel) ?_
      refine dc_istoren (pc := 32) (j := 1) (i := 1) (lv' := [(1, .int 0), (0, .ref o)]) hC rfl (Nat.le_of_ble_eq_true rfl) rfl (show decode prog_15_method_106_code 32 = .ok (.istore_n 1, 1) by decide +kernel) ?_
      exact dc_sub [1, 0] rfl (lab_33 S19 0 h)
    · intro h
      refine dc_iconst (pc := 20) (v := 0) hC (show decode prog_15_method_106_code 20 = .ok (.iconst 0, 1) by decide +kernel) (by decide +kernel) ?_
      exact dc_iret (pc := 21) hC hR ⟨_, dc_some h, rfl, rfl⟩ (show decode prog_15_method_106_code 21 = .ok (.ireturn, 1) by decide +kernel)
  show dc_G X l { frames := 2, cells := 0, slots := 0, locals := 50 } D 6 0 0 (md_W o a ca S) 0 [(0, .ref o)] []
  delta mm_lay_0 at h
  refine dc_aloadn (pc := 0) (j := 0) (i := 0) hC 0 rfl rfl (show decode prog_15_method_106_code 0 = .ok (.aload_n 0, 1) by decide +kernel) ?_
  refine dc_aloadn (pc := 1) (j := 0) (i := 0) hC 0 rfl rfl (show decode prog_15_method_106_code 1 = .ok (.aload_n 0, 1) by decide +kernel) ?_
  refine md_g85 (pc := 2) hC (show decode prog_15_method_106_code 2 = .ok (.getfield 518, 3) by decide +kernel) ?_
  refine dc_if_ne (pc := 5) (tgt := 12) hC (show decode prog_15_method_106_code 5 = .ok (.ifCond .ne 7, 3) by decide +kernel) (by decide +kernel) h ?_ ?_
  · intro h
    refine dc_iconst (pc := 8) (v := 1) hC (show decode prog_15_method_106_code 8 = .ok (.iconst 1, 1) by decide +kernel) (by decide +kernel) ?_
    refine dc_goto (pc := 9) (tgt := 13) hC (show decode prog_15_method_106_code 9 = .ok (.goto 4, 3) by decide +kernel) (by decide +kernel) ?_
    exact lab_13 S 1 h
  · intro h
    refine dc_iconst (pc := 12) (v := 0) hC (show decode prog_15_method_106_code 12 = .ok (.iconst 0, 1) by decide +kernel) (by decide +kernel) ?_
    exact lab_13 S 0 h
noncomputable def mm_pass_L36 (S : md_S) (x1 : Int32) (y0 : Int32) (y1 : Int32) : Option (md_S × Int64) :=
  (mm_fails S y1 y0).bind fun q1 => if q1.2 = 0 then ((dc_ix x1 8192).bind fun j2 => some (q1.1, (q1.1.2.2.2 j2))) else (some (q1.1, 0))
noncomputable def mm_pass_L35 (S : md_S) (x1 : Int32) (y0 : Int32) : Option (md_S × Int64) :=
  mm_pass_L36 S x1 0 y0
noncomputable def mm_pass_L31 (S : md_S) (x1 : Int32) (y0 : Int32) : Option (md_S × Int64) :=
  mm_pass_L36 S x1 1 y0
noncomputable def mm_pass_L13 (S : md_S) (x1 : Int32) (y0 : Int32) : Option (md_S × Int64) :=
  if (S.1 86) = 0 then (mm_pass_L35 S x1 y0) else (if x1 < 0 then (mm_pass_L31 S x1 y0) else (if (8191 : Int32) < x1 then (mm_pass_L31 S x1 y0) else (mm_pass_L35 S x1 y0)))
noncomputable def mm_pass (S : md_S) (p1 : Int32) : Option (md_S × Int64) :=
  if (S.1 86) = 0 then (mm_pass_L13 S p1 1) else (mm_pass_L13 S p1 0)
set_option maxHeartbeats 4000000 in
set_option maxRecDepth 100000 in
/-- pass(I)J -/
theorem mm_pass_ok (l : Launch) (D : va_G) (ad : Nat → Nat) (de : Nat) (o : Nat) (a : Nat → Nat) (ca : Nat → ClassId) (S : md_S) (p1 : Int32) (F : (md_S × Int64) → Prop) (h : dc_wp (mm_pass S p1) F) : dc_Cl l ⟨"SignalEngineModel", "pass", "(I)J"⟩ prog_15_method_107_code 2 (some (.long)) 1 22 D (md_T ca) ad de [.ref o, .int p1] (md_W o a ca S) (fun r w => ∃ q, F q ∧ r = q.2 ∧ w = md_W o a ca q.1) 0 0 := by
  refine dc_enterl (by decide +kernel) (Nat.le_of_ble_eq_true rfl) ?_
  intro X hC hR
  have lab_36 : ∀ (S : md_S) (x1 : Int32) (y0 : Int32) (y1 : Int32), dc_wp (mm_pass_L36 S x1 y0 y1) F → dc_G X l { frames := 1, cells := 0, slots := 0, locals := 22 } D 2 0 0 (md_W o a ca S) 36 [(0, .ref o), (1, .int x1)] [.int y0, .int y1, .ref o] := by
    intro S x1 y0 y1 h
    delta mm_pass_L36 at h
    refine mc_Vmi (pc := 36) (As := [.int y1, .int y0]) (rest := []) hC vw_fails_615 (mm_fails_ok l D ad de o a ca S y1 y0) (Nat.le_of_ble_eq_true rfl) (Nat.le_of_ble_eq_true rfl) rfl (Nat.le_of_ble_eq_true rfl) (show decode prog_15_method_107_code 36 = .ok (.invokevirtual 615, 3) by decide +kernel) h ?_
    intro q1 h
    refine dc_if_eq (pc := 39) (tgt := 44) hC (show decode prog_15_method_107_code 39 = .ok (.ifCond .eq 5, 3) by decide +kernel) (by decide +kernel) h ?_ ?_
    · intro h
      refine dc_aloadn (pc := 44) (j := 0) (i := 0) hC 0 rfl rfl (show decode prog_15_method_107_code 44 = .ok (.aload_n 0, 1) by decide +kernel) ?_
      refine md_g98 (pc := 45) hC (show decode prog_15_method_107_code 45 = .ok (.getfield 180, 3) by decide +kernel) ?_
      refine dc_iloadn (pc := 48) (j := 1) (i := 1) hC 1 rfl rfl (show decode prog_15_method_107_code 48 = .ok (.iload_n 1, 1) by decide +kernel) ?_
      refine md_l98 (pc := 49) hC (show decode prog_15_method_107_code 49 = .ok (.laload, 1) by decide +kernel) h ?_
      intro j2 h
      exact dc_lret (pc := 50) hC hR ⟨_, dc_some h, rfl, rfl⟩ (show decode prog_15_method_107_code 50 = .ok (.lreturn, 1) by decide +kernel)
    · intro h
      refine dc_lconst (pc := 42) (v := 0) hC (show decode prog_15_method_107_code 42 = .ok (.lconst 0, 1) by decide +kernel) (by decide +kernel) ?_
      exact dc_lret (pc := 43) hC hR ⟨_, dc_some h, rfl, rfl⟩ (show decode prog_15_method_107_code 43 = .ok (.lreturn, 1) by decide +kernel)
  have lab_35 : ∀ (S : md_S) (x1 : Int32) (y0 : Int32), dc_wp (mm_pass_L35 S x1 y0) F → dc_G X l { frames := 1, cells := 0, slots := 0, locals := 22 } D 2 0 0 (md_W o a ca S) 35 [(0, .ref o), (1, .int x1)] [.int y0, .ref o] := by
    intro S x1 y0 h
    delta mm_pass_L35 at h
    refine dc_iconst (pc := 35) (v := 0) hC (show decode prog_15_method_107_code 35 = .ok (.iconst 0, 1) by decide +kernel) (by decide +kernel) ?_
    exact lab_36 S x1 0 y0 h
  have lab_31 : ∀ (S : md_S) (x1 : Int32) (y0 : Int32), dc_wp (mm_pass_L31 S x1 y0) F → dc_G X l { frames := 1, cells := 0, slots := 0, locals := 22 } D 2 0 0 (md_W o a ca S) 31 [(0, .ref o), (1, .int x1)] [.int y0, .ref o] := by
    intro S x1 y0 h
    delta mm_pass_L31 at h
    refine dc_iconst (pc := 31) (v := 1) hC (show decode prog_15_method_107_code 31 = .ok (.iconst 1, 1) by decide +kernel) (by decide +kernel) ?_
    refine dc_goto (pc := 32) (tgt := 36) hC (show decode prog_15_method_107_code 32 = .ok (.goto 4, 3) by decide +kernel) (by decide +kernel) ?_
    exact lab_36 S x1 1 y0 h
  have lab_13 : ∀ (S : md_S) (x1 : Int32) (y0 : Int32), dc_wp (mm_pass_L13 S x1 y0) F → dc_G X l { frames := 1, cells := 0, slots := 0, locals := 22 } D 2 0 0 (md_W o a ca S) 13 [(0, .ref o), (1, .int x1)] [.int y0, .ref o] := by
    intro S x1 y0 h
    delta mm_pass_L13 at h
    refine dc_aloadn (pc := 13) (j := 0) (i := 0) hC 0 rfl rfl (show decode prog_15_method_107_code 13 = .ok (.aload_n 0, 1) by decide +kernel) ?_
    refine md_g86 (pc := 14) hC (show decode prog_15_method_107_code 14 = .ok (.getfield 515, 3) by decide +kernel) ?_
    refine dc_if_eq (pc := 17) (tgt := 35) hC (show decode prog_15_method_107_code 17 = .ok (.ifCond .eq 18, 3) by decide +kernel) (by decide +kernel) h ?_ ?_
    · intro h
      exact lab_35 S x1 y0 h
    · intro h
      refine dc_iloadn (pc := 20) (j := 1) (i := 1) hC 1 rfl rfl (show decode prog_15_method_107_code 20 = .ok (.iload_n 1, 1) by decide +kernel) ?_
      refine dc_if_lt (pc := 21) (tgt := 31) hC (show decode prog_15_method_107_code 21 = .ok (.ifCond .lt 10, 3) by decide +kernel) (by decide +kernel) h ?_ ?_
      · intro h
        exact lab_31 S x1 y0 h
      · intro h
        refine dc_iloadn (pc := 24) (j := 1) (i := 1) hC 1 rfl rfl (show decode prog_15_method_107_code 24 = .ok (.iload_n 1, 1) by decide +kernel) ?_
        refine dc_sipush (pc := 25) (v := 8191) hC (show decode prog_15_method_107_code 25 = .ok (.sipush 8191, 3) by decide +kernel) (by decide +kernel) ?_
        refine dc_icmp_le (pc := 28) (tgt := 35) hC (show decode prog_15_method_107_code 28 = .ok (.if_icmp .le 7, 3) by decide +kernel) (by decide +kernel) h ?_ ?_
        · intro h
          exact lab_31 S x1 y0 h
        · intro h
          exact lab_35 S x1 y0 h
  show dc_G X l { frames := 1, cells := 0, slots := 0, locals := 22 } D 2 0 0 (md_W o a ca S) 0 [(0, .ref o), (1, .int p1)] []
  delta mm_pass at h
  refine dc_aloadn (pc := 0) (j := 0) (i := 0) hC 0 rfl rfl (show decode prog_15_method_107_code 0 = .ok (.aload_n 0, 1) by decide +kernel) ?_
  refine dc_aloadn (pc := 1) (j := 0) (i := 0) hC 0 rfl rfl (show decode prog_15_method_107_code 1 = .ok (.aload_n 0, 1) by decide +kernel) ?_
  refine md_g86 (pc := 2) hC (show decode prog_15_method_107_code 2 = .ok (.getfield 515, 3) by decide +kernel) ?_
  refine dc_if_ne (pc := 5) (tgt := 12) hC (show decode prog_15_method_107_code 5 = .ok (.ifCond .ne 7, 3) by decide +kernel) (by decide +kernel) h ?_ ?_
  · intro h
    refine dc_iconst (pc := 8) (v := 1) hC (show decode prog_15_method_107_code 8 = .ok (.iconst 1, 1) by decide +kernel) (by decide +kernel) ?_
    refine dc_goto (pc := 9) (tgt := 13) hC (show decode prog_15_method_107_code 9 = .ok (.goto 4, 3) by decide +kernel) (by decide +kernel) ?_
    exact lab_13 S p1 1 h
  · intro h
    refine dc_iconst (pc := 12) (v := 0) hC (show decode prog_15_method_107_code 12 = .ok (.iconst 0, 1) by decide +kernel) (by decide +kernel) ?_
    exact lab_13 S p1 0 h
noncomputable def mm_level_L48 (S : md_S) (x2 : Int32) : Option (md_S × Int32) :=
  some (S, x2)
noncomputable def mm_level_L40 (S : md_S) (x1 : Int32) (x3 : Int32) (y0 : Int32) (y1 : Int32) : Option ((Int32 × Int32) ⊕ ((Int32))) :=
  dc_let ((y1 + y0) : Int32) fun v1 => some (.inl (v1, (x3 + 1)))
noncomputable def mm_level_b9 (S : md_S) (x1 : Int32) (x2 : Int32) (x3 : Int32) : Option ((Int32 × Int32) ⊕ ((Int32))) :=
  if x3 < (S.1 106) then (if (S.1 86) = 0 then (some (.inr x2)) else ((dc_ix x3 24000).bind fun j2 => if (S.2.1 101 j2) = x1 then (mm_level_L40 S x1 x3 1 x2) else (mm_level_L40 S x1 x3 0 x2))) else (some (.inr x2))
noncomputable def mm_level_s9 (S : md_S) (x1 : Int32) (q : Int32 × Int32) : Option ((Int32 × Int32) ⊕ ((Int32))) :=
  mm_level_b9 S x1 q.1 q.2
noncomputable def mm_level_L9 (S : md_S) (x1 : Int32) (x2 : Int32) (x3 : Int32) : Option (md_S × Int32) :=
  (dc_it (mm_level_s9 S x1) (x2, x3)).bind (fun (z : Int32) => mm_level_L48 S z)
noncomputable def mm_level (S : md_S) (p1 : Int32) : Option (md_S × Int32) :=
  dc_let (md_i S 0 0) fun S3 => mm_level_L9 S3 p1 0 0
set_option maxHeartbeats 4000000 in
set_option maxRecDepth 100000 in
/-- level(I)I -/
theorem mm_level_ok (l : Launch) (D : va_G) (ad : Nat → Nat) (de : Nat) (o : Nat) (a : Nat → Nat) (ca : Nat → ClassId) (S : md_S) (p1 : Int32) (F : (md_S × Int32) → Prop) (h : dc_wp (mm_level S p1) F) : dc_Ci l ⟨"SignalEngineModel", "level", "(I)I"⟩ prog_15_method_108_code 4 (some (.int)) 0 0 D (md_T ca) ad de [.ref o, .int p1] (md_W o a ca S) (fun r w => ∃ q, F q ∧ r = q.2 ∧ w = md_W o a ca q.1) 0 0 := by
  refine dc_enteri (by decide +kernel) (Nat.le_of_ble_eq_true rfl) ?_
  intro X hC hR
  have lab_48 : ∀ (S : md_S) (x2 : Int32), dc_wp (mm_level_L48 S x2) F → dc_G X l { frames := 0, cells := 0, slots := 0, locals := 0 } D 4 0 0 (md_W o a ca S) 48 [(0, .ref o), (2, .int x2)] [] := by
    intro S x2 h
    delta mm_level_L48 at h
    refine dc_iloadn (pc := 48) (j := 2) (i := 2) hC 1 rfl rfl (show decode prog_15_method_108_code 48 = .ok (.iload_n 2, 1) by decide +kernel) ?_
    exact dc_iret (pc := 49) hC hR ⟨_, dc_some h, rfl, rfl⟩ (show decode prog_15_method_108_code 49 = .ok (.ireturn, 1) by decide +kernel)
  have loop_9 : ∀ (S : md_S) (x1 : Int32) (q : Int32 × Int32), dc_wp (dc_it (mm_level_s9 S x1) q) (fun z => dc_wp ((fun (z : Int32) => mm_level_L48 S z) z) F) → dc_G X l { frames := 0, cells := 0, slots := 0, locals := 0 } D 4 0 0 (md_W o a ca S) 9 [(0, .ref o), (1, .int x1), (2, .int q.1), (3, .int q.2)] [] := by
    intro S x1
    refine dc_loopF ?_
    intro F_9 hl_9 hr_9
    have lab_40 : ∀ (x3 : Int32) (y0 : Int32) (y1 : Int32), dc_wp (mm_level_L40 S x1 x3 y0 y1) F_9 → dc_G X l { frames := 0, cells := 0, slots := 0, locals := 0 } D 4 0 0 (md_W o a ca S) 40 [(0, .ref o), (1, .int x1), (3, .int x3)] [.int y0, .int y1] := by
      intro x3 y0 y1 h
      delta mm_level_L40 at h
      refine dc_iadd (pc := 40) hC (show decode prog_15_method_108_code 40 = .ok (.iadd, 1) by decide +kernel) ?_
      refine dc_letI h ?_
      intro v1 h
      refine dc_istoren (pc := 41) (j := 2) (i := 2) (lv' := [(2, .int v1), (0, .ref o), (1, .int x1), (3, .int x3)]) hC rfl (Nat.le_of_ble_eq_true rfl) rfl (show decode prog_15_method_108_code 41 = .ok (.istore_n 2, 1) by decide +kernel) ?_
      refine dc_iinc (pc := 42) (i := 3) (v := (x3 + 1)) (lv' := [(3, .int (x3 + 1)), (2, .int v1), (0, .ref o), (1, .int x1)]) hC 3 rfl rfl (Nat.le_of_ble_eq_true rfl) rfl (show decode prog_15_method_108_code 42 = .ok (.iinc 3 1, 3) by decide +kernel) ?_
      refine dc_goto (pc := 45) (tgt := 9) hC (show decode prog_15_method_108_code 45 = .ok (.goto (-36), 3) by decide +kernel) (by decide +kernel) ?_
      exact dc_sub [2, 3, 1, 0] rfl (hl_9 (v1, (x3 + 1)) (dc_some h))
    rintro ⟨x2, x3⟩ h
    have h : dc_wp (mm_level_b9 S x1 x2 x3) F_9 := h
    delta mm_level_b9 at h
    refine dc_iloadn (pc := 9) (j := 3) (i := 3) hC 3 rfl rfl (show decode prog_15_method_108_code 9 = .ok (.iload_n 3, 1) by decide +kernel) ?_
    refine dc_aloadn (pc := 10) (j := 0) (i := 0) hC 0 rfl rfl (show decode prog_15_method_108_code 10 = .ok (.aload_n 0, 1) by decide +kernel) ?_
    refine md_g106 (pc := 11) hC (show decode prog_15_method_108_code 11 = .ok (.getfield 524, 3) by decide +kernel) ?_
    refine dc_icmp_ge (pc := 14) (tgt := 48) hC (show decode prog_15_method_108_code 14 = .ok (.if_icmp .ge 34, 3) by decide +kernel) (by decide +kernel) h ?_ ?_
    · intro h
      refine dc_aloadn (pc := 17) (j := 0) (i := 0) hC 0 rfl rfl (show decode prog_15_method_108_code 17 = .ok (.aload_n 0, 1) by decide +kernel) ?_
      refine md_g86 (pc := 18) hC (show decode prog_15_method_108_code 18 = .ok (.getfield 515, 3) by decide +kernel) ?_
      refine dc_if_eq (pc := 21) (tgt := 48) hC (show decode prog_15_method_108_code 21 = .ok (.ifCond .eq 27, 3) by decide +kernel) (by decide +kernel) h ?_ ?_
      · intro h
        have h : dc_wp (mm_level_L48 S x2) F := hr_9 x2 (dc_some h)
        exact dc_sub [0, 2] rfl (lab_48 S x2 h)
      · intro h
        refine dc_iloadn (pc := 24) (j := 2) (i := 2) hC 2 rfl rfl (show decode prog_15_method_108_code 24 = .ok (.iload_n 2, 1) by decide +kernel) ?_
        refine dc_aloadn (pc := 25) (j := 0) (i := 0) hC 0 rfl rfl (show decode prog_15_method_108_code 25 = .ok (.aload_n 0, 1) by decide +kernel) ?_
        refine md_g101 (pc := 26) hC (show decode prog_15_method_108_code 26 = .ok (.getfield 190, 3) by decide +kernel) ?_
        refine dc_iloadn (pc := 29) (j := 3) (i := 3) hC 3 rfl rfl (show decode prog_15_method_108_code 29 = .ok (.iload_n 3, 1) by decide +kernel) ?_
        refine md_l101 (pc := 30) hC (show decode prog_15_method_108_code 30 = .ok (.iaload, 1) by decide +kernel) h ?_
        intro j2 h
        refine dc_iloadn (pc := 31) (j := 1) (i := 1) hC 1 rfl rfl (show decode prog_15_method_108_code 31 = .ok (.iload_n 1, 1) by decide +kernel) ?_
        refine dc_icmp_ne (pc := 32) (tgt := 39) hC (show decode prog_15_method_108_code 32 = .ok (.if_icmp .ne 7, 3) by decide +kernel) (by decide +kernel) h ?_ ?_
        · intro h
          refine dc_iconst (pc := 35) (v := 1) hC (show decode prog_15_method_108_code 35 = .ok (.iconst 1, 1) by decide +kernel) (by decide +kernel) ?_
          refine dc_goto (pc := 36) (tgt := 40) hC (show decode prog_15_method_108_code 36 = .ok (.goto 4, 3) by decide +kernel) (by decide +kernel) ?_
          exact dc_sub [0, 1, 3] rfl (lab_40 x3 1 x2 h)
        · intro h
          refine dc_iconst (pc := 39) (v := 0) hC (show decode prog_15_method_108_code 39 = .ok (.iconst 0, 1) by decide +kernel) (by decide +kernel) ?_
          exact dc_sub [0, 1, 3] rfl (lab_40 x3 0 x2 h)
    · intro h
      have h : dc_wp (mm_level_L48 S x2) F := hr_9 x2 (dc_some h)
      exact dc_sub [0, 2] rfl (lab_48 S x2 h)
  have lab_9 : ∀ (S : md_S) (x1 : Int32) (x2 : Int32) (x3 : Int32), dc_wp (mm_level_L9 S x1 x2 x3) F → dc_G X l { frames := 0, cells := 0, slots := 0, locals := 0 } D 4 0 0 (md_W o a ca S) 9 [(0, .ref o), (1, .int x1), (2, .int x2), (3, .int x3)] [] := fun S x1 x2 x3 h => loop_9 S x1 (x2, x3) (dc_bind h)
  show dc_G X l { frames := 0, cells := 0, slots := 0, locals := 0 } D 4 0 0 (md_W o a ca S) 0 [(0, .ref o), (1, .int p1)] []
  delta mm_level at h
  refine dc_aloadn (pc := 0) (j := 0) (i := 0) hC 0 rfl rfl (show decode prog_15_method_108_code 0 = .ok (.aload_n 0, 1) by decide +kernel) ?_
  refine dc_iconst (pc := 1) (v := 0) hC (show decode prog_15_method_108_code 1 = .ok (.iconst 0, 1) by decide +kernel) (by decide +kernel) ?_
  refine md_p0 (pc := 2) hC (show decode prog_15_method_108_code 2 = .ok (.putfield 206, 3) by decide +kernel) ?_
  refine dc_letS h ?_
  intro S3 h
  refine dc_iconst (pc := 5) (v := 0) hC (show decode prog_15_method_108_code 5 = .ok (.iconst 0, 1) by decide +kernel) (by decide +kernel) ?_
  refine dc_istoren (pc := 6) (j := 2) (i := 2) (lv' := [(2, .int 0), (0, .ref o), (1, .int p1)]) hC rfl (Nat.le_of_ble_eq_true rfl) rfl (show decode prog_15_method_108_code 6 = .ok (.istore_n 2, 1) by decide +kernel) ?_
  refine dc_iconst (pc := 7) (v := 0) hC (show decode prog_15_method_108_code 7 = .ok (.iconst 0, 1) by decide +kernel) (by decide +kernel) ?_
  refine dc_istoren (pc := 8) (j := 3) (i := 3) (lv' := [(3, .int 0), (2, .int 0), (0, .ref o), (1, .int p1)]) hC rfl (Nat.le_of_ble_eq_true rfl) rfl (show decode prog_15_method_108_code 8 = .ok (.istore_n 3, 1) by decide +kernel) ?_
  exact dc_sub [2, 3, 1, 0] rfl (lab_9 S3 p1 0 0 h)
noncomputable def mm_size_L144 (S : md_S) (x2 : Int32) : Option (md_S × Int32) :=
  some (S, x2)
noncomputable def mm_size_L138 (S : md_S) (x2 : Int32) (x3 : Int32) : Option ((md_S × Int32 × Int32) ⊕ ((md_S × Int32))) :=
  some (.inl (S, x2, (x3 + (-1))))
noncomputable def mm_size_L117 (S : md_S) (x2 : Int32) (x3 : Int32) : Option ((md_S × Int32 × Int32) ⊕ ((md_S × Int32))) :=
  (dc_ix x3 24000).bind fun j1 => if (S.2.1 103 j1) < 0 then (mm_size_L138 S x2 x3) else ((dc_ix x3 24000).bind fun j2 => (dc_ix (S.2.1 103 j2) 24000).bind fun j3 => dc_let (md_a S 105 j3 1) fun S4 => mm_size_L138 S4 x2 x3)
noncomputable def mm_size_b77 (S : md_S) (x2 : Int32) (x3 : Int32) : Option ((md_S × Int32 × Int32) ⊕ ((md_S × Int32))) :=
  if x3 < 0 then (some (.inr (S, x2))) else ((dc_ix x3 24000).bind fun j5 => if (S.2.1 105 j5) = 0 then (mm_size_L138 S x2 x3) else ((dc_ix x3 24000).bind fun j6 => if (S.2.1 102 j6) < 0 then (mm_size_L117 S (x2 + 1) x3) else ((dc_ix x3 24000).bind fun j7 => (dc_ix (S.2.1 102 j7) 24000).bind fun j8 => dc_let (md_a S 105 j8 1) fun S9 => mm_size_L117 S9 (x2 + 1) x3)))
noncomputable def mm_size_s77 (q : md_S × Int32 × Int32) : Option ((md_S × Int32 × Int32) ⊕ ((md_S × Int32))) :=
  mm_size_b77 q.1 q.2.1 q.2.2
noncomputable def mm_size_L77 (S : md_S) (x2 : Int32) (x3 : Int32) : Option (md_S × Int32) :=
  (dc_it (mm_size_s77) (S, x2, x3)).bind (fun (z : md_S × Int32) => mm_size_L144 z.1 z.2)
noncomputable def mm_size_L68 (S : md_S) : Option (md_S × Int32) :=
  dc_let (((S.1 106) - 1) : Int32) fun v10 => mm_size_L77 S 0 v10
noncomputable def mm_size_L61 (S : md_S) (x1 : Int32) (x2 : Int32) (y0 : Int32) (y1 : Int32) : Option ((md_S × Int32) ⊕ ((md_S))) :=
  (dc_zb y0).bind fun _ => (dc_ix y1 24000).bind fun j12 => dc_let (md_a S 105 j12 y0) fun S13 => some (.inl (S13, (x2 + 1)))
noncomputable def mm_size_b33 (S : md_S) (x1 : Int32) (x2 : Int32) : Option ((md_S × Int32) ⊕ ((md_S))) :=
  if x2 < (S.1 106) then ((dc_ix x1 40).bind fun j14 => if x2 = (S.2.1 100 j14) then (mm_size_L61 S x1 x2 1 x2) else (mm_size_L61 S x1 x2 0 x2)) else (some (.inr S))
noncomputable def mm_size_s33 (x1 : Int32) (q : md_S × Int32) : Option ((md_S × Int32) ⊕ ((md_S))) :=
  mm_size_b33 q.1 x1 q.2
noncomputable def mm_size_L33 (S : md_S) (x1 : Int32) (x2 : Int32) : Option (md_S × Int32) :=
  (dc_it (mm_size_s33 x1) (S, x2)).bind (fun (z : md_S) => mm_size_L68 z)
noncomputable def mm_size_L29 (S : md_S) : Option (md_S × Int32) :=
  some (S, (-1))
noncomputable def mm_size (S : md_S) (p1 : Int32) : Option (md_S × Int32) :=
  dc_let (md_i S 0 0) fun S15 => if (S15.1 86) = 0 then (mm_size_L29 S15) else (if p1 < 0 then (mm_size_L29 S15) else (if ((S15.1 46) + (S15.1 47)) < p1 then (mm_size_L29 S15) else (mm_size_L33 S15 p1 0)))
set_option maxHeartbeats 4000000 in
set_option maxRecDepth 100000 in
/-- size(I)I -/
theorem mm_size_ok (l : Launch) (D : va_G) (ad : Nat → Nat) (de : Nat) (o : Nat) (a : Nat → Nat) (ca : Nat → ClassId) (S : md_S) (p1 : Int32) (F : (md_S × Int32) → Prop) (h : dc_wp (mm_size S p1) F) : dc_Ci l ⟨"SignalEngineModel", "size", "(I)I"⟩ prog_15_method_109_code 4 (some (.int)) 0 0 D (md_T ca) ad de [.ref o, .int p1] (md_W o a ca S) (fun r w => ∃ q, F q ∧ r = q.2 ∧ w = md_W o a ca q.1) 0 0 := by
  refine dc_enteri (by decide +kernel) (Nat.le_of_ble_eq_true rfl) ?_
  intro X hC hR
  have lab_144 : ∀ (S : md_S) (x2 : Int32), dc_wp (mm_size_L144 S x2) F → dc_G X l { frames := 0, cells := 0, slots := 0, locals := 0 } D 4 0 0 (md_W o a ca S) 144 [(0, .ref o), (2, .int x2)] [] := by
    intro S x2 h
    delta mm_size_L144 at h
    refine dc_iloadn (pc := 144) (j := 2) (i := 2) hC 1 rfl rfl (show decode prog_15_method_109_code 144 = .ok (.iload_n 2, 1) by decide +kernel) ?_
    exact dc_iret (pc := 145) hC hR ⟨_, dc_some h, rfl, rfl⟩ (show decode prog_15_method_109_code 145 = .ok (.ireturn, 1) by decide +kernel)
  have loop_77 : ∀ (q : md_S × Int32 × Int32), dc_wp (dc_it (mm_size_s77) q) (fun z => dc_wp ((fun (z : md_S × Int32) => mm_size_L144 z.1 z.2) z) F) → dc_G X l { frames := 0, cells := 0, slots := 0, locals := 0 } D 4 0 0 (md_W o a ca q.1) 77 [(0, .ref o), (2, .int q.2.1), (3, .int q.2.2)] [] := by
    refine dc_loopF ?_
    intro F_77 hl_77 hr_77
    have lab_138 : ∀ (S : md_S) (x2 : Int32) (x3 : Int32), dc_wp (mm_size_L138 S x2 x3) F_77 → dc_G X l { frames := 0, cells := 0, slots := 0, locals := 0 } D 4 0 0 (md_W o a ca S) 138 [(0, .ref o), (2, .int x2), (3, .int x3)] [] := by
      intro S x2 x3 h
      delta mm_size_L138 at h
      refine dc_iinc (pc := 138) (i := 3) (v := (x3 + (-1))) (lv' := [(3, .int (x3 + (-1))), (0, .ref o), (2, .int x2)]) hC 2 rfl (congrArg (fun z => x3 + z) (show Int32.ofInt (-1) = (-1 : Int32) by decide +kernel)) (Nat.le_of_ble_eq_true rfl) rfl (show decode prog_15_method_109_code 138 = .ok (.iinc 3 (-1), 3) by decide +kernel) ?_
      refine dc_goto (pc := 141) (tgt := 77) hC (show decode prog_15_method_109_code 141 = .ok (.goto (-64), 3) by decide +kernel) (by decide +kernel) ?_
      exact dc_sub [1, 2, 0] rfl (hl_77 (S, x2, (x3 + (-1))) (dc_some h))
    have lab_117 : ∀ (S : md_S) (x2 : Int32) (x3 : Int32), dc_wp (mm_size_L117 S x2 x3) F_77 → dc_G X l { frames := 0, cells := 0, slots := 0, locals := 0 } D 4 0 0 (md_W o a ca S) 117 [(0, .ref o), (2, .int x2), (3, .int x3)] [] := by
      intro S x2 x3 h
      delta mm_size_L117 at h
      refine dc_aloadn (pc := 117) (j := 0) (i := 0) hC 0 rfl rfl (show decode prog_15_method_109_code 117 = .ok (.aload_n 0, 1) by decide +kernel) ?_
      refine md_g103 (pc := 118) hC (show decode prog_15_method_109_code 118 = .ok (.getfield 196, 3) by decide +kernel) ?_
      refine dc_iloadn (pc := 121) (j := 3) (i := 3) hC 2 rfl rfl (show decode prog_15_method_109_code 121 = .ok (.iload_n 3, 1) by decide +kernel) ?_
      refine md_l103 (pc := 122) hC (show decode prog_15_method_109_code 122 = .ok (.iaload, 1) by decide +kernel) h ?_
      intro j1 h
      refine dc_if_lt (pc := 123) (tgt := 138) hC (show decode prog_15_method_109_code 123 = .ok (.ifCond .lt 15, 3) by decide +kernel) (by decide +kernel) h ?_ ?_
      · intro h
        exact lab_138 S x2 x3 h
      · intro h
        refine dc_aloadn (pc := 126) (j := 0) (i := 0) hC 0 rfl rfl (show decode prog_15_method_109_code 126 = .ok (.aload_n 0, 1) by decide +kernel) ?_
        refine md_g105 (pc := 127) hC (show decode prog_15_method_109_code 127 = .ok (.getfield 203, 3) by decide +kernel) ?_
        refine dc_aloadn (pc := 130) (j := 0) (i := 0) hC 0 rfl rfl (show decode prog_15_method_109_code 130 = .ok (.aload_n 0, 1) by decide +kernel) ?_
        refine md_g103 (pc := 131) hC (show decode prog_15_method_109_code 131 = .ok (.getfield 196, 3) by decide +kernel) ?_
        refine dc_iloadn (pc := 134) (j := 3) (i := 3) hC 2 rfl rfl (show decode prog_15_method_109_code 134 = .ok (.iload_n 3, 1) by decide +kernel) ?_
        refine md_l103 (pc := 135) hC (show decode prog_15_method_109_code 135 = .ok (.iaload, 1) by decide +kernel) h ?_
        intro j2 h
        refine dc_iconst (pc := 136) (v := 1) hC (show decode prog_15_method_109_code 136 = .ok (.iconst 1, 1) by decide +kernel) (by decide +kernel) ?_
        refine md_s105 (pc := 137) hC (Or.inr rfl) (show decode prog_15_method_109_code 137 = .ok (.bastore, 1) by decide +kernel) h ?_
        intro j3 h
        refine dc_letS h ?_
        intro S4 h
        exact lab_138 S4 x2 x3 h
    rintro ⟨S, x2, x3⟩ h
    have h : dc_wp (mm_size_b77 S x2 x3) F_77 := h
    delta mm_size_b77 at h
    refine dc_iloadn (pc := 77) (j := 3) (i := 3) hC 2 rfl rfl (show decode prog_15_method_109_code 77 = .ok (.iload_n 3, 1) by decide +kernel) ?_
    refine dc_if_lt (pc := 78) (tgt := 144) hC (show decode prog_15_method_109_code 78 = .ok (.ifCond .lt 66, 3) by decide +kernel) (by decide +kernel) h ?_ ?_
    · intro h
      have h : dc_wp (mm_size_L144 S x2) F := hr_77 (S, x2) (dc_some h)
      exact dc_sub [0, 1] rfl (lab_144 S x2 h)
    · intro h
      refine dc_aloadn (pc := 81) (j := 0) (i := 0) hC 0 rfl rfl (show decode prog_15_method_109_code 81 = .ok (.aload_n 0, 1) by decide +kernel) ?_
      refine md_g105 (pc := 82) hC (show decode prog_15_method_109_code 82 = .ok (.getfield 203, 3) by decide +kernel) ?_
      refine dc_iloadn (pc := 85) (j := 3) (i := 3) hC 2 rfl rfl (show decode prog_15_method_109_code 85 = .ok (.iload_n 3, 1) by decide +kernel) ?_
      refine md_l105 (pc := 86) hC (show decode prog_15_method_109_code 86 = .ok (.baload, 1) by decide +kernel) h ?_
      intro j5 h
      refine dc_if_ne (pc := 87) (tgt := 93) hC (show decode prog_15_method_109_code 87 = .ok (.ifCond .ne 6, 3) by decide +kernel) (by decide +kernel) h ?_ ?_
      · intro h
        refine dc_goto (pc := 90) (tgt := 138) hC (show decode prog_15_method_109_code 90 = .ok (.goto 48, 3) by decide +kernel) (by decide +kernel) ?_
        exact lab_138 S x2 x3 h
      · intro h
        refine dc_iinc (pc := 93) (i := 2) (v := (x2 + 1)) (lv' := [(2, .int (x2 + 1)), (0, .ref o), (3, .int x3)]) hC 1 rfl rfl (Nat.le_of_ble_eq_true rfl) rfl (show decode prog_15_method_109_code 93 = .ok (.iinc 2 1, 3) by decide +kernel) ?_
        refine dc_aloadn (pc := 96) (j := 0) (i := 0) hC 1 rfl rfl (show decode prog_15_method_109_code 96 = .ok (.aload_n 0, 1) by decide +kernel) ?_
        refine md_g102 (pc := 97) hC (show decode prog_15_method_109_code 97 = .ok (.getfield 193, 3) by decide +kernel) ?_
        refine dc_iloadn (pc := 100) (j := 3) (i := 3) hC 2 rfl rfl (show decode prog_15_method_109_code 100 = .ok (.iload_n 3, 1) by decide +kernel) ?_
        refine md_l102 (pc := 101) hC (show decode prog_15_method_109_code 101 = .ok (.iaload, 1) by decide +kernel) h ?_
        intro j6 h
        refine dc_if_lt (pc := 102) (tgt := 117) hC (show decode prog_15_method_109_code 102 = .ok (.ifCond .lt 15, 3) by decide +kernel) (by decide +kernel) h ?_ ?_
        · intro h
          exact dc_sub [1, 0, 2] rfl (lab_117 S (x2 + 1) x3 h)
        · intro h
          refine dc_aloadn (pc := 105) (j := 0) (i := 0) hC 1 rfl rfl (show decode prog_15_method_109_code 105 = .ok (.aload_n 0, 1) by decide +kernel) ?_
          refine md_g105 (pc := 106) hC (show decode prog_15_method_109_code 106 = .ok (.getfield 203, 3) by decide +kernel) ?_
          refine dc_aloadn (pc := 109) (j := 0) (i := 0) hC 1 rfl rfl (show decode prog_15_method_109_code 109 = .ok (.aload_n 0, 1) by decide +kernel) ?_
          refine md_g102 (pc := 110) hC (show decode prog_15_method_109_code 110 = .ok (.getfield 193, 3) by decide +kernel) ?_
          refine dc_iloadn (pc := 113) (j := 3) (i := 3) hC 2 rfl rfl (show decode prog_15_method_109_code 113 = .ok (.iload_n 3, 1) by decide +kernel) ?_
          refine md_l102 (pc := 114) hC (show decode prog_15_method_109_code 114 = .ok (.iaload, 1) by decide +kernel) h ?_
          intro j7 h
          refine dc_iconst (pc := 115) (v := 1) hC (show decode prog_15_method_109_code 115 = .ok (.iconst 1, 1) by decide +kernel) (by decide +kernel) ?_
          refine md_s105 (pc := 116) hC (Or.inr rfl) (show decode prog_15_method_109_code 116 = .ok (.bastore, 1) by decide +kernel) h ?_
          intro j8 h
          refine dc_letS h ?_
          intro S9 h
          exact dc_sub [1, 0, 2] rfl (lab_117 S9 (x2 + 1) x3 h)
  have lab_77 : ∀ (S : md_S) (x2 : Int32) (x3 : Int32), dc_wp (mm_size_L77 S x2 x3) F → dc_G X l { frames := 0, cells := 0, slots := 0, locals := 0 } D 4 0 0 (md_W o a ca S) 77 [(0, .ref o), (2, .int x2), (3, .int x3)] [] := fun S x2 x3 h => loop_77  (S, x2, x3) (dc_bind h)
  have lab_68 : ∀ (S : md_S), dc_wp (mm_size_L68 S) F → dc_G X l { frames := 0, cells := 0, slots := 0, locals := 0 } D 4 0 0 (md_W o a ca S) 68 [(0, .ref o)] [] := by
    intro S  h
    delta mm_size_L68 at h
    refine dc_iconst (pc := 68) (v := 0) hC (show decode prog_15_method_109_code 68 = .ok (.iconst 0, 1) by decide +kernel) (by decide +kernel) ?_
    refine dc_istoren (pc := 69) (j := 2) (i := 2) (lv' := [(2, .int 0), (0, .ref o)]) hC rfl (Nat.le_of_ble_eq_true rfl) rfl (show decode prog_15_method_109_code 69 = .ok (.istore_n 2, 1) by decide +kernel) ?_
    refine dc_aloadn (pc := 70) (j := 0) (i := 0) hC 1 rfl rfl (show decode prog_15_method_109_code 70 = .ok (.aload_n 0, 1) by decide +kernel) ?_
    refine md_g106 (pc := 71) hC (show decode prog_15_method_109_code 71 = .ok (.getfield 524, 3) by decide +kernel) ?_
    refine dc_iconst (pc := 74) (v := 1) hC (show decode prog_15_method_109_code 74 = .ok (.iconst 1, 1) by decide +kernel) (by decide +kernel) ?_
    refine dc_isub (pc := 75) hC (show decode prog_15_method_109_code 75 = .ok (.isub, 1) by decide +kernel) ?_
    refine dc_letI h ?_
    intro v10 h
    refine dc_istoren (pc := 76) (j := 3) (i := 3) (lv' := [(3, .int v10), (2, .int 0), (0, .ref o)]) hC rfl (Nat.le_of_ble_eq_true rfl) rfl (show decode prog_15_method_109_code 76 = .ok (.istore_n 3, 1) by decide +kernel) ?_
    exact dc_sub [2, 1, 0] rfl (lab_77 S 0 v10 h)
  have loop_33 : ∀ (x1 : Int32) (q : md_S × Int32), dc_wp (dc_it (mm_size_s33 x1) q) (fun z => dc_wp ((fun (z : md_S) => mm_size_L68 z) z) F) → dc_G X l { frames := 0, cells := 0, slots := 0, locals := 0 } D 4 0 0 (md_W o a ca q.1) 33 [(0, .ref o), (1, .int x1), (2, .int q.2)] [] := by
    intro x1
    refine dc_loopF ?_
    intro F_33 hl_33 hr_33
    have lab_61 : ∀ (S : md_S) (x2 : Int32) (y0 : Int32) (y1 : Int32), dc_wp (mm_size_L61 S x1 x2 y0 y1) F_33 → dc_G X l { frames := 0, cells := 0, slots := 0, locals := 0 } D 4 0 0 (md_W o a ca S) 61 [(0, .ref o), (1, .int x1), (2, .int x2)] [.int y0, .int y1, .ref (a 105)] := by
      intro S x2 y0 y1 h
      delta mm_size_L61 at h
      obtain ⟨hz11, h⟩ := dc_zb_wp (dc_bind h)
      refine md_s105 (pc := 61) hC hz11 (show decode prog_15_method_109_code 61 = .ok (.bastore, 1) by decide +kernel) h ?_
      intro j12 h
      refine dc_letS h ?_
      intro S13 h
      refine dc_iinc (pc := 62) (i := 2) (v := (x2 + 1)) (lv' := [(2, .int (x2 + 1)), (0, .ref o), (1, .int x1)]) hC 2 rfl rfl (Nat.le_of_ble_eq_true rfl) rfl (show decode prog_15_method_109_code 62 = .ok (.iinc 2 1, 3) by decide +kernel) ?_
      refine dc_goto (pc := 65) (tgt := 33) hC (show decode prog_15_method_109_code 65 = .ok (.goto (-32), 3) by decide +kernel) (by decide +kernel) ?_
      exact dc_sub [1, 2, 0] rfl (hl_33 (S13, (x2 + 1)) (dc_some h))
    rintro ⟨S, x2⟩ h
    have h : dc_wp (mm_size_b33 S x1 x2) F_33 := h
    delta mm_size_b33 at h
    refine dc_iloadn (pc := 33) (j := 2) (i := 2) hC 2 rfl rfl (show decode prog_15_method_109_code 33 = .ok (.iload_n 2, 1) by decide +kernel) ?_
    refine dc_aloadn (pc := 34) (j := 0) (i := 0) hC 0 rfl rfl (show decode prog_15_method_109_code 34 = .ok (.aload_n 0, 1) by decide +kernel) ?_
    refine md_g106 (pc := 35) hC (show decode prog_15_method_109_code 35 = .ok (.getfield 524, 3) by decide +kernel) ?_
    refine dc_icmp_ge (pc := 38) (tgt := 68) hC (show decode prog_15_method_109_code 38 = .ok (.if_icmp .ge 30, 3) by decide +kernel) (by decide +kernel) h ?_ ?_
    · intro h
      refine dc_aloadn (pc := 41) (j := 0) (i := 0) hC 0 rfl rfl (show decode prog_15_method_109_code 41 = .ok (.aload_n 0, 1) by decide +kernel) ?_
      refine md_g105 (pc := 42) hC (show decode prog_15_method_109_code 42 = .ok (.getfield 203, 3) by decide +kernel) ?_
      refine dc_iloadn (pc := 45) (j := 2) (i := 2) hC 2 rfl rfl (show decode prog_15_method_109_code 45 = .ok (.iload_n 2, 1) by decide +kernel) ?_
      refine dc_iloadn (pc := 46) (j := 2) (i := 2) hC 2 rfl rfl (show decode prog_15_method_109_code 46 = .ok (.iload_n 2, 1) by decide +kernel) ?_
      refine dc_aloadn (pc := 47) (j := 0) (i := 0) hC 0 rfl rfl (show decode prog_15_method_109_code 47 = .ok (.aload_n 0, 1) by decide +kernel) ?_
      refine md_g100 (pc := 48) hC (show decode prog_15_method_109_code 48 = .ok (.getfield 187, 3) by decide +kernel) ?_
      refine dc_iloadn (pc := 51) (j := 1) (i := 1) hC 1 rfl rfl (show decode prog_15_method_109_code 51 = .ok (.iload_n 1, 1) by decide +kernel) ?_
      refine md_l100 (pc := 52) hC (show decode prog_15_method_109_code 52 = .ok (.iaload, 1) by decide +kernel) h ?_
      intro j14 h
      refine dc_icmp_ne (pc := 53) (tgt := 60) hC (show decode prog_15_method_109_code 53 = .ok (.if_icmp .ne 7, 3) by decide +kernel) (by decide +kernel) h ?_ ?_
      · intro h
        refine dc_iconst (pc := 56) (v := 1) hC (show decode prog_15_method_109_code 56 = .ok (.iconst 1, 1) by decide +kernel) (by decide +kernel) ?_
        refine dc_goto (pc := 57) (tgt := 61) hC (show decode prog_15_method_109_code 57 = .ok (.goto 4, 3) by decide +kernel) (by decide +kernel) ?_
        exact lab_61 S x2 1 x2 h
      · intro h
        refine dc_iconst (pc := 60) (v := 0) hC (show decode prog_15_method_109_code 60 = .ok (.iconst 0, 1) by decide +kernel) (by decide +kernel) ?_
        exact lab_61 S x2 0 x2 h
    · intro h
      have h : dc_wp (mm_size_L68 S) F := hr_33 S (dc_some h)
      exact dc_sub [0] rfl (lab_68 S h)
  have lab_33 : ∀ (S : md_S) (x1 : Int32) (x2 : Int32), dc_wp (mm_size_L33 S x1 x2) F → dc_G X l { frames := 0, cells := 0, slots := 0, locals := 0 } D 4 0 0 (md_W o a ca S) 33 [(0, .ref o), (1, .int x1), (2, .int x2)] [] := fun S x1 x2 h => loop_33 x1 (S, x2) (dc_bind h)
  have lab_29 : ∀ (S : md_S), dc_wp (mm_size_L29 S) F → dc_G X l { frames := 0, cells := 0, slots := 0, locals := 0 } D 4 0 0 (md_W o a ca S) 29 [(0, .ref o)] [] := by
    intro S  h
    delta mm_size_L29 at h
    refine dc_iconst (pc := 29) (v := (-1)) hC (show decode prog_15_method_109_code 29 = .ok (.iconst (-1), 1) by decide +kernel) (by decide +kernel) ?_
    exact dc_iret (pc := 30) hC hR ⟨_, dc_some h, rfl, rfl⟩ (show decode prog_15_method_109_code 30 = .ok (.ireturn, 1) by decide +kernel)
  show dc_G X l { frames := 0, cells := 0, slots := 0, locals := 0 } D 4 0 0 (md_W o a ca S) 0 [(0, .ref o), (1, .int p1)] []
  delta mm_size at h
  refine dc_aloadn (pc := 0) (j := 0) (i := 0) hC 0 rfl rfl (show decode prog_15_method_109_code 0 = .ok (.aload_n 0, 1) by decide +kernel) ?_
  refine dc_iconst (pc := 1) (v := 0) hC (show decode prog_15_method_109_code 1 = .ok (.iconst 0, 1) by decide +kernel) (by decide +kernel) ?_
  refine md_p0 (pc := 2) hC (show decode prog_15_method_109_code 2 = .ok (.putfield 206, 3) by decide +kernel) ?_
  refine dc_letS h ?_
  intro S15 h
  refine dc_aloadn (pc := 5) (j := 0) (i := 0) hC 0 rfl rfl (show decode prog_15_method_109_code 5 = .ok (.aload_n 0, 1) by decide +kernel) ?_
  refine md_g86 (pc := 6) hC (show decode prog_15_method_109_code 6 = .ok (.getfield 515, 3) by decide +kernel) ?_
  refine dc_if_eq (pc := 9) (tgt := 29) hC (show decode prog_15_method_109_code 9 = .ok (.ifCond .eq 20, 3) by decide +kernel) (by decide +kernel) h ?_ ?_
  · intro h
    exact dc_sub [0] rfl (lab_29 S15 h)
  · intro h
    refine dc_iloadn (pc := 12) (j := 1) (i := 1) hC 1 rfl rfl (show decode prog_15_method_109_code 12 = .ok (.iload_n 1, 1) by decide +kernel) ?_
    refine dc_if_lt (pc := 13) (tgt := 29) hC (show decode prog_15_method_109_code 13 = .ok (.ifCond .lt 16, 3) by decide +kernel) (by decide +kernel) h ?_ ?_
    · intro h
      exact dc_sub [0] rfl (lab_29 S15 h)
    · intro h
      refine dc_iloadn (pc := 16) (j := 1) (i := 1) hC 1 rfl rfl (show decode prog_15_method_109_code 16 = .ok (.iload_n 1, 1) by decide +kernel) ?_
      refine dc_aloadn (pc := 17) (j := 0) (i := 0) hC 0 rfl rfl (show decode prog_15_method_109_code 17 = .ok (.aload_n 0, 1) by decide +kernel) ?_
      refine md_g46 (pc := 18) hC (show decode prog_15_method_109_code 18 = .ok (.getfield 530, 3) by decide +kernel) ?_
      refine dc_aloadn (pc := 21) (j := 0) (i := 0) hC 0 rfl rfl (show decode prog_15_method_109_code 21 = .ok (.aload_n 0, 1) by decide +kernel) ?_
      refine md_g47 (pc := 22) hC (show decode prog_15_method_109_code 22 = .ok (.getfield 498, 3) by decide +kernel) ?_
      refine dc_iadd (pc := 25) hC (show decode prog_15_method_109_code 25 = .ok (.iadd, 1) by decide +kernel) ?_
      refine dc_icmp_le (pc := 26) (tgt := 31) hC (show decode prog_15_method_109_code 26 = .ok (.if_icmp .le 5, 3) by decide +kernel) (by decide +kernel) h ?_ ?_
      · intro h
        exact dc_sub [0] rfl (lab_29 S15 h)
      · intro h
        refine dc_iconst (pc := 31) (v := 0) hC (show decode prog_15_method_109_code 31 = .ok (.iconst 0, 1) by decide +kernel) (by decide +kernel) ?_
        refine dc_istoren (pc := 32) (j := 2) (i := 2) (lv' := [(2, .int 0), (0, .ref o), (1, .int p1)]) hC rfl (Nat.le_of_ble_eq_true rfl) rfl (show decode prog_15_method_109_code 32 = .ok (.istore_n 2, 1) by decide +kernel) ?_
        exact dc_sub [1, 2, 0] rfl (lab_33 S15 p1 0 h)
noncomputable def mm_reactsOnAll_L45 (S : md_S) (x2 : Int32) : Option (Int32) :=
  (dc_zb x2).bind fun _ => some x2
noncomputable def mm_reactsOnAll_L38 (S : md_S) (x1 : Int32) (x3 : Int32) (y0 : Int32) : Option ((Int32 × Int32) ⊕ ((Int32))) :=
  some (.inl (y0, (x3 + 1)))
noncomputable def mm_reactsOnAll_L37 (S : md_S) (x1 : Int32) (x3 : Int32) : Option ((Int32 × Int32) ⊕ ((Int32))) :=
  mm_reactsOnAll_L38 S x1 x3 0
noncomputable def mm_reactsOnAll_b4 (S : md_S) (x1 : Int32) (x2 : Int32) (x3 : Int32) : Option ((Int32 × Int32) ⊕ ((Int32))) :=
  if x3 < ((1 : Int32) <<< ((S.1 45) &&& (31 : Int32))) then (if x2 = 0 then (mm_reactsOnAll_L37 S x1 x3) else ((dc_ix ((16 * x1) + x3) 4112).bind fun j2 => if (S.2.1 92 j2) = (-1) then (mm_reactsOnAll_L37 S x1 x3) else (mm_reactsOnAll_L38 S x1 x3 1))) else (some (.inr x2))
noncomputable def mm_reactsOnAll_s4 (S : md_S) (x1 : Int32) (q : Int32 × Int32) : Option ((Int32 × Int32) ⊕ ((Int32))) :=
  mm_reactsOnAll_b4 S x1 q.1 q.2
noncomputable def mm_reactsOnAll_L4 (S : md_S) (x1 : Int32) (x2 : Int32) (x3 : Int32) : Option (Int32) :=
  (dc_it (mm_reactsOnAll_s4 S x1) (x2, x3)).bind (fun (z : Int32) => mm_reactsOnAll_L45 S z)
noncomputable def mm_reactsOnAll (S : md_S) (p1 : Int32) : Option (Int32) :=
  mm_reactsOnAll_L4 S p1 1 0
set_option maxHeartbeats 4000000 in
set_option maxRecDepth 100000 in
/-- reactsOnAll(I)Z -/
theorem mm_reactsOnAll_ok (l : Launch) (D : va_G) (ad : Nat → Nat) (de : Nat) (o : Nat) (a : Nat → Nat) (ca : Nat → ClassId) (S : md_S) (p1 : Int32) (F : Int32 → Prop) (h : dc_wp (mm_reactsOnAll S p1) F) : dc_Ci l ⟨"SignalEngineModel", "reactsOnAll", "(I)Z"⟩ prog_15_method_111_code 4 (some (.boolean)) 0 0 D (md_T ca) ad de [.ref o, .int p1] (md_W o a ca S) (fun r w => ∃ q, F q ∧ r = q ∧ w = (md_W o a ca S)) 0 0 := by
  refine dc_enteri (by decide +kernel) (Nat.le_of_ble_eq_true rfl) ?_
  intro X hC hR
  have lab_45 : ∀ (x2 : Int32), dc_wp (mm_reactsOnAll_L45 S x2) F → dc_G X l { frames := 0, cells := 0, slots := 0, locals := 0 } D 4 0 0 (md_W o a ca S) 45 [(0, .ref o), (2, .int x2)] [] := by
    intro x2 h
    delta mm_reactsOnAll_L45 at h
    refine dc_iloadn (pc := 45) (j := 2) (i := 2) hC 1 rfl rfl (show decode prog_15_method_111_code 45 = .ok (.iload_n 2, 1) by decide +kernel) ?_
    obtain ⟨hz1, h⟩ := dc_zb_wp (dc_bind h)
    exact dc_zret (pc := 46) hC hR hz1 ⟨_, dc_some h, rfl, rfl⟩ (show decode prog_15_method_111_code 46 = .ok (.ireturn, 1) by decide +kernel)
  have loop_4 : ∀ (x1 : Int32) (q : Int32 × Int32), dc_wp (dc_it (mm_reactsOnAll_s4 S x1) q) (fun z => dc_wp ((fun (z : Int32) => mm_reactsOnAll_L45 S z) z) F) → dc_G X l { frames := 0, cells := 0, slots := 0, locals := 0 } D 4 0 0 (md_W o a ca S) 4 [(0, .ref o), (1, .int x1), (2, .int q.1), (3, .int q.2)] [] := by
    intro x1
    refine dc_loopF ?_
    intro F_4 hl_4 hr_4
    have lab_38 : ∀ (x3 : Int32) (y0 : Int32), dc_wp (mm_reactsOnAll_L38 S x1 x3 y0) F_4 → dc_G X l { frames := 0, cells := 0, slots := 0, locals := 0 } D 4 0 0 (md_W o a ca S) 38 [(0, .ref o), (1, .int x1), (3, .int x3)] [.int y0] := by
      intro x3 y0 h
      delta mm_reactsOnAll_L38 at h
      refine dc_istoren (pc := 38) (j := 2) (i := 2) (lv' := [(2, .int y0), (0, .ref o), (1, .int x1), (3, .int x3)]) hC rfl (Nat.le_of_ble_eq_true rfl) rfl (show decode prog_15_method_111_code 38 = .ok (.istore_n 2, 1) by decide +kernel) ?_
      refine dc_iinc (pc := 39) (i := 3) (v := (x3 + 1)) (lv' := [(3, .int (x3 + 1)), (2, .int y0), (0, .ref o), (1, .int x1)]) hC 3 rfl rfl (Nat.le_of_ble_eq_true rfl) rfl (show decode prog_15_method_111_code 39 = .ok (.iinc 3 1, 3) by decide +kernel) ?_
      refine dc_goto (pc := 42) (tgt := 4) hC (show decode prog_15_method_111_code 42 = .ok (.goto (-38), 3) by decide +kernel) (by decide +kernel) ?_
      exact dc_sub [2, 3, 1, 0] rfl (hl_4 (y0, (x3 + 1)) (dc_some h))
    have lab_37 : ∀ (x3 : Int32), dc_wp (mm_reactsOnAll_L37 S x1 x3) F_4 → dc_G X l { frames := 0, cells := 0, slots := 0, locals := 0 } D 4 0 0 (md_W o a ca S) 37 [(0, .ref o), (1, .int x1), (3, .int x3)] [] := by
      intro x3 h
      delta mm_reactsOnAll_L37 at h
      refine dc_iconst (pc := 37) (v := 0) hC (show decode prog_15_method_111_code 37 = .ok (.iconst 0, 1) by decide +kernel) (by decide +kernel) ?_
      exact lab_38 x3 0 h
    rintro ⟨x2, x3⟩ h
    have h : dc_wp (mm_reactsOnAll_b4 S x1 x2 x3) F_4 := h
    delta mm_reactsOnAll_b4 at h
    refine dc_iloadn (pc := 4) (j := 3) (i := 3) hC 3 rfl rfl (show decode prog_15_method_111_code 4 = .ok (.iload_n 3, 1) by decide +kernel) ?_
    refine dc_iconst (pc := 5) (v := 1) hC (show decode prog_15_method_111_code 5 = .ok (.iconst 1, 1) by decide +kernel) (by decide +kernel) ?_
    refine dc_aloadn (pc := 6) (j := 0) (i := 0) hC 0 rfl rfl (show decode prog_15_method_111_code 6 = .ok (.aload_n 0, 1) by decide +kernel) ?_
    refine md_g45 (pc := 7) hC (show decode prog_15_method_111_code 7 = .ok (.getfield 533, 3) by decide +kernel) ?_
    refine dc_ishl (pc := 10) hC (show decode prog_15_method_111_code 10 = .ok (.ishl, 1) by decide +kernel) ?_
    refine dc_icmp_ge (pc := 11) (tgt := 45) hC (show decode prog_15_method_111_code 11 = .ok (.if_icmp .ge 34, 3) by decide +kernel) (by decide +kernel) h ?_ ?_
    · intro h
      refine dc_iloadn (pc := 14) (j := 2) (i := 2) hC 2 rfl rfl (show decode prog_15_method_111_code 14 = .ok (.iload_n 2, 1) by decide +kernel) ?_
      refine dc_if_eq (pc := 15) (tgt := 37) hC (show decode prog_15_method_111_code 15 = .ok (.ifCond .eq 22, 3) by decide +kernel) (by decide +kernel) h ?_ ?_
      · intro h
        exact dc_sub [0, 1, 3] rfl (lab_37 x3 h)
      · intro h
        refine dc_aloadn (pc := 18) (j := 0) (i := 0) hC 0 rfl rfl (show decode prog_15_method_111_code 18 = .ok (.aload_n 0, 1) by decide +kernel) ?_
        refine md_g92 (pc := 19) hC (show decode prog_15_method_111_code 19 = .ok (.getfield 160, 3) by decide +kernel) ?_
        refine dc_bipush (pc := 22) (v := 16) hC (show decode prog_15_method_111_code 22 = .ok (.bipush 16, 2) by decide +kernel) (by decide +kernel) ?_
        refine dc_iloadn (pc := 24) (j := 1) (i := 1) hC 1 rfl rfl (show decode prog_15_method_111_code 24 = .ok (.iload_n 1, 1) by decide +kernel) ?_
        refine dc_imul (pc := 25) hC (show decode prog_15_method_111_code 25 = .ok (.imul, 1) by decide +kernel) ?_
        refine dc_iloadn (pc := 26) (j := 3) (i := 3) hC 3 rfl rfl (show decode prog_15_method_111_code 26 = .ok (.iload_n 3, 1) by decide +kernel) ?_
        refine dc_iadd (pc := 27) hC (show decode prog_15_method_111_code 27 = .ok (.iadd, 1) by decide +kernel) ?_
        refine md_l92 (pc := 28) hC (show decode prog_15_method_111_code 28 = .ok (.iaload, 1) by decide +kernel) h ?_
        intro j2 h
        refine dc_iconst (pc := 29) (v := (-1)) hC (show decode prog_15_method_111_code 29 = .ok (.iconst (-1), 1) by decide +kernel) (by decide +kernel) ?_
        refine dc_icmp_eq (pc := 30) (tgt := 37) hC (show decode prog_15_method_111_code 30 = .ok (.if_icmp .eq 7, 3) by decide +kernel) (by decide +kernel) h ?_ ?_
        · intro h
          exact dc_sub [0, 1, 3] rfl (lab_37 x3 h)
        · intro h
          refine dc_iconst (pc := 33) (v := 1) hC (show decode prog_15_method_111_code 33 = .ok (.iconst 1, 1) by decide +kernel) (by decide +kernel) ?_
          refine dc_goto (pc := 34) (tgt := 38) hC (show decode prog_15_method_111_code 34 = .ok (.goto 4, 3) by decide +kernel) (by decide +kernel) ?_
          exact dc_sub [0, 1, 3] rfl (lab_38 x3 1 h)
    · intro h
      have h : dc_wp (mm_reactsOnAll_L45 S x2) F := hr_4 x2 (dc_some h)
      exact dc_sub [0, 2] rfl (lab_45 x2 h)
  have lab_4 : ∀ (x1 : Int32) (x2 : Int32) (x3 : Int32), dc_wp (mm_reactsOnAll_L4 S x1 x2 x3) F → dc_G X l { frames := 0, cells := 0, slots := 0, locals := 0 } D 4 0 0 (md_W o a ca S) 4 [(0, .ref o), (1, .int x1), (2, .int x2), (3, .int x3)] [] := fun x1 x2 x3 h => loop_4 x1 (x2, x3) (dc_bind h)
  show dc_G X l { frames := 0, cells := 0, slots := 0, locals := 0 } D 4 0 0 (md_W o a ca S) 0 [(0, .ref o), (1, .int p1)] []
  delta mm_reactsOnAll at h
  refine dc_iconst (pc := 0) (v := 1) hC (show decode prog_15_method_111_code 0 = .ok (.iconst 1, 1) by decide +kernel) (by decide +kernel) ?_
  refine dc_istoren (pc := 1) (j := 2) (i := 2) (lv' := [(2, .int 1), (0, .ref o), (1, .int p1)]) hC rfl (Nat.le_of_ble_eq_true rfl) rfl (show decode prog_15_method_111_code 1 = .ok (.istore_n 2, 1) by decide +kernel) ?_
  refine dc_iconst (pc := 2) (v := 0) hC (show decode prog_15_method_111_code 2 = .ok (.iconst 0, 1) by decide +kernel) (by decide +kernel) ?_
  refine dc_istoren (pc := 3) (j := 3) (i := 3) (lv' := [(3, .int 0), (2, .int 1), (0, .ref o), (1, .int p1)]) hC rfl (Nat.le_of_ble_eq_true rfl) rfl (show decode prog_15_method_111_code 3 = .ok (.istore_n 3, 1) by decide +kernel) ?_
  exact dc_sub [2, 3, 1, 0] rfl (lab_4 p1 1 0 h)
noncomputable def mm_count_L278 (S : md_S) (y0 : Int32) : Option (md_S × Int32) :=
  some (S, y0)
noncomputable def mm_count_L261 (S : md_S) (x2 : Int32) : Option (md_S × Int32) :=
  some (S, x2)
noncomputable def mm_count_L253 (S : md_S) (x3 : Int32) (y0 : Int32) (y1 : Int32) : Option ((Int32 × Int32) ⊕ ((Int32))) :=
  dc_let ((y1 + y0) : Int32) fun v1 => some (.inl (v1, (x3 + 1)))
noncomputable def mm_count_b224 (S : md_S) (x2 : Int32) (x3 : Int32) : Option ((Int32 × Int32) ⊕ ((Int32))) :=
  if x3 < (S.1 87) then (if (S.1 85) = 0 then (some (.inr x2)) else ((mm_reactsOnAll S x3).bind fun q2 => if q2 = 0 then (mm_count_L253 S x3 0 x2) else (mm_count_L253 S x3 1 x2))) else (some (.inr x2))
noncomputable def mm_count_s224 (S : md_S) (q : Int32 × Int32) : Option ((Int32 × Int32) ⊕ ((Int32))) :=
  mm_count_b224 S q.1 q.2
noncomputable def mm_count_L224 (S : md_S) (x2 : Int32) (x3 : Int32) : Option (md_S × Int32) :=
  (dc_it (mm_count_s224 S) (x2, x3)).bind (fun (z : Int32) => mm_count_L261 S z)
noncomputable def mm_count_L221 (S : md_S) (y0 : Int32) : Option (md_S × Int32) :=
  some (S, y0)
noncomputable def mm_count_L204 (S : md_S) (x2 : Int32) : Option (md_S × Int32) :=
  some (S, x2)
noncomputable def mm_count_L196 (S : md_S) (x3 : Int32) (y0 : Int32) (y1 : Int32) : Option ((Int32 × Int32) ⊕ ((Int32))) :=
  dc_let ((y1 + y0) : Int32) fun v3 => some (.inl (v3, (x3 + 1)))
noncomputable def mm_count_b173 (S : md_S) (x2 : Int32) (x3 : Int32) : Option ((Int32 × Int32) ⊕ ((Int32))) :=
  if x3 < (S.1 47) then ((dc_ix x3 200).bind fun j4 => if (S.2.1 74 j4) = 0 then (mm_count_L196 S x3 0 x2) else (mm_count_L196 S x3 1 x2)) else (some (.inr x2))
noncomputable def mm_count_s173 (S : md_S) (q : Int32 × Int32) : Option ((Int32 × Int32) ⊕ ((Int32))) :=
  mm_count_b173 S q.1 q.2
noncomputable def mm_count_L173 (S : md_S) (x2 : Int32) (x3 : Int32) : Option (md_S × Int32) :=
  (dc_it (mm_count_s173 S) (x2, x3)).bind (fun (z : Int32) => mm_count_L204 S z)
noncomputable def mm_count_L155 (S : md_S) (y0 : Int32) : Option (md_S × Int32) :=
  some (S, y0)
noncomputable def mm_count (S : md_S) (p1 : Int32) : Option (md_S × Int32) :=
  dc_let (md_i S 0 0) fun S5 => dc_let (p1 : Int32) fun v6 => if v6 = 0 then (some (S5, (S5.1 42))) else if v6 = 1 then (some (S5, (S5.1 43))) else if v6 = 2 then (some (S5, (S5.1 45))) else if v6 = 3 then (some (S5, (S5.1 46))) else if v6 = 4 then (some (S5, (((S5.1 44) - (S5.1 45)) - (S5.1 46)))) else if v6 = 5 then (some (S5, (S5.1 47))) else if v6 = 6 then (some (S5, (S5.1 48))) else if v6 = 7 then (some (S5, (S5.1 49))) else if v6 = 8 then (if (S5.1 41) = 0 then (mm_count_L155 S5 0) else ((dc_ix 0 1200).bind fun j15 => mm_count_L155 S5 (S5.2.1 55 j15))) else if v6 = 9 then (some (S5, (S5.1 2))) else if v6 = 10 then (some (S5, (S5.1 83))) else if v6 = 11 then (some (S5, (S5.1 82))) else if v6 = 12 then (mm_count_L173 S5 0 0) else if v6 = 13 then (if (S5.1 85) = 0 then (mm_count_L221 S5 0) else (mm_count_L221 S5 (S5.1 87))) else if v6 = 14 then (mm_count_L224 S5 0 0) else if v6 = 15 then (if (S5.1 86) = 0 then (mm_count_L278 S5 0) else (mm_count_L278 S5 (S5.1 106))) else (some (S5, (-1)))
set_option maxHeartbeats 4000000 in
set_option maxRecDepth 100000 in
/-- count(I)I -/
theorem mm_count_ok (l : Launch) (D : va_G) (ad : Nat → Nat) (de : Nat) (o : Nat) (a : Nat → Nat) (ca : Nat → ClassId) (S : md_S) (p1 : Int32) (F : (md_S × Int32) → Prop) (h : dc_wp (mm_count S p1) F) : dc_Ci l ⟨"SignalEngineModel", "count", "(I)I"⟩ prog_15_method_110_code 4 (some (.int)) 1 23 D (md_T ca) ad de [.ref o, .int p1] (md_W o a ca S) (fun r w => ∃ q, F q ∧ r = q.2 ∧ w = md_W o a ca q.1) 0 0 := by
  refine dc_enteri (by decide +kernel) (Nat.le_of_ble_eq_true rfl) ?_
  intro X hC hR
  have lab_278 : ∀ (S : md_S) (y0 : Int32), dc_wp (mm_count_L278 S y0) F → dc_G X l { frames := 1, cells := 0, slots := 0, locals := 23 } D 4 0 0 (md_W o a ca S) 278 [(0, .ref o)] [.int y0] := by
    intro S y0 h
    delta mm_count_L278 at h
    exact dc_iret (pc := 278) hC hR ⟨_, dc_some h, rfl, rfl⟩ (show decode prog_15_method_110_code 278 = .ok (.ireturn, 1) by decide +kernel)
  have lab_261 : ∀ (S : md_S) (x2 : Int32), dc_wp (mm_count_L261 S x2) F → dc_G X l { frames := 1, cells := 0, slots := 0, locals := 23 } D 4 0 0 (md_W o a ca S) 261 [(0, .ref o), (2, .int x2)] [] := by
    intro S x2 h
    delta mm_count_L261 at h
    refine dc_iloadn (pc := 261) (j := 2) (i := 2) hC 1 rfl rfl (show decode prog_15_method_110_code 261 = .ok (.iload_n 2, 1) by decide +kernel) ?_
    exact dc_iret (pc := 262) hC hR ⟨_, dc_some h, rfl, rfl⟩ (show decode prog_15_method_110_code 262 = .ok (.ireturn, 1) by decide +kernel)
  have loop_224 : ∀ (S : md_S) (q : Int32 × Int32), dc_wp (dc_it (mm_count_s224 S) q) (fun z => dc_wp ((fun (z : Int32) => mm_count_L261 S z) z) F) → dc_G X l { frames := 1, cells := 0, slots := 0, locals := 23 } D 4 0 0 (md_W o a ca S) 224 [(0, .ref o), (2, .int q.1), (3, .int q.2)] [] := by
    intro S 
    refine dc_loopF ?_
    intro F_224 hl_224 hr_224
    have lab_253 : ∀ (x3 : Int32) (y0 : Int32) (y1 : Int32), dc_wp (mm_count_L253 S x3 y0 y1) F_224 → dc_G X l { frames := 1, cells := 0, slots := 0, locals := 23 } D 4 0 0 (md_W o a ca S) 253 [(0, .ref o), (3, .int x3)] [.int y0, .int y1] := by
      intro x3 y0 y1 h
      delta mm_count_L253 at h
      refine dc_iadd (pc := 253) hC (show decode prog_15_method_110_code 253 = .ok (.iadd, 1) by decide +kernel) ?_
      refine dc_letI h ?_
      intro v1 h
      refine dc_istoren (pc := 254) (j := 2) (i := 2) (lv' := [(2, .int v1), (0, .ref o), (3, .int x3)]) hC rfl (Nat.le_of_ble_eq_true rfl) rfl (show decode prog_15_method_110_code 254 = .ok (.istore_n 2, 1) by decide +kernel) ?_
      refine dc_iinc (pc := 255) (i := 3) (v := (x3 + 1)) (lv' := [(3, .int (x3 + 1)), (2, .int v1), (0, .ref o)]) hC 2 rfl rfl (Nat.le_of_ble_eq_true rfl) rfl (show decode prog_15_method_110_code 255 = .ok (.iinc 3 1, 3) by decide +kernel) ?_
      refine dc_goto (pc := 258) (tgt := 224) hC (show decode prog_15_method_110_code 258 = .ok (.goto (-34), 3) by decide +kernel) (by decide +kernel) ?_
      exact dc_sub [2, 1, 0] rfl (hl_224 (v1, (x3 + 1)) (dc_some h))
    rintro ⟨x2, x3⟩ h
    have h : dc_wp (mm_count_b224 S x2 x3) F_224 := h
    delta mm_count_b224 at h
    refine dc_iloadn (pc := 224) (j := 3) (i := 3) hC 2 rfl rfl (show decode prog_15_method_110_code 224 = .ok (.iload_n 3, 1) by decide +kernel) ?_
    refine dc_aloadn (pc := 225) (j := 0) (i := 0) hC 0 rfl rfl (show decode prog_15_method_110_code 225 = .ok (.aload_n 0, 1) by decide +kernel) ?_
    refine md_g87 (pc := 226) hC (show decode prog_15_method_110_code 226 = .ok (.getfield 527, 3) by decide +kernel) ?_
    refine dc_icmp_ge (pc := 229) (tgt := 261) hC (show decode prog_15_method_110_code 229 = .ok (.if_icmp .ge 32, 3) by decide +kernel) (by decide +kernel) h ?_ ?_
    · intro h
      refine dc_aloadn (pc := 232) (j := 0) (i := 0) hC 0 rfl rfl (show decode prog_15_method_110_code 232 = .ok (.aload_n 0, 1) by decide +kernel) ?_
      refine md_g85 (pc := 233) hC (show decode prog_15_method_110_code 233 = .ok (.getfield 518, 3) by decide +kernel) ?_
      refine dc_if_eq (pc := 236) (tgt := 261) hC (show decode prog_15_method_110_code 236 = .ok (.ifCond .eq 25, 3) by decide +kernel) (by decide +kernel) h ?_ ?_
      · intro h
        have h : dc_wp (mm_count_L261 S x2) F := hr_224 x2 (dc_some h)
        exact dc_sub [0, 1] rfl (lab_261 S x2 h)
      · intro h
        refine dc_iloadn (pc := 239) (j := 2) (i := 2) hC 1 rfl rfl (show decode prog_15_method_110_code 239 = .ok (.iload_n 2, 1) by decide +kernel) ?_
        refine dc_aloadn (pc := 240) (j := 0) (i := 0) hC 0 rfl rfl (show decode prog_15_method_110_code 240 = .ok (.aload_n 0, 1) by decide +kernel) ?_
        refine dc_iloadn (pc := 241) (j := 3) (i := 3) hC 2 rfl rfl (show decode prog_15_method_110_code 241 = .ok (.iload_n 3, 1) by decide +kernel) ?_
        refine mc_Vpi (pc := 242) (As := [.int x3]) (rest := [.int x2]) hC vw_reactsOnAll_668 (mm_reactsOnAll_ok l D ad de o a ca S x3) (Nat.le_of_ble_eq_true rfl) (Nat.le_of_ble_eq_true rfl) rfl (Nat.le_of_ble_eq_true rfl) (show decode prog_15_method_110_code 242 = .ok (.invokevirtual 668, 3) by decide +kernel) h ?_
        intro q2 h
        refine dc_if_eq (pc := 245) (tgt := 252) hC (show decode prog_15_method_110_code 245 = .ok (.ifCond .eq 7, 3) by decide +kernel) (by decide +kernel) h ?_ ?_
        · intro h
          refine dc_iconst (pc := 252) (v := 0) hC (show decode prog_15_method_110_code 252 = .ok (.iconst 0, 1) by decide +kernel) (by decide +kernel) ?_
          exact dc_sub [0, 2] rfl (lab_253 x3 0 x2 h)
        · intro h
          refine dc_iconst (pc := 248) (v := 1) hC (show decode prog_15_method_110_code 248 = .ok (.iconst 1, 1) by decide +kernel) (by decide +kernel) ?_
          refine dc_goto (pc := 249) (tgt := 253) hC (show decode prog_15_method_110_code 249 = .ok (.goto 4, 3) by decide +kernel) (by decide +kernel) ?_
          exact dc_sub [0, 2] rfl (lab_253 x3 1 x2 h)
    · intro h
      have h : dc_wp (mm_count_L261 S x2) F := hr_224 x2 (dc_some h)
      exact dc_sub [0, 1] rfl (lab_261 S x2 h)
  have lab_224 : ∀ (S : md_S) (x2 : Int32) (x3 : Int32), dc_wp (mm_count_L224 S x2 x3) F → dc_G X l { frames := 1, cells := 0, slots := 0, locals := 23 } D 4 0 0 (md_W o a ca S) 224 [(0, .ref o), (2, .int x2), (3, .int x3)] [] := fun S x2 x3 h => loop_224 S  (x2, x3) (dc_bind h)
  have lab_221 : ∀ (S : md_S) (y0 : Int32), dc_wp (mm_count_L221 S y0) F → dc_G X l { frames := 1, cells := 0, slots := 0, locals := 23 } D 4 0 0 (md_W o a ca S) 221 [(0, .ref o)] [.int y0] := by
    intro S y0 h
    delta mm_count_L221 at h
    exact dc_iret (pc := 221) hC hR ⟨_, dc_some h, rfl, rfl⟩ (show decode prog_15_method_110_code 221 = .ok (.ireturn, 1) by decide +kernel)
  have lab_204 : ∀ (S : md_S) (x2 : Int32), dc_wp (mm_count_L204 S x2) F → dc_G X l { frames := 1, cells := 0, slots := 0, locals := 23 } D 4 0 0 (md_W o a ca S) 204 [(0, .ref o), (2, .int x2)] [] := by
    intro S x2 h
    delta mm_count_L204 at h
    refine dc_iloadn (pc := 204) (j := 2) (i := 2) hC 1 rfl rfl (show decode prog_15_method_110_code 204 = .ok (.iload_n 2, 1) by decide +kernel) ?_
    exact dc_iret (pc := 205) hC hR ⟨_, dc_some h, rfl, rfl⟩ (show decode prog_15_method_110_code 205 = .ok (.ireturn, 1) by decide +kernel)
  have loop_173 : ∀ (S : md_S) (q : Int32 × Int32), dc_wp (dc_it (mm_count_s173 S) q) (fun z => dc_wp ((fun (z : Int32) => mm_count_L204 S z) z) F) → dc_G X l { frames := 1, cells := 0, slots := 0, locals := 23 } D 4 0 0 (md_W o a ca S) 173 [(0, .ref o), (2, .int q.1), (3, .int q.2)] [] := by
    intro S 
    refine dc_loopF ?_
    intro F_173 hl_173 hr_173
    have lab_196 : ∀ (x3 : Int32) (y0 : Int32) (y1 : Int32), dc_wp (mm_count_L196 S x3 y0 y1) F_173 → dc_G X l { frames := 1, cells := 0, slots := 0, locals := 23 } D 4 0 0 (md_W o a ca S) 196 [(0, .ref o), (3, .int x3)] [.int y0, .int y1] := by
      intro x3 y0 y1 h
      delta mm_count_L196 at h
      refine dc_iadd (pc := 196) hC (show decode prog_15_method_110_code 196 = .ok (.iadd, 1) by decide +kernel) ?_
      refine dc_letI h ?_
      intro v3 h
      refine dc_istoren (pc := 197) (j := 2) (i := 2) (lv' := [(2, .int v3), (0, .ref o), (3, .int x3)]) hC rfl (Nat.le_of_ble_eq_true rfl) rfl (show decode prog_15_method_110_code 197 = .ok (.istore_n 2, 1) by decide +kernel) ?_
      refine dc_iinc (pc := 198) (i := 3) (v := (x3 + 1)) (lv' := [(3, .int (x3 + 1)), (2, .int v3), (0, .ref o)]) hC 2 rfl rfl (Nat.le_of_ble_eq_true rfl) rfl (show decode prog_15_method_110_code 198 = .ok (.iinc 3 1, 3) by decide +kernel) ?_
      refine dc_goto (pc := 201) (tgt := 173) hC (show decode prog_15_method_110_code 201 = .ok (.goto (-28), 3) by decide +kernel) (by decide +kernel) ?_
      exact dc_sub [2, 1, 0] rfl (hl_173 (v3, (x3 + 1)) (dc_some h))
    rintro ⟨x2, x3⟩ h
    have h : dc_wp (mm_count_b173 S x2 x3) F_173 := h
    delta mm_count_b173 at h
    refine dc_iloadn (pc := 173) (j := 3) (i := 3) hC 2 rfl rfl (show decode prog_15_method_110_code 173 = .ok (.iload_n 3, 1) by decide +kernel) ?_
    refine dc_aloadn (pc := 174) (j := 0) (i := 0) hC 0 rfl rfl (show decode prog_15_method_110_code 174 = .ok (.aload_n 0, 1) by decide +kernel) ?_
    refine md_g47 (pc := 175) hC (show decode prog_15_method_110_code 175 = .ok (.getfield 498, 3) by decide +kernel) ?_
    refine dc_icmp_ge (pc := 178) (tgt := 204) hC (show decode prog_15_method_110_code 178 = .ok (.if_icmp .ge 26, 3) by decide +kernel) (by decide +kernel) h ?_ ?_
    · intro h
      refine dc_iloadn (pc := 181) (j := 2) (i := 2) hC 1 rfl rfl (show decode prog_15_method_110_code 181 = .ok (.iload_n 2, 1) by decide +kernel) ?_
      refine dc_aloadn (pc := 182) (j := 0) (i := 0) hC 0 rfl rfl (show decode prog_15_method_110_code 182 = .ok (.aload_n 0, 1) by decide +kernel) ?_
      refine md_g74 (pc := 183) hC (show decode prog_15_method_110_code 183 = .ok (.getfield 136, 3) by decide +kernel) ?_
      refine dc_iloadn (pc := 186) (j := 3) (i := 3) hC 2 rfl rfl (show decode prog_15_method_110_code 186 = .ok (.iload_n 3, 1) by decide +kernel) ?_
      refine md_l74 (pc := 187) hC (show decode prog_15_method_110_code 187 = .ok (.baload, 1) by decide +kernel) h ?_
      intro j4 h
      refine dc_if_eq (pc := 188) (tgt := 195) hC (show decode prog_15_method_110_code 188 = .ok (.ifCond .eq 7, 3) by decide +kernel) (by decide +kernel) h ?_ ?_
      · intro h
        refine dc_iconst (pc := 195) (v := 0) hC (show decode prog_15_method_110_code 195 = .ok (.iconst 0, 1) by decide +kernel) (by decide +kernel) ?_
        exact dc_sub [0, 2] rfl (lab_196 x3 0 x2 h)
      · intro h
        refine dc_iconst (pc := 191) (v := 1) hC (show decode prog_15_method_110_code 191 = .ok (.iconst 1, 1) by decide +kernel) (by decide +kernel) ?_
        refine dc_goto (pc := 192) (tgt := 196) hC (show decode prog_15_method_110_code 192 = .ok (.goto 4, 3) by decide +kernel) (by decide +kernel) ?_
        exact dc_sub [0, 2] rfl (lab_196 x3 1 x2 h)
    · intro h
      have h : dc_wp (mm_count_L204 S x2) F := hr_173 x2 (dc_some h)
      exact dc_sub [0, 1] rfl (lab_204 S x2 h)
  have lab_173 : ∀ (S : md_S) (x2 : Int32) (x3 : Int32), dc_wp (mm_count_L173 S x2 x3) F → dc_G X l { frames := 1, cells := 0, slots := 0, locals := 23 } D 4 0 0 (md_W o a ca S) 173 [(0, .ref o), (2, .int x2), (3, .int x3)] [] := fun S x2 x3 h => loop_173 S  (x2, x3) (dc_bind h)
  have lab_155 : ∀ (S : md_S) (y0 : Int32), dc_wp (mm_count_L155 S y0) F → dc_G X l { frames := 1, cells := 0, slots := 0, locals := 23 } D 4 0 0 (md_W o a ca S) 155 [(0, .ref o)] [.int y0] := by
    intro S y0 h
    delta mm_count_L155 at h
    exact dc_iret (pc := 155) hC hR ⟨_, dc_some h, rfl, rfl⟩ (show decode prog_15_method_110_code 155 = .ok (.ireturn, 1) by decide +kernel)
  show dc_G X l { frames := 1, cells := 0, slots := 0, locals := 23 } D 4 0 0 (md_W o a ca S) 0 [(0, .ref o), (1, .int p1)] []
  delta mm_count at h
  refine dc_aloadn (pc := 0) (j := 0) (i := 0) hC 0 rfl rfl (show decode prog_15_method_110_code 0 = .ok (.aload_n 0, 1) by decide +kernel) ?_
  refine dc_iconst (pc := 1) (v := 0) hC (show decode prog_15_method_110_code 1 = .ok (.iconst 0, 1) by decide +kernel) (by decide +kernel) ?_
  refine md_p0 (pc := 2) hC (show decode prog_15_method_110_code 2 = .ok (.putfield 206, 3) by decide +kernel) ?_
  refine dc_letS h ?_
  intro S5 h
  refine dc_iconst (pc := 5) (v := 0) hC (show decode prog_15_method_110_code 5 = .ok (.iconst 0, 1) by decide +kernel) (by decide +kernel) ?_
  refine dc_istoren (pc := 6) (j := 2) (i := 2) (lv' := [(2, .int 0), (0, .ref o), (1, .int p1)]) hC rfl (Nat.le_of_ble_eq_true rfl) rfl (show decode prog_15_method_110_code 6 = .ok (.istore_n 2, 1) by decide +kernel) ?_
  refine dc_iloadn (pc := 7) (j := 1) (i := 1) hC 2 rfl rfl (show decode prog_15_method_110_code 7 = .ok (.iload_n 1, 1) by decide +kernel) ?_
  refine dc_letI h ?_
  intro v6 h
  rcases dc_ite h with ⟨hk7, h2⟩ | ⟨hk7, h2⟩
  · subst hk7; clear h; have h := h2; clear h2
    refine dc_tabIn (pc := 8) (off := 80) (tgt := 88) hC dsw_prog_15_method_110_code_8 (by decide +kernel) (by decide +kernel) (by decide +kernel) (by decide +kernel) ?_
    refine dc_aloadn (pc := 88) (j := 0) (i := 0) hC 1 rfl rfl (show decode prog_15_method_110_code 88 = .ok (.aload_n 0, 1) by decide +kernel) ?_
    refine md_g42 (pc := 89) hC (show decode prog_15_method_110_code 89 = .ok (.getfield 539, 3) by decide +kernel) ?_
    exact dc_iret (pc := 92) hC hR ⟨_, dc_some h, rfl, rfl⟩ (show decode prog_15_method_110_code 92 = .ok (.ireturn, 1) by decide +kernel)
  clear h; have h := h2; clear h2
  rcases dc_ite h with ⟨hk8, h2⟩ | ⟨hk8, h2⟩
  · subst hk8; clear h; have h := h2; clear h2
    refine dc_tabIn (pc := 8) (off := 85) (tgt := 93) hC dsw_prog_15_method_110_code_8 (by decide +kernel) (by decide +kernel) (by decide +kernel) (by decide +kernel) ?_
    refine dc_aloadn (pc := 93) (j := 0) (i := 0) hC 1 rfl rfl (show decode prog_15_method_110_code 93 = .ok (.aload_n 0, 1) by decide +kernel) ?_
    refine md_g43 (pc := 94) hC (show decode prog_15_method_110_code 94 = .ok (.getfield 501, 3) by decide +kernel) ?_
    exact dc_iret (pc := 97) hC hR ⟨_, dc_some h, rfl, rfl⟩ (show decode prog_15_method_110_code 97 = .ok (.ireturn, 1) by decide +kernel)
  clear h; have h := h2; clear h2
  rcases dc_ite h with ⟨hk9, h2⟩ | ⟨hk9, h2⟩
  · subst hk9; clear h; have h := h2; clear h2
    refine dc_tabIn (pc := 8) (off := 90) (tgt := 98) hC dsw_prog_15_method_110_code_8 (by decide +kernel) (by decide +kernel) (by decide +kernel) (by decide +kernel) ?_
    refine dc_aloadn (pc := 98) (j := 0) (i := 0) hC 1 rfl rfl (show decode prog_15_method_110_code 98 = .ok (.aload_n 0, 1) by decide +kernel) ?_
    refine md_g45 (pc := 99) hC (show decode prog_15_method_110_code 99 = .ok (.getfield 533, 3) by decide +kernel) ?_
    exact dc_iret (pc := 102) hC hR ⟨_, dc_some h, rfl, rfl⟩ (show decode prog_15_method_110_code 102 = .ok (.ireturn, 1) by decide +kernel)
  clear h; have h := h2; clear h2
  rcases dc_ite h with ⟨hk10, h2⟩ | ⟨hk10, h2⟩
  · subst hk10; clear h; have h := h2; clear h2
    refine dc_tabIn (pc := 8) (off := 95) (tgt := 103) hC dsw_prog_15_method_110_code_8 (by decide +kernel) (by decide +kernel) (by decide +kernel) (by decide +kernel) ?_
    refine dc_aloadn (pc := 103) (j := 0) (i := 0) hC 1 rfl rfl (show decode prog_15_method_110_code 103 = .ok (.aload_n 0, 1) by decide +kernel) ?_
    refine md_g46 (pc := 104) hC (show decode prog_15_method_110_code 104 = .ok (.getfield 530, 3) by decide +kernel) ?_
    exact dc_iret (pc := 107) hC hR ⟨_, dc_some h, rfl, rfl⟩ (show decode prog_15_method_110_code 107 = .ok (.ireturn, 1) by decide +kernel)
  clear h; have h := h2; clear h2
  rcases dc_ite h with ⟨hk11, h2⟩ | ⟨hk11, h2⟩
  · subst hk11; clear h; have h := h2; clear h2
    refine dc_tabIn (pc := 8) (off := 100) (tgt := 108) hC dsw_prog_15_method_110_code_8 (by decide +kernel) (by decide +kernel) (by decide +kernel) (by decide +kernel) ?_
    refine dc_aloadn (pc := 108) (j := 0) (i := 0) hC 1 rfl rfl (show decode prog_15_method_110_code 108 = .ok (.aload_n 0, 1) by decide +kernel) ?_
    refine md_g44 (pc := 109) hC (show decode prog_15_method_110_code 109 = .ok (.getfield 536, 3) by decide +kernel) ?_
    refine dc_aloadn (pc := 112) (j := 0) (i := 0) hC 1 rfl rfl (show decode prog_15_method_110_code 112 = .ok (.aload_n 0, 1) by decide +kernel) ?_
    refine md_g45 (pc := 113) hC (show decode prog_15_method_110_code 113 = .ok (.getfield 533, 3) by decide +kernel) ?_
    refine dc_isub (pc := 116) hC (show decode prog_15_method_110_code 116 = .ok (.isub, 1) by decide +kernel) ?_
    refine dc_aloadn (pc := 117) (j := 0) (i := 0) hC 1 rfl rfl (show decode prog_15_method_110_code 117 = .ok (.aload_n 0, 1) by decide +kernel) ?_
    refine md_g46 (pc := 118) hC (show decode prog_15_method_110_code 118 = .ok (.getfield 530, 3) by decide +kernel) ?_
    refine dc_isub (pc := 121) hC (show decode prog_15_method_110_code 121 = .ok (.isub, 1) by decide +kernel) ?_
    exact dc_iret (pc := 122) hC hR ⟨_, dc_some h, rfl, rfl⟩ (show decode prog_15_method_110_code 122 = .ok (.ireturn, 1) by decide +kernel)
  clear h; have h := h2; clear h2
  rcases dc_ite h with ⟨hk12, h2⟩ | ⟨hk12, h2⟩
  · subst hk12; clear h; have h := h2; clear h2
    refine dc_tabIn (pc := 8) (off := 115) (tgt := 123) hC dsw_prog_15_method_110_code_8 (by decide +kernel) (by decide +kernel) (by decide +kernel) (by decide +kernel) ?_
    refine dc_aloadn (pc := 123) (j := 0) (i := 0) hC 1 rfl rfl (show decode prog_15_method_110_code 123 = .ok (.aload_n 0, 1) by decide +kernel) ?_
    refine md_g47 (pc := 124) hC (show decode prog_15_method_110_code 124 = .ok (.getfield 498, 3) by decide +kernel) ?_
    exact dc_iret (pc := 127) hC hR ⟨_, dc_some h, rfl, rfl⟩ (show decode prog_15_method_110_code 127 = .ok (.ireturn, 1) by decide +kernel)
  clear h; have h := h2; clear h2
  rcases dc_ite h with ⟨hk13, h2⟩ | ⟨hk13, h2⟩
  · subst hk13; clear h; have h := h2; clear h2
    refine dc_tabIn (pc := 8) (off := 120) (tgt := 128) hC dsw_prog_15_method_110_code_8 (by decide +kernel) (by decide +kernel) (by decide +kernel) (by decide +kernel) ?_
    refine dc_aloadn (pc := 128) (j := 0) (i := 0) hC 1 rfl rfl (show decode prog_15_method_110_code 128 = .ok (.aload_n 0, 1) by decide +kernel) ?_
    refine md_g48 (pc := 129) hC (show decode prog_15_method_110_code 129 = .ok (.getfield 507, 3) by decide +kernel) ?_
    exact dc_iret (pc := 132) hC hR ⟨_, dc_some h, rfl, rfl⟩ (show decode prog_15_method_110_code 132 = .ok (.ireturn, 1) by decide +kernel)
  clear h; have h := h2; clear h2
  rcases dc_ite h with ⟨hk14, h2⟩ | ⟨hk14, h2⟩
  · subst hk14; clear h; have h := h2; clear h2
    refine dc_tabIn (pc := 8) (off := 125) (tgt := 133) hC dsw_prog_15_method_110_code_8 (by decide +kernel) (by decide +kernel) (by decide +kernel) (by decide +kernel) ?_
    refine dc_aloadn (pc := 133) (j := 0) (i := 0) hC 1 rfl rfl (show decode prog_15_method_110_code 133 = .ok (.aload_n 0, 1) by decide +kernel) ?_
    refine md_g49 (pc := 134) hC (show decode prog_15_method_110_code 134 = .ok (.getfield 504, 3) by decide +kernel) ?_
    exact dc_iret (pc := 137) hC hR ⟨_, dc_some h, rfl, rfl⟩ (show decode prog_15_method_110_code 137 = .ok (.ireturn, 1) by decide +kernel)
  clear h; have h := h2; clear h2
  rcases dc_ite h with ⟨hk16, h2⟩ | ⟨hk16, h2⟩
  · subst hk16; clear h; have h := h2; clear h2
    refine dc_tabIn (pc := 8) (off := 130) (tgt := 138) hC dsw_prog_15_method_110_code_8 (by decide +kernel) (by decide +kernel) (by decide +kernel) (by decide +kernel) ?_
    refine dc_aloadn (pc := 138) (j := 0) (i := 0) hC 1 rfl rfl (show decode prog_15_method_110_code 138 = .ok (.aload_n 0, 1) by decide +kernel) ?_
    refine md_g41 (pc := 139) hC (show decode prog_15_method_110_code 139 = .ok (.getfield 521, 3) by decide +kernel) ?_
    refine dc_if_eq (pc := 142) (tgt := 154) hC (show decode prog_15_method_110_code 142 = .ok (.ifCond .eq 12, 3) by decide +kernel) (by decide +kernel) h ?_ ?_
    · intro h
      refine dc_iconst (pc := 154) (v := 0) hC (show decode prog_15_method_110_code 154 = .ok (.iconst 0, 1) by decide +kernel) (by decide +kernel) ?_
      exact dc_sub [1] rfl (lab_155 S5 0 h)
    · intro h
      refine dc_aloadn (pc := 145) (j := 0) (i := 0) hC 1 rfl rfl (show decode prog_15_method_110_code 145 = .ok (.aload_n 0, 1) by decide +kernel) ?_
      refine md_g55 (pc := 146) hC (show decode prog_15_method_110_code 146 = .ok (.getfield 78, 3) by decide +kernel) ?_
      refine dc_iconst (pc := 149) (v := 0) hC (show decode prog_15_method_110_code 149 = .ok (.iconst 0, 1) by decide +kernel) (by decide +kernel) ?_
      refine md_l55 (pc := 150) hC (show decode prog_15_method_110_code 150 = .ok (.iaload, 1) by decide +kernel) h ?_
      intro j15 h
      refine dc_goto (pc := 151) (tgt := 155) hC (show decode prog_15_method_110_code 151 = .ok (.goto 4, 3) by decide +kernel) (by decide +kernel) ?_
      exact dc_sub [1] rfl (lab_155 S5 (S5.2.1 55 j15) h)
  clear h; have h := h2; clear h2
  rcases dc_ite h with ⟨hk17, h2⟩ | ⟨hk17, h2⟩
  · subst hk17; clear h; have h := h2; clear h2
    refine dc_tabIn (pc := 8) (off := 148) (tgt := 156) hC dsw_prog_15_method_110_code_8 (by decide +kernel) (by decide +kernel) (by decide +kernel) (by decide +kernel) ?_
    refine dc_aloadn (pc := 156) (j := 0) (i := 0) hC 1 rfl rfl (show decode prog_15_method_110_code 156 = .ok (.aload_n 0, 1) by decide +kernel) ?_
    refine md_g2 (pc := 157) hC (show decode prog_15_method_110_code 157 = .ok (.getfield 210, 3) by decide +kernel) ?_
    exact dc_iret (pc := 160) hC hR ⟨_, dc_some h, rfl, rfl⟩ (show decode prog_15_method_110_code 160 = .ok (.ireturn, 1) by decide +kernel)
  clear h; have h := h2; clear h2
  rcases dc_ite h with ⟨hk18, h2⟩ | ⟨hk18, h2⟩
  · subst hk18; clear h; have h := h2; clear h2
    refine dc_tabIn (pc := 8) (off := 153) (tgt := 161) hC dsw_prog_15_method_110_code_8 (by decide +kernel) (by decide +kernel) (by decide +kernel) (by decide +kernel) ?_
    refine dc_aloadn (pc := 161) (j := 0) (i := 0) hC 1 rfl rfl (show decode prog_15_method_110_code 161 = .ok (.aload_n 0, 1) by decide +kernel) ?_
    refine md_g83 (pc := 162) hC (show decode prog_15_method_110_code 162 = .ok (.getfield 542, 3) by decide +kernel) ?_
    exact dc_iret (pc := 165) hC hR ⟨_, dc_some h, rfl, rfl⟩ (show decode prog_15_method_110_code 165 = .ok (.ireturn, 1) by decide +kernel)
  clear h; have h := h2; clear h2
  rcases dc_ite h with ⟨hk19, h2⟩ | ⟨hk19, h2⟩
  · subst hk19; clear h; have h := h2; clear h2
    refine dc_tabIn (pc := 8) (off := 158) (tgt := 166) hC dsw_prog_15_method_110_code_8 (by decide +kernel) (by decide +kernel) (by decide +kernel) (by decide +kernel) ?_
    refine dc_aloadn (pc := 166) (j := 0) (i := 0) hC 1 rfl rfl (show decode prog_15_method_110_code 166 = .ok (.aload_n 0, 1) by decide +kernel) ?_
    refine md_g82 (pc := 167) hC (show decode prog_15_method_110_code 167 = .ok (.getfield 545, 3) by decide +kernel) ?_
    exact dc_iret (pc := 170) hC hR ⟨_, dc_some h, rfl, rfl⟩ (show decode prog_15_method_110_code 170 = .ok (.ireturn, 1) by decide +kernel)
  clear h; have h := h2; clear h2
  rcases dc_ite h with ⟨hk20, h2⟩ | ⟨hk20, h2⟩
  · subst hk20; clear h; have h := h2; clear h2
    refine dc_tabIn (pc := 8) (off := 163) (tgt := 171) hC dsw_prog_15_method_110_code_8 (by decide +kernel) (by decide +kernel) (by decide +kernel) (by decide +kernel) ?_
    refine dc_iconst (pc := 171) (v := 0) hC (show decode prog_15_method_110_code 171 = .ok (.iconst 0, 1) by decide +kernel) (by decide +kernel) ?_
    refine dc_istoren (pc := 172) (j := 3) (i := 3) (lv' := [(3, .int 0), (2, .int 0), (0, .ref o), (1, .int p1)]) hC rfl (Nat.le_of_ble_eq_true rfl) rfl (show decode prog_15_method_110_code 172 = .ok (.istore_n 3, 1) by decide +kernel) ?_
    exact dc_sub [2, 1, 0] rfl (lab_173 S5 0 0 h)
  clear h; have h := h2; clear h2
  rcases dc_ite h with ⟨hk21, h2⟩ | ⟨hk21, h2⟩
  · subst hk21; clear h; have h := h2; clear h2
    refine dc_tabIn (pc := 8) (off := 198) (tgt := 206) hC dsw_prog_15_method_110_code_8 (by decide +kernel) (by decide +kernel) (by decide +kernel) (by decide +kernel) ?_
    refine dc_aloadn (pc := 206) (j := 0) (i := 0) hC 1 rfl rfl (show decode prog_15_method_110_code 206 = .ok (.aload_n 0, 1) by decide +kernel) ?_
    refine md_g85 (pc := 207) hC (show decode prog_15_method_110_code 207 = .ok (.getfield 518, 3) by decide +kernel) ?_
    refine dc_if_eq (pc := 210) (tgt := 220) hC (show decode prog_15_method_110_code 210 = .ok (.ifCond .eq 10, 3) by decide +kernel) (by decide +kernel) h ?_ ?_
    · intro h
      refine dc_iconst (pc := 220) (v := 0) hC (show decode prog_15_method_110_code 220 = .ok (.iconst 0, 1) by decide +kernel) (by decide +kernel) ?_
      exact dc_sub [1] rfl (lab_221 S5 0 h)
    · intro h
      refine dc_aloadn (pc := 213) (j := 0) (i := 0) hC 1 rfl rfl (show decode prog_15_method_110_code 213 = .ok (.aload_n 0, 1) by decide +kernel) ?_
      refine md_g87 (pc := 214) hC (show decode prog_15_method_110_code 214 = .ok (.getfield 527, 3) by decide +kernel) ?_
      refine dc_goto (pc := 217) (tgt := 221) hC (show decode prog_15_method_110_code 217 = .ok (.goto 4, 3) by decide +kernel) (by decide +kernel) ?_
      exact dc_sub [1] rfl (lab_221 S5 (S5.1 87) h)
  clear h; have h := h2; clear h2
  rcases dc_ite h with ⟨hk22, h2⟩ | ⟨hk22, h2⟩
  · subst hk22; clear h; have h := h2; clear h2
    refine dc_tabIn (pc := 8) (off := 214) (tgt := 222) hC dsw_prog_15_method_110_code_8 (by decide +kernel) (by decide +kernel) (by decide +kernel) (by decide +kernel) ?_
    refine dc_iconst (pc := 222) (v := 0) hC (show decode prog_15_method_110_code 222 = .ok (.iconst 0, 1) by decide +kernel) (by decide +kernel) ?_
    refine dc_istoren (pc := 223) (j := 3) (i := 3) (lv' := [(3, .int 0), (2, .int 0), (0, .ref o), (1, .int p1)]) hC rfl (Nat.le_of_ble_eq_true rfl) rfl (show decode prog_15_method_110_code 223 = .ok (.istore_n 3, 1) by decide +kernel) ?_
    exact dc_sub [2, 1, 0] rfl (lab_224 S5 0 0 h)
  clear h; have h := h2; clear h2
  rcases dc_ite h with ⟨hk23, h2⟩ | ⟨hk23, h2⟩
  · subst hk23; clear h; have h := h2; clear h2
    refine dc_tabIn (pc := 8) (off := 255) (tgt := 263) hC dsw_prog_15_method_110_code_8 (by decide +kernel) (by decide +kernel) (by decide +kernel) (by decide +kernel) ?_
    refine dc_aloadn (pc := 263) (j := 0) (i := 0) hC 1 rfl rfl (show decode prog_15_method_110_code 263 = .ok (.aload_n 0, 1) by decide +kernel) ?_
    refine md_g86 (pc := 264) hC (show decode prog_15_method_110_code 264 = .ok (.getfield 515, 3) by decide +kernel) ?_
    refine dc_if_eq (pc := 267) (tgt := 277) hC (show decode prog_15_method_110_code 267 = .ok (.ifCond .eq 10, 3) by decide +kernel) (by decide +kernel) h ?_ ?_
    · intro h
      refine dc_iconst (pc := 277) (v := 0) hC (show decode prog_15_method_110_code 277 = .ok (.iconst 0, 1) by decide +kernel) (by decide +kernel) ?_
      exact dc_sub [1] rfl (lab_278 S5 0 h)
    · intro h
      refine dc_aloadn (pc := 270) (j := 0) (i := 0) hC 1 rfl rfl (show decode prog_15_method_110_code 270 = .ok (.aload_n 0, 1) by decide +kernel) ?_
      refine md_g106 (pc := 271) hC (show decode prog_15_method_110_code 271 = .ok (.getfield 524, 3) by decide +kernel) ?_
      refine dc_goto (pc := 274) (tgt := 278) hC (show decode prog_15_method_110_code 274 = .ok (.goto 4, 3) by decide +kernel) (by decide +kernel) ?_
      exact dc_sub [1] rfl (lab_278 S5 (S5.1 106) h)
  clear h; have h := h2; clear h2
  refine dc_tabOut (pc := 8) (tgt := 279) hC dsw_prog_15_method_110_code_8 (by have := dc_swc hk7 (show (0 : Int32).toInt = 0 by decide +kernel); have := dc_swc hk8 (show (1 : Int32).toInt = 1 by decide +kernel); have := dc_swc hk9 (show (2 : Int32).toInt = 2 by decide +kernel); have := dc_swc hk10 (show (3 : Int32).toInt = 3 by decide +kernel); have := dc_swc hk11 (show (4 : Int32).toInt = 4 by decide +kernel); have := dc_swc hk12 (show (5 : Int32).toInt = 5 by decide +kernel); have := dc_swc hk13 (show (6 : Int32).toInt = 6 by decide +kernel); have := dc_swc hk14 (show (7 : Int32).toInt = 7 by decide +kernel); have := dc_swc hk16 (show (8 : Int32).toInt = 8 by decide +kernel); have := dc_swc hk17 (show (9 : Int32).toInt = 9 by decide +kernel); have := dc_swc hk18 (show (10 : Int32).toInt = 10 by decide +kernel); have := dc_swc hk19 (show (11 : Int32).toInt = 11 by decide +kernel); have := dc_swc hk20 (show (12 : Int32).toInt = 12 by decide +kernel); have := dc_swc hk21 (show (13 : Int32).toInt = 13 by decide +kernel); have := dc_swc hk22 (show (14 : Int32).toInt = 14 by decide +kernel); have := dc_swc hk23 (show (15 : Int32).toInt = 15 by decide +kernel); omega) (by decide +kernel) ?_
  refine dc_iconst (pc := 279) (v := (-1)) hC (show decode prog_15_method_110_code 279 = .ok (.iconst (-1), 1) by decide +kernel) (by decide +kernel) ?_
  exact dc_iret (pc := 280) hC hR ⟨_, dc_some h, rfl, rfl⟩ (show decode prog_15_method_110_code 280 = .ok (.ireturn, 1) by decide +kernel)
