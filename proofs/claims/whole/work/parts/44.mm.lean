noncomputable def mm_thrown (S : md_S) : Option (Int32) :=
  some (S.1 0)
set_option maxHeartbeats 4000000 in
set_option maxRecDepth 100000 in
/-- thrown()I -/
theorem mm_thrown_ok (l : Launch) (D : va_G) (ad : Nat → Nat) (de : Nat) (o : Nat) (a : Nat → Nat) (ca : Nat → ClassId) (S : md_S) (F : Int32 → Prop) (h : dc_wp (mm_thrown S) F) : dc_Ci l ⟨"SignalEngineModel", "thrown", "()I"⟩ prog_15_method_2_code 1 (some (.int)) 0 0 D (md_T ca) ad de [.ref o] (md_W o a ca S) (fun r w => ∃ q, F q ∧ r = q ∧ w = (md_W o a ca S)) 0 0 := by
  refine dc_enteri (by decide +kernel) (Nat.le_of_ble_eq_true rfl) ?_
  intro X hC hR
  show dc_G X l { frames := 0, cells := 0, slots := 0, locals := 0 } D 1 0 0 (md_W o a ca S) 0 [(0, .ref o)] []
  delta mm_thrown at h
  refine dc_aloadn (pc := 0) (j := 0) (i := 0) hC 0 rfl rfl (show decode prog_15_method_2_code 0 = .ok (.aload_n 0, 1) by decide +kernel) ?_
  refine md_g0 (pc := 1) hC (show decode prog_15_method_2_code 1 = .ok (.getfield 206, 3) by decide +kernel) ?_
  exact dc_iret (pc := 4) hC hR ⟨_, dc_some h, rfl, rfl⟩ (show decode prog_15_method_2_code 4 = .ok (.ireturn, 1) by decide +kernel)
noncomputable def mm_feed_L109 (S : md_S) : Option (md_S × Int32) :=
  dc_let (md_i S 2 ((S.1 2) + 20)) fun S1 => dc_let (md_i S1 3 1) fun S2 => some (S2, (S2.1 2))
noncomputable def mm_feed_L75 (S : md_S) (x1 : Int32) (x2 : Int32) (x3 : Int32) (x4 : Int32) (x5 : Int32) (x6 : Int32) (y0 : Int32) : Option ((md_S × Int32) ⊕ ((md_S))) :=
  (dc_ix ((S.1 2) + x6) 32768).bind fun j3 => dc_let (md_a S 1 j3 (vp_nar .byte (Int8.toInt32 (Int32.toInt8 (y0 >>> ((24 - (8 * (x6 - x6 / 4 * 4))) &&& (31 : Int32))))))) fun S4 => some (.inl (S4, (x6 + 1)))
noncomputable def mm_feed_b22 (S : md_S) (x1 : Int32) (x2 : Int32) (x3 : Int32) (x4 : Int32) (x5 : Int32) (x6 : Int32) : Option ((md_S × Int32) ⊕ ((md_S))) :=
  if x6 < 20 then (if x6 < 4 then (mm_feed_L75 S x1 x2 x3 x4 x5 x6 x1) else (if x6 < 8 then (mm_feed_L75 S x1 x2 x3 x4 x5 x6 x2) else (if x6 < 12 then (mm_feed_L75 S x1 x2 x3 x4 x5 x6 x3) else (if x6 < 16 then (mm_feed_L75 S x1 x2 x3 x4 x5 x6 x4) else (mm_feed_L75 S x1 x2 x3 x4 x5 x6 x5))))) else (some (.inr S))
noncomputable def mm_feed_s22 (x1 : Int32) (x2 : Int32) (x3 : Int32) (x4 : Int32) (x5 : Int32) (q : md_S × Int32) : Option ((md_S × Int32) ⊕ ((md_S))) :=
  mm_feed_b22 q.1 x1 x2 x3 x4 x5 q.2
noncomputable def mm_feed_L22 (S : md_S) (x1 : Int32) (x2 : Int32) (x3 : Int32) (x4 : Int32) (x5 : Int32) (x6 : Int32) : Option (md_S × Int32) :=
  (dc_it (mm_feed_s22 x1 x2 x3 x4 x5) (S, x6)).bind (fun (z : md_S) => mm_feed_L109 z)
noncomputable def mm_feed (S : md_S) (p1 : Int32) (p2 : Int32) (p3 : Int32) (p4 : Int32) (p5 : Int32) : Option (md_S × Int32) :=
  dc_let (md_i S 0 0) fun S5 => if (32768 : Int32) < ((S5.1 2) + 20) then (some (S5, (-1))) else (mm_feed_L22 S5 p1 p2 p3 p4 p5 0)
set_option maxHeartbeats 4000000 in
set_option maxRecDepth 100000 in
/-- feed(IIIII)I -/
theorem mm_feed_ok (l : Launch) (D : va_G) (ad : Nat → Nat) (de : Nat) (o : Nat) (a : Nat → Nat) (ca : Nat → ClassId) (S : md_S) (p1 : Int32) (p2 : Int32) (p3 : Int32) (p4 : Int32) (p5 : Int32) (F : (md_S × Int32) → Prop) (h : dc_wp (mm_feed S p1 p2 p3 p4 p5) F) : dc_Ci l ⟨"SignalEngineModel", "feed", "(IIIII)I"⟩ prog_15_method_4_code 8 (some (.int)) 0 0 D (md_T ca) ad de [.ref o, .int p1, .int p2, .int p3, .int p4, .int p5] (md_W o a ca S) (fun r w => ∃ q, F q ∧ r = q.2 ∧ w = md_W o a ca q.1) 0 0 := by
  refine dc_enteri (by decide +kernel) (Nat.le_of_ble_eq_true rfl) ?_
  intro X hC hR
  have lab_109 : ∀ (S : md_S), dc_wp (mm_feed_L109 S) F → dc_G X l { frames := 0, cells := 0, slots := 0, locals := 0 } D 8 0 0 (md_W o a ca S) 109 [(0, .ref o)] [] := by
    intro S  h
    delta mm_feed_L109 at h
    refine dc_aloadn (pc := 109) (j := 0) (i := 0) hC 0 rfl rfl (show decode prog_15_method_4_code 109 = .ok (.aload_n 0, 1) by decide +kernel) ?_
    refine dc_dup (pc := 110) hC (show decode prog_15_method_4_code 110 = .ok (.dup, 1) by decide +kernel) rfl ?_
    refine md_g2 (pc := 111) hC (show decode prog_15_method_4_code 111 = .ok (.getfield 210, 3) by decide +kernel) ?_
    refine dc_bipush (pc := 114) (v := 20) hC (show decode prog_15_method_4_code 114 = .ok (.bipush 20, 2) by decide +kernel) (by decide +kernel) ?_
    refine dc_iadd (pc := 116) hC (show decode prog_15_method_4_code 116 = .ok (.iadd, 1) by decide +kernel) ?_
    refine md_p2 (pc := 117) hC (show decode prog_15_method_4_code 117 = .ok (.putfield 210, 3) by decide +kernel) ?_
    refine dc_letS h ?_
    intro S1 h
    refine dc_aloadn (pc := 120) (j := 0) (i := 0) hC 0 rfl rfl (show decode prog_15_method_4_code 120 = .ok (.aload_n 0, 1) by decide +kernel) ?_
    refine dc_iconst (pc := 121) (v := 1) hC (show decode prog_15_method_4_code 121 = .ok (.iconst 1, 1) by decide +kernel) (by decide +kernel) ?_
    refine md_p3 (pc := 122) hC (Or.inr rfl) (show decode prog_15_method_4_code 122 = .ok (.putfield 213, 3) by decide +kernel) ?_
    refine dc_letS h ?_
    intro S2 h
    refine dc_aloadn (pc := 125) (j := 0) (i := 0) hC 0 rfl rfl (show decode prog_15_method_4_code 125 = .ok (.aload_n 0, 1) by decide +kernel) ?_
    refine md_g2 (pc := 126) hC (show decode prog_15_method_4_code 126 = .ok (.getfield 210, 3) by decide +kernel) ?_
    exact dc_iret (pc := 129) hC hR ⟨_, dc_some h, rfl, rfl⟩ (show decode prog_15_method_4_code 129 = .ok (.ireturn, 1) by decide +kernel)
  have loop_22 : ∀ (x1 : Int32) (x2 : Int32) (x3 : Int32) (x4 : Int32) (x5 : Int32) (q : md_S × Int32), dc_wp (dc_it (mm_feed_s22 x1 x2 x3 x4 x5) q) (fun z => dc_wp ((fun (z : md_S) => mm_feed_L109 z) z) F) → dc_G X l { frames := 0, cells := 0, slots := 0, locals := 0 } D 8 0 0 (md_W o a ca q.1) 22 [(0, .ref o), (1, .int x1), (2, .int x2), (3, .int x3), (4, .int x4), (5, .int x5), (6, .int q.2)] [] := by
    intro x1 x2 x3 x4 x5
    refine dc_loopF ?_
    intro F_22 hl_22 hr_22
    have lab_75 : ∀ (S : md_S) (x6 : Int32) (y0 : Int32), dc_wp (mm_feed_L75 S x1 x2 x3 x4 x5 x6 y0) F_22 → dc_G X l { frames := 0, cells := 0, slots := 0, locals := 0 } D 8 0 0 (md_W o a ca S) 75 [(0, .ref o), (1, .int x1), (2, .int x2), (3, .int x3), (4, .int x4), (5, .int x5), (6, .int x6)] [.int y0] := by
      intro S x6 y0 h
      delta mm_feed_L75 at h
      refine dc_istore (pc := 75) (i := 7) (lv' := [(7, .int y0), (0, .ref o), (1, .int x1), (2, .int x2), (3, .int x3), (4, .int x4), (5, .int x5), (6, .int x6)]) hC (Nat.le_of_ble_eq_true rfl) rfl (show decode prog_15_method_4_code 75 = .ok (.istore 7, 2) by decide +kernel) ?_
      refine dc_aloadn (pc := 77) (j := 0) (i := 0) hC 1 rfl rfl (show decode prog_15_method_4_code 77 = .ok (.aload_n 0, 1) by decide +kernel) ?_
      refine md_g1 (pc := 78) hC (show decode prog_15_method_4_code 78 = .ok (.getfield 10, 3) by decide +kernel) ?_
      refine dc_aloadn (pc := 81) (j := 0) (i := 0) hC 1 rfl rfl (show decode prog_15_method_4_code 81 = .ok (.aload_n 0, 1) by decide +kernel) ?_
      refine md_g2 (pc := 82) hC (show decode prog_15_method_4_code 82 = .ok (.getfield 210, 3) by decide +kernel) ?_
      refine dc_iload (pc := 85) (i := 6) hC 7 rfl (show decode prog_15_method_4_code 85 = .ok (.iload 6, 2) by decide +kernel) ?_
      refine dc_iadd (pc := 87) hC (show decode prog_15_method_4_code 87 = .ok (.iadd, 1) by decide +kernel) ?_
      refine dc_iload (pc := 88) (i := 7) hC 0 rfl (show decode prog_15_method_4_code 88 = .ok (.iload 7, 2) by decide +kernel) ?_
      refine dc_bipush (pc := 90) (v := 24) hC (show decode prog_15_method_4_code 90 = .ok (.bipush 24, 2) by decide +kernel) (by decide +kernel) ?_
      refine dc_bipush (pc := 92) (v := 8) hC (show decode prog_15_method_4_code 92 = .ok (.bipush 8, 2) by decide +kernel) (by decide +kernel) ?_
      refine dc_iload (pc := 94) (i := 6) hC 7 rfl (show decode prog_15_method_4_code 94 = .ok (.iload 6, 2) by decide +kernel) ?_
      refine dc_iconst (pc := 96) (v := 4) hC (show decode prog_15_method_4_code 96 = .ok (.iconst 4, 1) by decide +kernel) (by decide +kernel) ?_
      refine dc_irem (pc := 97) hC (show decode prog_15_method_4_code 97 = .ok (.irem, 1) by decide +kernel) (by decide +kernel) ?_
      refine dc_imul (pc := 98) hC (show decode prog_15_method_4_code 98 = .ok (.imul, 1) by decide +kernel) ?_
      refine dc_isub (pc := 99) hC (show decode prog_15_method_4_code 99 = .ok (.isub, 1) by decide +kernel) ?_
      refine dc_ishr (pc := 100) hC (show decode prog_15_method_4_code 100 = .ok (.ishr, 1) by decide +kernel) ?_
      refine dc_i2b (pc := 101) hC (show decode prog_15_method_4_code 101 = .ok (.i2b, 1) by decide +kernel) ?_
      refine md_s1 (pc := 102) hC (show decode prog_15_method_4_code 102 = .ok (.bastore, 1) by decide +kernel) h ?_
      intro j3 h
      refine dc_letS h ?_
      intro S4 h
      refine dc_iinc (pc := 103) (i := 6) (v := (x6 + 1)) (lv' := [(6, .int (x6 + 1)), (7, .int y0), (0, .ref o), (1, .int x1), (2, .int x2), (3, .int x3), (4, .int x4), (5, .int x5)]) hC 7 rfl rfl (Nat.le_of_ble_eq_true rfl) rfl (show decode prog_15_method_4_code 103 = .ok (.iinc 6 1, 3) by decide +kernel) ?_
      refine dc_goto (pc := 106) (tgt := 22) hC (show decode prog_15_method_4_code 106 = .ok (.goto (-84), 3) by decide +kernel) (by decide +kernel) ?_
      exact dc_sub [2, 3, 4, 5, 6, 7, 0] rfl (hl_22 (S4, (x6 + 1)) (dc_some h))
    rintro ⟨S, x6⟩ h
    have h : dc_wp (mm_feed_b22 S x1 x2 x3 x4 x5 x6) F_22 := h
    delta mm_feed_b22 at h
    refine dc_iload (pc := 22) (i := 6) hC 6 rfl (show decode prog_15_method_4_code 22 = .ok (.iload 6, 2) by decide +kernel) ?_
    refine dc_bipush (pc := 24) (v := 20) hC (show decode prog_15_method_4_code 24 = .ok (.bipush 20, 2) by decide +kernel) (by decide +kernel) ?_
    refine dc_icmp_ge (pc := 26) (tgt := 109) hC (show decode prog_15_method_4_code 26 = .ok (.if_icmp .ge 83, 3) by decide +kernel) (by decide +kernel) h ?_ ?_
    · intro h
      refine dc_iload (pc := 29) (i := 6) hC 6 rfl (show decode prog_15_method_4_code 29 = .ok (.iload 6, 2) by decide +kernel) ?_
      refine dc_iconst (pc := 31) (v := 4) hC (show decode prog_15_method_4_code 31 = .ok (.iconst 4, 1) by decide +kernel) (by decide +kernel) ?_
      refine dc_icmp_ge (pc := 32) (tgt := 39) hC (show decode prog_15_method_4_code 32 = .ok (.if_icmp .ge 7, 3) by decide +kernel) (by decide +kernel) h ?_ ?_
      · intro h
        refine dc_iloadn (pc := 35) (j := 1) (i := 1) hC 1 rfl rfl (show decode prog_15_method_4_code 35 = .ok (.iload_n 1, 1) by decide +kernel) ?_
        refine dc_goto (pc := 36) (tgt := 75) hC (show decode prog_15_method_4_code 36 = .ok (.goto 39, 3) by decide +kernel) (by decide +kernel) ?_
        exact lab_75 S x6 x1 h
      · intro h
        refine dc_iload (pc := 39) (i := 6) hC 6 rfl (show decode prog_15_method_4_code 39 = .ok (.iload 6, 2) by decide +kernel) ?_
        refine dc_bipush (pc := 41) (v := 8) hC (show decode prog_15_method_4_code 41 = .ok (.bipush 8, 2) by decide +kernel) (by decide +kernel) ?_
        refine dc_icmp_ge (pc := 43) (tgt := 50) hC (show decode prog_15_method_4_code 43 = .ok (.if_icmp .ge 7, 3) by decide +kernel) (by decide +kernel) h ?_ ?_
        · intro h
          refine dc_iloadn (pc := 46) (j := 2) (i := 2) hC 2 rfl rfl (show decode prog_15_method_4_code 46 = .ok (.iload_n 2, 1) by decide +kernel) ?_
          refine dc_goto (pc := 47) (tgt := 75) hC (show decode prog_15_method_4_code 47 = .ok (.goto 28, 3) by decide +kernel) (by decide +kernel) ?_
          exact lab_75 S x6 x2 h
        · intro h
          refine dc_iload (pc := 50) (i := 6) hC 6 rfl (show decode prog_15_method_4_code 50 = .ok (.iload 6, 2) by decide +kernel) ?_
          refine dc_bipush (pc := 52) (v := 12) hC (show decode prog_15_method_4_code 52 = .ok (.bipush 12, 2) by decide +kernel) (by decide +kernel) ?_
          refine dc_icmp_ge (pc := 54) (tgt := 61) hC (show decode prog_15_method_4_code 54 = .ok (.if_icmp .ge 7, 3) by decide +kernel) (by decide +kernel) h ?_ ?_
          · intro h
            refine dc_iloadn (pc := 57) (j := 3) (i := 3) hC 3 rfl rfl (show decode prog_15_method_4_code 57 = .ok (.iload_n 3, 1) by decide +kernel) ?_
            refine dc_goto (pc := 58) (tgt := 75) hC (show decode prog_15_method_4_code 58 = .ok (.goto 17, 3) by decide +kernel) (by decide +kernel) ?_
            exact lab_75 S x6 x3 h
          · intro h
            refine dc_iload (pc := 61) (i := 6) hC 6 rfl (show decode prog_15_method_4_code 61 = .ok (.iload 6, 2) by decide +kernel) ?_
            refine dc_bipush (pc := 63) (v := 16) hC (show decode prog_15_method_4_code 63 = .ok (.bipush 16, 2) by decide +kernel) (by decide +kernel) ?_
            refine dc_icmp_ge (pc := 65) (tgt := 73) hC (show decode prog_15_method_4_code 65 = .ok (.if_icmp .ge 8, 3) by decide +kernel) (by decide +kernel) h ?_ ?_
            · intro h
              refine dc_iload (pc := 68) (i := 4) hC 4 rfl (show decode prog_15_method_4_code 68 = .ok (.iload 4, 2) by decide +kernel) ?_
              refine dc_goto (pc := 70) (tgt := 75) hC (show decode prog_15_method_4_code 70 = .ok (.goto 5, 3) by decide +kernel) (by decide +kernel) ?_
              exact lab_75 S x6 x4 h
            · intro h
              refine dc_iload (pc := 73) (i := 5) hC 5 rfl (show decode prog_15_method_4_code 73 = .ok (.iload 5, 2) by decide +kernel) ?_
              exact lab_75 S x6 x5 h
    · intro h
      have h : dc_wp (mm_feed_L109 S) F := hr_22 S (dc_some h)
      exact dc_sub [0] rfl (lab_109 S h)
  have lab_22 : ∀ (S : md_S) (x1 : Int32) (x2 : Int32) (x3 : Int32) (x4 : Int32) (x5 : Int32) (x6 : Int32), dc_wp (mm_feed_L22 S x1 x2 x3 x4 x5 x6) F → dc_G X l { frames := 0, cells := 0, slots := 0, locals := 0 } D 8 0 0 (md_W o a ca S) 22 [(0, .ref o), (1, .int x1), (2, .int x2), (3, .int x3), (4, .int x4), (5, .int x5), (6, .int x6)] [] := fun S x1 x2 x3 x4 x5 x6 h => loop_22 x1 x2 x3 x4 x5 (S, x6) (dc_bind h)
  show dc_G X l { frames := 0, cells := 0, slots := 0, locals := 0 } D 8 0 0 (md_W o a ca S) 0 [(0, .ref o), (1, .int p1), (2, .int p2), (3, .int p3), (4, .int p4), (5, .int p5)] []
  delta mm_feed at h
  refine dc_aloadn (pc := 0) (j := 0) (i := 0) hC 0 rfl rfl (show decode prog_15_method_4_code 0 = .ok (.aload_n 0, 1) by decide +kernel) ?_
  refine dc_iconst (pc := 1) (v := 0) hC (show decode prog_15_method_4_code 1 = .ok (.iconst 0, 1) by decide +kernel) (by decide +kernel) ?_
  refine md_p0 (pc := 2) hC (show decode prog_15_method_4_code 2 = .ok (.putfield 206, 3) by decide +kernel) ?_
  refine dc_letS h ?_
  intro S5 h
  refine dc_aloadn (pc := 5) (j := 0) (i := 0) hC 0 rfl rfl (show decode prog_15_method_4_code 5 = .ok (.aload_n 0, 1) by decide +kernel) ?_
  refine md_g2 (pc := 6) hC (show decode prog_15_method_4_code 6 = .ok (.getfield 210, 3) by decide +kernel) ?_
  refine dc_bipush (pc := 9) (v := 20) hC (show decode prog_15_method_4_code 9 = .ok (.bipush 20, 2) by decide +kernel) (by decide +kernel) ?_
  refine dc_iadd (pc := 11) hC (show decode prog_15_method_4_code 11 = .ok (.iadd, 1) by decide +kernel) ?_
  refine dc_ldc (pc := 12) (v := 32768) hC w_1558 (show decode prog_15_method_4_code 12 = .ok (.ldc 9, 2) by decide +kernel) ?_
  refine dc_icmp_le (pc := 14) (tgt := 19) hC (show decode prog_15_method_4_code 14 = .ok (.if_icmp .le 5, 3) by decide +kernel) (by decide +kernel) h ?_ ?_
  · intro h
    refine dc_iconst (pc := 17) (v := (-1)) hC (show decode prog_15_method_4_code 17 = .ok (.iconst (-1), 1) by decide +kernel) (by decide +kernel) ?_
    exact dc_iret (pc := 18) hC hR ⟨_, dc_some h, rfl, rfl⟩ (show decode prog_15_method_4_code 18 = .ok (.ireturn, 1) by decide +kernel)
  · intro h
    refine dc_iconst (pc := 19) (v := 0) hC (show decode prog_15_method_4_code 19 = .ok (.iconst 0, 1) by decide +kernel) (by decide +kernel) ?_
    refine dc_istore (pc := 20) (i := 6) (lv' := [(6, .int 0), (0, .ref o), (1, .int p1), (2, .int p2), (3, .int p3), (4, .int p4), (5, .int p5)]) hC (Nat.le_of_ble_eq_true rfl) rfl (show decode prog_15_method_4_code 20 = .ok (.istore 6, 2) by decide +kernel) ?_
    exact dc_sub [1, 2, 3, 4, 5, 6, 0] rfl (lab_22 S5 p1 p2 p3 p4 p5 0 h)
noncomputable def mm_end_L22 (S : md_S) : Option (md_S × Int32) :=
  some (S, (-1))
noncomputable def mm_end (S : md_S) (p1 : Int32) : Option (md_S × Int32) :=
  dc_let (md_i S 0 0) fun S1 => if (S1.1 3) = 0 then (mm_end_L22 S1) else (if p1 < 0 then (mm_end_L22 S1) else (if (20 : Int32) < p1 then (mm_end_L22 S1) else (dc_let (md_i S1 3 0) fun S2 => dc_let (md_i S2 2 ((S2.1 2) + (p1 - 20))) fun S3 => some (S3, (S3.1 2)))))
set_option maxHeartbeats 4000000 in
set_option maxRecDepth 100000 in
/-- end(I)I -/
theorem mm_end_ok (l : Launch) (D : va_G) (ad : Nat → Nat) (de : Nat) (o : Nat) (a : Nat → Nat) (ca : Nat → ClassId) (S : md_S) (p1 : Int32) (F : (md_S × Int32) → Prop) (h : dc_wp (mm_end S p1) F) : dc_Ci l ⟨"SignalEngineModel", "end", "(I)I"⟩ prog_15_method_5_code 2 (some (.int)) 0 0 D (md_T ca) ad de [.ref o, .int p1] (md_W o a ca S) (fun r w => ∃ q, F q ∧ r = q.2 ∧ w = md_W o a ca q.1) 0 0 := by
  refine dc_enteri (by decide +kernel) (Nat.le_of_ble_eq_true rfl) ?_
  intro X hC hR
  have lab_22 : ∀ (S : md_S), dc_wp (mm_end_L22 S) F → dc_G X l { frames := 0, cells := 0, slots := 0, locals := 0 } D 2 0 0 (md_W o a ca S) 22 [(0, .ref o)] [] := by
    intro S  h
    delta mm_end_L22 at h
    refine dc_iconst (pc := 22) (v := (-1)) hC (show decode prog_15_method_5_code 22 = .ok (.iconst (-1), 1) by decide +kernel) (by decide +kernel) ?_
    exact dc_iret (pc := 23) hC hR ⟨_, dc_some h, rfl, rfl⟩ (show decode prog_15_method_5_code 23 = .ok (.ireturn, 1) by decide +kernel)
  show dc_G X l { frames := 0, cells := 0, slots := 0, locals := 0 } D 2 0 0 (md_W o a ca S) 0 [(0, .ref o), (1, .int p1)] []
  delta mm_end at h
  refine dc_aloadn (pc := 0) (j := 0) (i := 0) hC 0 rfl rfl (show decode prog_15_method_5_code 0 = .ok (.aload_n 0, 1) by decide +kernel) ?_
  refine dc_iconst (pc := 1) (v := 0) hC (show decode prog_15_method_5_code 1 = .ok (.iconst 0, 1) by decide +kernel) (by decide +kernel) ?_
  refine md_p0 (pc := 2) hC (show decode prog_15_method_5_code 2 = .ok (.putfield 206, 3) by decide +kernel) ?_
  refine dc_letS h ?_
  intro S1 h
  refine dc_aloadn (pc := 5) (j := 0) (i := 0) hC 0 rfl rfl (show decode prog_15_method_5_code 5 = .ok (.aload_n 0, 1) by decide +kernel) ?_
  refine md_g3 (pc := 6) hC (show decode prog_15_method_5_code 6 = .ok (.getfield 213, 3) by decide +kernel) ?_
  refine dc_if_eq (pc := 9) (tgt := 22) hC (show decode prog_15_method_5_code 9 = .ok (.ifCond .eq 13, 3) by decide +kernel) (by decide +kernel) h ?_ ?_
  · intro h
    exact dc_sub [0] rfl (lab_22 S1 h)
  · intro h
    refine dc_iloadn (pc := 12) (j := 1) (i := 1) hC 1 rfl rfl (show decode prog_15_method_5_code 12 = .ok (.iload_n 1, 1) by decide +kernel) ?_
    refine dc_if_lt (pc := 13) (tgt := 22) hC (show decode prog_15_method_5_code 13 = .ok (.ifCond .lt 9, 3) by decide +kernel) (by decide +kernel) h ?_ ?_
    · intro h
      exact dc_sub [0] rfl (lab_22 S1 h)
    · intro h
      refine dc_iloadn (pc := 16) (j := 1) (i := 1) hC 1 rfl rfl (show decode prog_15_method_5_code 16 = .ok (.iload_n 1, 1) by decide +kernel) ?_
      refine dc_bipush (pc := 17) (v := 20) hC (show decode prog_15_method_5_code 17 = .ok (.bipush 20, 2) by decide +kernel) (by decide +kernel) ?_
      refine dc_icmp_le (pc := 19) (tgt := 24) hC (show decode prog_15_method_5_code 19 = .ok (.if_icmp .le 5, 3) by decide +kernel) (by decide +kernel) h ?_ ?_
      · intro h
        exact dc_sub [0] rfl (lab_22 S1 h)
      · intro h
        refine dc_aloadn (pc := 24) (j := 0) (i := 0) hC 0 rfl rfl (show decode prog_15_method_5_code 24 = .ok (.aload_n 0, 1) by decide +kernel) ?_
        refine dc_iconst (pc := 25) (v := 0) hC (show decode prog_15_method_5_code 25 = .ok (.iconst 0, 1) by decide +kernel) (by decide +kernel) ?_
        refine md_p3 (pc := 26) hC (Or.inl rfl) (show decode prog_15_method_5_code 26 = .ok (.putfield 213, 3) by decide +kernel) ?_
        refine dc_letS h ?_
        intro S2 h
        refine dc_aloadn (pc := 29) (j := 0) (i := 0) hC 0 rfl rfl (show decode prog_15_method_5_code 29 = .ok (.aload_n 0, 1) by decide +kernel) ?_
        refine dc_dup (pc := 30) hC (show decode prog_15_method_5_code 30 = .ok (.dup, 1) by decide +kernel) rfl ?_
        refine md_g2 (pc := 31) hC (show decode prog_15_method_5_code 31 = .ok (.getfield 210, 3) by decide +kernel) ?_
        refine dc_iloadn (pc := 34) (j := 1) (i := 1) hC 1 rfl rfl (show decode prog_15_method_5_code 34 = .ok (.iload_n 1, 1) by decide +kernel) ?_
        refine dc_bipush (pc := 35) (v := 20) hC (show decode prog_15_method_5_code 35 = .ok (.bipush 20, 2) by decide +kernel) (by decide +kernel) ?_
        refine dc_isub (pc := 37) hC (show decode prog_15_method_5_code 37 = .ok (.isub, 1) by decide +kernel) ?_
        refine dc_iadd (pc := 38) hC (show decode prog_15_method_5_code 38 = .ok (.iadd, 1) by decide +kernel) ?_
        refine md_p2 (pc := 39) hC (show decode prog_15_method_5_code 39 = .ok (.putfield 210, 3) by decide +kernel) ?_
        refine dc_letS h ?_
        intro S3 h
        refine dc_aloadn (pc := 42) (j := 0) (i := 0) hC 0 rfl rfl (show decode prog_15_method_5_code 42 = .ok (.aload_n 0, 1) by decide +kernel) ?_
        refine md_g2 (pc := 43) hC (show decode prog_15_method_5_code 43 = .ok (.getfield 210, 3) by decide +kernel) ?_
        exact dc_iret (pc := 46) hC hR ⟨_, dc_some h, rfl, rfl⟩ (show decode prog_15_method_5_code 46 = .ok (.ireturn, 1) by decide +kernel)
noncomputable def mm_forget_L123 (S : md_S) : Option (md_S) :=
  some S
noncomputable def mm_forget_b104 (S : md_S) (x1 : Int32) : Option ((md_S × Int32) ⊕ ((md_S))) :=
  if x1 < 62 then ((dc_ix x1 62).bind fun j1 => dc_let (md_a S 84 j1 0) fun S2 => some (.inl (S2, (x1 + 1)))) else (some (.inr S))
noncomputable def mm_forget_s104 (q : md_S × Int32) : Option ((md_S × Int32) ⊕ ((md_S))) :=
  mm_forget_b104 q.1 q.2
noncomputable def mm_forget_L104 (S : md_S) (x1 : Int32) : Option (md_S) :=
  (dc_it (mm_forget_s104) (S, x1)).bind (fun (z : md_S) => mm_forget_L123 z)
noncomputable def mm_forget_L102 (S : md_S) : Option (md_S) :=
  mm_forget_L104 S 0
noncomputable def mm_forget_b82 (S : md_S) (x1 : Int32) : Option ((md_S × Int32) ⊕ ((md_S))) :=
  if x1 < 200 then ((dc_ix x1 200).bind fun j3 => dc_let (md_a S 74 j3 0) fun S4 => some (.inl (S4, (x1 + 1)))) else (some (.inr S))
noncomputable def mm_forget_s82 (q : md_S × Int32) : Option ((md_S × Int32) ⊕ ((md_S))) :=
  mm_forget_b82 q.1 q.2
noncomputable def mm_forget_L82 (S : md_S) (x1 : Int32) : Option (md_S) :=
  (dc_it (mm_forget_s82) (S, x1)).bind (fun (z : md_S) => mm_forget_L102 z)
noncomputable def mm_forget (S : md_S) : Option (md_S) :=
  dc_let (md_i S 77 0) fun S5 => dc_let (md_i S5 86 0) fun S6 => dc_let (md_i S6 85 0) fun S7 => dc_let (md_i S7 41 0) fun S8 => dc_let (md_i S8 106 0) fun S9 => dc_let (md_i S9 87 0) fun S10 => dc_let (md_i S10 49 0) fun S11 => dc_let (md_i S11 48 0) fun S12 => dc_let (md_i S12 47 0) fun S13 => dc_let (md_i S13 46 0) fun S14 => dc_let (md_i S14 45 0) fun S15 => dc_let (md_i S15 44 0) fun S16 => dc_let (md_i S16 43 0) fun S17 => dc_let (md_i S17 42 0) fun S18 => dc_let (md_i S18 83 0) fun S19 => dc_let (md_i S19 82 0) fun S20 => mm_forget_L82 S20 0
set_option maxHeartbeats 4000000 in
set_option maxRecDepth 100000 in
/-- forget()V -/
theorem mm_forget_ok (l : Launch) (D : va_G) (ad : Nat → Nat) (de : Nat) (o : Nat) (a : Nat → Nat) (ca : Nat → ClassId) (S : md_S) (F : md_S → Prop) (h : dc_wp (mm_forget S) F) : dc_Cv l ⟨"SignalEngineModel", "forget", "()V"⟩ prog_15_method_54_code 2 none 0 0 D (md_T ca) ad de [.ref o] (md_W o a ca S) (fun w => ∃ q, F q ∧ w = md_W o a ca q) 0 0 := by
  refine dc_enterv (by decide +kernel) (Nat.le_of_ble_eq_true rfl) ?_
  intro X hC hR
  have lab_123 : ∀ (S : md_S), dc_wp (mm_forget_L123 S) F → dc_G X l { frames := 0, cells := 0, slots := 0, locals := 0 } D 2 0 0 (md_W o a ca S) 123 [(0, .ref o)] [] := by
    intro S  h
    delta mm_forget_L123 at h
    exact dc_vret (pc := 123) hC hR ⟨_, dc_some h, rfl⟩ (show decode prog_15_method_54_code 123 = .ok (.return_, 1) by decide +kernel)
  have loop_104 : ∀ (q : md_S × Int32), dc_wp (dc_it (mm_forget_s104) q) (fun z => dc_wp ((fun (z : md_S) => mm_forget_L123 z) z) F) → dc_G X l { frames := 0, cells := 0, slots := 0, locals := 0 } D 2 0 0 (md_W o a ca q.1) 104 [(0, .ref o), (1, .int q.2)] [] := by
    refine dc_loopF ?_
    intro F_104 hl_104 hr_104
    rintro ⟨S, x1⟩ h
    have h : dc_wp (mm_forget_b104 S x1) F_104 := h
    delta mm_forget_b104 at h
    refine dc_iloadn (pc := 104) (j := 1) (i := 1) hC 1 rfl rfl (show decode prog_15_method_54_code 104 = .ok (.iload_n 1, 1) by decide +kernel) ?_
    refine dc_bipush (pc := 105) (v := 62) hC (show decode prog_15_method_54_code 105 = .ok (.bipush 62, 2) by decide +kernel) (by decide +kernel) ?_
    refine dc_icmp_ge (pc := 107) (tgt := 123) hC (show decode prog_15_method_54_code 107 = .ok (.if_icmp .ge 16, 3) by decide +kernel) (by decide +kernel) h ?_ ?_
    · intro h
      refine dc_aloadn (pc := 110) (j := 0) (i := 0) hC 0 rfl rfl (show decode prog_15_method_54_code 110 = .ok (.aload_n 0, 1) by decide +kernel) ?_
      refine md_g84 (pc := 111) hC (show decode prog_15_method_54_code 111 = .ok (.getfield 145, 3) by decide +kernel) ?_
      refine dc_iloadn (pc := 114) (j := 1) (i := 1) hC 1 rfl rfl (show decode prog_15_method_54_code 114 = .ok (.iload_n 1, 1) by decide +kernel) ?_
      refine dc_iconst (pc := 115) (v := 0) hC (show decode prog_15_method_54_code 115 = .ok (.iconst 0, 1) by decide +kernel) (by decide +kernel) ?_
      refine md_s84 (pc := 116) hC (show decode prog_15_method_54_code 116 = .ok (.iastore, 1) by decide +kernel) h ?_
      intro j1 h
      refine dc_letS h ?_
      intro S2 h
      refine dc_iinc (pc := 117) (i := 1) (v := (x1 + 1)) (lv' := [(1, .int (x1 + 1)), (0, .ref o)]) hC 1 rfl rfl (Nat.le_of_ble_eq_true rfl) rfl (show decode prog_15_method_54_code 117 = .ok (.iinc 1 1, 3) by decide +kernel) ?_
      refine dc_goto (pc := 120) (tgt := 104) hC (show decode prog_15_method_54_code 120 = .ok (.goto (-16), 3) by decide +kernel) (by decide +kernel) ?_
      exact dc_sub [1, 0] rfl (hl_104 (S2, (x1 + 1)) (dc_some h))
    · intro h
      have h : dc_wp (mm_forget_L123 S) F := hr_104 S (dc_some h)
      exact dc_sub [0] rfl (lab_123 S h)
  have lab_104 : ∀ (S : md_S) (x1 : Int32), dc_wp (mm_forget_L104 S x1) F → dc_G X l { frames := 0, cells := 0, slots := 0, locals := 0 } D 2 0 0 (md_W o a ca S) 104 [(0, .ref o), (1, .int x1)] [] := fun S x1 h => loop_104  (S, x1) (dc_bind h)
  have lab_102 : ∀ (S : md_S), dc_wp (mm_forget_L102 S) F → dc_G X l { frames := 0, cells := 0, slots := 0, locals := 0 } D 2 0 0 (md_W o a ca S) 102 [(0, .ref o)] [] := by
    intro S  h
    delta mm_forget_L102 at h
    refine dc_iconst (pc := 102) (v := 0) hC (show decode prog_15_method_54_code 102 = .ok (.iconst 0, 1) by decide +kernel) (by decide +kernel) ?_
    refine dc_istoren (pc := 103) (j := 1) (i := 1) (lv' := [(1, .int 0), (0, .ref o)]) hC rfl (Nat.le_of_ble_eq_true rfl) rfl (show decode prog_15_method_54_code 103 = .ok (.istore_n 1, 1) by decide +kernel) ?_
    exact dc_sub [1, 0] rfl (lab_104 S 0 h)
  have loop_82 : ∀ (q : md_S × Int32), dc_wp (dc_it (mm_forget_s82) q) (fun z => dc_wp ((fun (z : md_S) => mm_forget_L102 z) z) F) → dc_G X l { frames := 0, cells := 0, slots := 0, locals := 0 } D 2 0 0 (md_W o a ca q.1) 82 [(0, .ref o), (1, .int q.2)] [] := by
    refine dc_loopF ?_
    intro F_82 hl_82 hr_82
    rintro ⟨S, x1⟩ h
    have h : dc_wp (mm_forget_b82 S x1) F_82 := h
    delta mm_forget_b82 at h
    refine dc_iloadn (pc := 82) (j := 1) (i := 1) hC 1 rfl rfl (show decode prog_15_method_54_code 82 = .ok (.iload_n 1, 1) by decide +kernel) ?_
    refine dc_sipush (pc := 83) (v := 200) hC (show decode prog_15_method_54_code 83 = .ok (.sipush 200, 3) by decide +kernel) (by decide +kernel) ?_
    refine dc_icmp_ge (pc := 86) (tgt := 102) hC (show decode prog_15_method_54_code 86 = .ok (.if_icmp .ge 16, 3) by decide +kernel) (by decide +kernel) h ?_ ?_
    · intro h
      refine dc_aloadn (pc := 89) (j := 0) (i := 0) hC 0 rfl rfl (show decode prog_15_method_54_code 89 = .ok (.aload_n 0, 1) by decide +kernel) ?_
      refine md_g74 (pc := 90) hC (show decode prog_15_method_54_code 90 = .ok (.getfield 136, 3) by decide +kernel) ?_
      refine dc_iloadn (pc := 93) (j := 1) (i := 1) hC 1 rfl rfl (show decode prog_15_method_54_code 93 = .ok (.iload_n 1, 1) by decide +kernel) ?_
      refine dc_iconst (pc := 94) (v := 0) hC (show decode prog_15_method_54_code 94 = .ok (.iconst 0, 1) by decide +kernel) (by decide +kernel) ?_
      refine md_s74 (pc := 95) hC (Or.inl rfl) (show decode prog_15_method_54_code 95 = .ok (.bastore, 1) by decide +kernel) h ?_
      intro j3 h
      refine dc_letS h ?_
      intro S4 h
      refine dc_iinc (pc := 96) (i := 1) (v := (x1 + 1)) (lv' := [(1, .int (x1 + 1)), (0, .ref o)]) hC 1 rfl rfl (Nat.le_of_ble_eq_true rfl) rfl (show decode prog_15_method_54_code 96 = .ok (.iinc 1 1, 3) by decide +kernel) ?_
      refine dc_goto (pc := 99) (tgt := 82) hC (show decode prog_15_method_54_code 99 = .ok (.goto (-17), 3) by decide +kernel) (by decide +kernel) ?_
      exact dc_sub [1, 0] rfl (hl_82 (S4, (x1 + 1)) (dc_some h))
    · intro h
      have h : dc_wp (mm_forget_L102 S) F := hr_82 S (dc_some h)
      exact dc_sub [0] rfl (lab_102 S h)
  have lab_82 : ∀ (S : md_S) (x1 : Int32), dc_wp (mm_forget_L82 S x1) F → dc_G X l { frames := 0, cells := 0, slots := 0, locals := 0 } D 2 0 0 (md_W o a ca S) 82 [(0, .ref o), (1, .int x1)] [] := fun S x1 h => loop_82  (S, x1) (dc_bind h)
  show dc_G X l { frames := 0, cells := 0, slots := 0, locals := 0 } D 2 0 0 (md_W o a ca S) 0 [(0, .ref o)] []
  delta mm_forget at h
  refine dc_aloadn (pc := 0) (j := 0) (i := 0) hC 0 rfl rfl (show decode prog_15_method_54_code 0 = .ok (.aload_n 0, 1) by decide +kernel) ?_
  refine dc_aloadn (pc := 1) (j := 0) (i := 0) hC 0 rfl rfl (show decode prog_15_method_54_code 1 = .ok (.aload_n 0, 1) by decide +kernel) ?_
  refine dc_aloadn (pc := 2) (j := 0) (i := 0) hC 0 rfl rfl (show decode prog_15_method_54_code 2 = .ok (.aload_n 0, 1) by decide +kernel) ?_
  refine dc_aloadn (pc := 3) (j := 0) (i := 0) hC 0 rfl rfl (show decode prog_15_method_54_code 3 = .ok (.aload_n 0, 1) by decide +kernel) ?_
  refine dc_iconst (pc := 4) (v := 0) hC (show decode prog_15_method_54_code 4 = .ok (.iconst 0, 1) by decide +kernel) (by decide +kernel) ?_
  refine dc_dup_x1 (pc := 5) hC (show decode prog_15_method_54_code 5 = .ok (.dup_x1, 1) by decide +kernel) rfl rfl ?_
  refine md_p77 (pc := 6) hC (Or.inl rfl) (show decode prog_15_method_54_code 6 = .ok (.putfield 513, 3) by decide +kernel) ?_
  refine dc_letS h ?_
  intro S5 h
  refine dc_dup_x1 (pc := 9) hC (show decode prog_15_method_54_code 9 = .ok (.dup_x1, 1) by decide +kernel) rfl rfl ?_
  refine md_p86 (pc := 10) hC (Or.inl rfl) (show decode prog_15_method_54_code 10 = .ok (.putfield 515, 3) by decide +kernel) ?_
  refine dc_letS h ?_
  intro S6 h
  refine dc_dup_x1 (pc := 13) hC (show decode prog_15_method_54_code 13 = .ok (.dup_x1, 1) by decide +kernel) rfl rfl ?_
  refine md_p85 (pc := 14) hC (Or.inl rfl) (show decode prog_15_method_54_code 14 = .ok (.putfield 518, 3) by decide +kernel) ?_
  refine dc_letS h ?_
  intro S7 h
  refine md_p41 (pc := 17) hC (Or.inl rfl) (show decode prog_15_method_54_code 17 = .ok (.putfield 521, 3) by decide +kernel) ?_
  refine dc_letS h ?_
  intro S8 h
  refine dc_aloadn (pc := 20) (j := 0) (i := 0) hC 0 rfl rfl (show decode prog_15_method_54_code 20 = .ok (.aload_n 0, 1) by decide +kernel) ?_
  refine dc_aloadn (pc := 21) (j := 0) (i := 0) hC 0 rfl rfl (show decode prog_15_method_54_code 21 = .ok (.aload_n 0, 1) by decide +kernel) ?_
  refine dc_aloadn (pc := 22) (j := 0) (i := 0) hC 0 rfl rfl (show decode prog_15_method_54_code 22 = .ok (.aload_n 0, 1) by decide +kernel) ?_
  refine dc_aloadn (pc := 23) (j := 0) (i := 0) hC 0 rfl rfl (show decode prog_15_method_54_code 23 = .ok (.aload_n 0, 1) by decide +kernel) ?_
  refine dc_aloadn (pc := 24) (j := 0) (i := 0) hC 0 rfl rfl (show decode prog_15_method_54_code 24 = .ok (.aload_n 0, 1) by decide +kernel) ?_
  refine dc_aloadn (pc := 25) (j := 0) (i := 0) hC 0 rfl rfl (show decode prog_15_method_54_code 25 = .ok (.aload_n 0, 1) by decide +kernel) ?_
  refine dc_aloadn (pc := 26) (j := 0) (i := 0) hC 0 rfl rfl (show decode prog_15_method_54_code 26 = .ok (.aload_n 0, 1) by decide +kernel) ?_
  refine dc_aloadn (pc := 27) (j := 0) (i := 0) hC 0 rfl rfl (show decode prog_15_method_54_code 27 = .ok (.aload_n 0, 1) by decide +kernel) ?_
  refine dc_aloadn (pc := 28) (j := 0) (i := 0) hC 0 rfl rfl (show decode prog_15_method_54_code 28 = .ok (.aload_n 0, 1) by decide +kernel) ?_
  refine dc_aloadn (pc := 29) (j := 0) (i := 0) hC 0 rfl rfl (show decode prog_15_method_54_code 29 = .ok (.aload_n 0, 1) by decide +kernel) ?_
  refine dc_aloadn (pc := 30) (j := 0) (i := 0) hC 0 rfl rfl (show decode prog_15_method_54_code 30 = .ok (.aload_n 0, 1) by decide +kernel) ?_
  refine dc_aloadn (pc := 31) (j := 0) (i := 0) hC 0 rfl rfl (show decode prog_15_method_54_code 31 = .ok (.aload_n 0, 1) by decide +kernel) ?_
  refine dc_iconst (pc := 32) (v := 0) hC (show decode prog_15_method_54_code 32 = .ok (.iconst 0, 1) by decide +kernel) (by decide +kernel) ?_
  refine dc_dup_x1 (pc := 33) hC (show decode prog_15_method_54_code 33 = .ok (.dup_x1, 1) by decide +kernel) rfl rfl ?_
  refine md_p106 (pc := 34) hC (show decode prog_15_method_54_code 34 = .ok (.putfield 524, 3) by decide +kernel) ?_
  refine dc_letS h ?_
  intro S9 h
  refine dc_dup_x1 (pc := 37) hC (show decode prog_15_method_54_code 37 = .ok (.dup_x1, 1) by decide +kernel) rfl rfl ?_
  refine md_p87 (pc := 38) hC (show decode prog_15_method_54_code 38 = .ok (.putfield 527, 3) by decide +kernel) ?_
  refine dc_letS h ?_
  intro S10 h
  refine dc_dup_x1 (pc := 41) hC (show decode prog_15_method_54_code 41 = .ok (.dup_x1, 1) by decide +kernel) rfl rfl ?_
  refine md_p49 (pc := 42) hC (show decode prog_15_method_54_code 42 = .ok (.putfield 504, 3) by decide +kernel) ?_
  refine dc_letS h ?_
  intro S11 h
  refine dc_dup_x1 (pc := 45) hC (show decode prog_15_method_54_code 45 = .ok (.dup_x1, 1) by decide +kernel) rfl rfl ?_
  refine md_p48 (pc := 46) hC (show decode prog_15_method_54_code 46 = .ok (.putfield 507, 3) by decide +kernel) ?_
  refine dc_letS h ?_
  intro S12 h
  refine dc_dup_x1 (pc := 49) hC (show decode prog_15_method_54_code 49 = .ok (.dup_x1, 1) by decide +kernel) rfl rfl ?_
  refine md_p47 (pc := 50) hC (show decode prog_15_method_54_code 50 = .ok (.putfield 498, 3) by decide +kernel) ?_
  refine dc_letS h ?_
  intro S13 h
  refine dc_dup_x1 (pc := 53) hC (show decode prog_15_method_54_code 53 = .ok (.dup_x1, 1) by decide +kernel) rfl rfl ?_
  refine md_p46 (pc := 54) hC (show decode prog_15_method_54_code 54 = .ok (.putfield 530, 3) by decide +kernel) ?_
  refine dc_letS h ?_
  intro S14 h
  refine dc_dup_x1 (pc := 57) hC (show decode prog_15_method_54_code 57 = .ok (.dup_x1, 1) by decide +kernel) rfl rfl ?_
  refine md_p45 (pc := 58) hC (show decode prog_15_method_54_code 58 = .ok (.putfield 533, 3) by decide +kernel) ?_
  refine dc_letS h ?_
  intro S15 h
  refine dc_dup_x1 (pc := 61) hC (show decode prog_15_method_54_code 61 = .ok (.dup_x1, 1) by decide +kernel) rfl rfl ?_
  refine md_p44 (pc := 62) hC (show decode prog_15_method_54_code 62 = .ok (.putfield 536, 3) by decide +kernel) ?_
  refine dc_letS h ?_
  intro S16 h
  refine dc_dup_x1 (pc := 65) hC (show decode prog_15_method_54_code 65 = .ok (.dup_x1, 1) by decide +kernel) rfl rfl ?_
  refine md_p43 (pc := 66) hC (show decode prog_15_method_54_code 66 = .ok (.putfield 501, 3) by decide +kernel) ?_
  refine dc_letS h ?_
  intro S17 h
  refine dc_dup_x1 (pc := 69) hC (show decode prog_15_method_54_code 69 = .ok (.dup_x1, 1) by decide +kernel) rfl rfl ?_
  refine md_p42 (pc := 70) hC (show decode prog_15_method_54_code 70 = .ok (.putfield 539, 3) by decide +kernel) ?_
  refine dc_letS h ?_
  intro S18 h
  refine dc_dup_x1 (pc := 73) hC (show decode prog_15_method_54_code 73 = .ok (.dup_x1, 1) by decide +kernel) rfl rfl ?_
  refine md_p83 (pc := 74) hC (show decode prog_15_method_54_code 74 = .ok (.putfield 542, 3) by decide +kernel) ?_
  refine dc_letS h ?_
  intro S19 h
  refine md_p82 (pc := 77) hC (show decode prog_15_method_54_code 77 = .ok (.putfield 545, 3) by decide +kernel) ?_
  refine dc_letS h ?_
  intro S20 h
  refine dc_iconst (pc := 80) (v := 0) hC (show decode prog_15_method_54_code 80 = .ok (.iconst 0, 1) by decide +kernel) (by decide +kernel) ?_
  refine dc_istoren (pc := 81) (j := 1) (i := 1) (lv' := [(1, .int 0), (0, .ref o)]) hC rfl (Nat.le_of_ble_eq_true rfl) rfl (show decode prog_15_method_54_code 81 = .ok (.istore_n 1, 1) by decide +kernel) ?_
  exact dc_sub [1, 0] rfl (lab_82 S20 0 h)
noncomputable def mm_fail_L17 (S : md_S) : Option (md_S) :=
  some S
noncomputable def mm_fail (S : md_S) (p1 : Int32) (p2 : Int32) : Option (md_S) :=
  if (S.1 10) = 0 then (dc_let (md_i S 10 (p1 + (8 * p2))) fun S1 => mm_fail_L17 S1) else (mm_fail_L17 S)
set_option maxHeartbeats 4000000 in
set_option maxRecDepth 100000 in
/-- fail(II)V -/
theorem mm_fail_ok (l : Launch) (D : va_G) (ad : Nat → Nat) (de : Nat) (o : Nat) (a : Nat → Nat) (ca : Nat → ClassId) (S : md_S) (p1 : Int32) (p2 : Int32) (F : md_S → Prop) (h : dc_wp (mm_fail S p1 p2) F) : dc_Cv l ⟨"SignalEngineModel", "fail", "(II)V"⟩ prog_15_method_9_code 3 none 0 0 D (md_T ca) ad de [.ref o, .int p1, .int p2] (md_W o a ca S) (fun w => ∃ q, F q ∧ w = md_W o a ca q) 0 0 := by
  refine dc_enterv (by decide +kernel) (Nat.le_of_ble_eq_true rfl) ?_
  intro X hC hR
  have lab_17 : ∀ (S : md_S), dc_wp (mm_fail_L17 S) F → dc_G X l { frames := 0, cells := 0, slots := 0, locals := 0 } D 3 0 0 (md_W o a ca S) 17 [(0, .ref o)] [] := by
    intro S  h
    delta mm_fail_L17 at h
    exact dc_vret (pc := 17) hC hR ⟨_, dc_some h, rfl⟩ (show decode prog_15_method_9_code 17 = .ok (.return_, 1) by decide +kernel)
  show dc_G X l { frames := 0, cells := 0, slots := 0, locals := 0 } D 3 0 0 (md_W o a ca S) 0 [(0, .ref o), (1, .int p1), (2, .int p2)] []
  delta mm_fail at h
  refine dc_aloadn (pc := 0) (j := 0) (i := 0) hC 0 rfl rfl (show decode prog_15_method_9_code 0 = .ok (.aload_n 0, 1) by decide +kernel) ?_
  refine md_g10 (pc := 1) hC (show decode prog_15_method_9_code 1 = .ok (.getfield 221, 3) by decide +kernel) ?_
  refine dc_if_ne (pc := 4) (tgt := 17) hC (show decode prog_15_method_9_code 4 = .ok (.ifCond .ne 13, 3) by decide +kernel) (by decide +kernel) h ?_ ?_
  · intro h
    refine dc_aloadn (pc := 7) (j := 0) (i := 0) hC 0 rfl rfl (show decode prog_15_method_9_code 7 = .ok (.aload_n 0, 1) by decide +kernel) ?_
    refine dc_iloadn (pc := 8) (j := 1) (i := 1) hC 1 rfl rfl (show decode prog_15_method_9_code 8 = .ok (.iload_n 1, 1) by decide +kernel) ?_
    refine dc_bipush (pc := 9) (v := 8) hC (show decode prog_15_method_9_code 9 = .ok (.bipush 8, 2) by decide +kernel) (by decide +kernel) ?_
    refine dc_iloadn (pc := 11) (j := 2) (i := 2) hC 2 rfl rfl (show decode prog_15_method_9_code 11 = .ok (.iload_n 2, 1) by decide +kernel) ?_
    refine dc_imul (pc := 12) hC (show decode prog_15_method_9_code 12 = .ok (.imul, 1) by decide +kernel) ?_
    refine dc_iadd (pc := 13) hC (show decode prog_15_method_9_code 13 = .ok (.iadd, 1) by decide +kernel) ?_
    refine md_p10 (pc := 14) hC (show decode prog_15_method_9_code 14 = .ok (.putfield 221, 3) by decide +kernel) ?_
    refine dc_letS h ?_
    intro S1 h
    exact dc_sub [0] rfl (lab_17 S1 h)
  · intro h
    exact dc_sub [0] rfl (lab_17 S h)
noncomputable def mm_letter_I_L18 (S : md_S) (y0 : Int32) : Option (Int32) :=
  some y0
noncomputable def mm_letter_I (S : md_S) (p1 : Int32) : Option (Int32) :=
  if p1 < (S.1 2) then ((dc_ix p1 32768).bind fun j1 => mm_letter_I_L18 S (S.2.1 1 j1)) else (mm_letter_I_L18 S 0)
set_option maxHeartbeats 4000000 in
set_option maxRecDepth 100000 in
/-- letter(I)I -/
theorem mm_letter_I_ok (l : Launch) (D : va_G) (ad : Nat → Nat) (de : Nat) (o : Nat) (a : Nat → Nat) (ca : Nat → ClassId) (S : md_S) (p1 : Int32) (F : Int32 → Prop) (h : dc_wp (mm_letter_I S p1) F) : dc_Ci l ⟨"SignalEngineModel", "letter", "(I)I"⟩ prog_15_method_6_code 2 (some (.int)) 0 0 D (md_T ca) ad de [.ref o, .int p1] (md_W o a ca S) (fun r w => ∃ q, F q ∧ r = q ∧ w = (md_W o a ca S)) 0 0 := by
  refine dc_enteri (by decide +kernel) (Nat.le_of_ble_eq_true rfl) ?_
  intro X hC hR
  have lab_18 : ∀ (y0 : Int32), dc_wp (mm_letter_I_L18 S y0) F → dc_G X l { frames := 0, cells := 0, slots := 0, locals := 0 } D 2 0 0 (md_W o a ca S) 18 [(0, .ref o)] [.int y0] := by
    intro y0 h
    delta mm_letter_I_L18 at h
    exact dc_iret (pc := 18) hC hR ⟨_, dc_some h, rfl, rfl⟩ (show decode prog_15_method_6_code 18 = .ok (.ireturn, 1) by decide +kernel)
  show dc_G X l { frames := 0, cells := 0, slots := 0, locals := 0 } D 2 0 0 (md_W o a ca S) 0 [(0, .ref o), (1, .int p1)] []
  delta mm_letter_I at h
  refine dc_iloadn (pc := 0) (j := 1) (i := 1) hC 1 rfl rfl (show decode prog_15_method_6_code 0 = .ok (.iload_n 1, 1) by decide +kernel) ?_
  refine dc_aloadn (pc := 1) (j := 0) (i := 0) hC 0 rfl rfl (show decode prog_15_method_6_code 1 = .ok (.aload_n 0, 1) by decide +kernel) ?_
  refine md_g2 (pc := 2) hC (show decode prog_15_method_6_code 2 = .ok (.getfield 210, 3) by decide +kernel) ?_
  refine dc_icmp_ge (pc := 5) (tgt := 17) hC (show decode prog_15_method_6_code 5 = .ok (.if_icmp .ge 12, 3) by decide +kernel) (by decide +kernel) h ?_ ?_
  · intro h
    refine dc_aloadn (pc := 8) (j := 0) (i := 0) hC 0 rfl rfl (show decode prog_15_method_6_code 8 = .ok (.aload_n 0, 1) by decide +kernel) ?_
    refine md_g1 (pc := 9) hC (show decode prog_15_method_6_code 9 = .ok (.getfield 10, 3) by decide +kernel) ?_
    refine dc_iloadn (pc := 12) (j := 1) (i := 1) hC 1 rfl rfl (show decode prog_15_method_6_code 12 = .ok (.iload_n 1, 1) by decide +kernel) ?_
    refine md_l1 (pc := 13) hC (show decode prog_15_method_6_code 13 = .ok (.baload, 1) by decide +kernel) h ?_
    intro j1 h
    refine dc_goto (pc := 14) (tgt := 18) hC (show decode prog_15_method_6_code 14 = .ok (.goto 4, 3) by decide +kernel) (by decide +kernel) ?_
    exact dc_sub [0] rfl (lab_18 (S.2.1 1 j1) h)
  · intro h
    refine dc_iconst (pc := 17) (v := 0) hC (show decode prog_15_method_6_code 17 = .ok (.iconst 0, 1) by decide +kernel) (by decide +kernel) ?_
    exact dc_sub [0] rfl (lab_18 0 h)
noncomputable def mm_isLetter_L29 (y0 : Int32) : Option (Int32) :=
  (dc_zb y0).bind fun _ => some y0
noncomputable def mm_isLetter_L28 : Option (Int32) :=
  mm_isLetter_L29 0
noncomputable def mm_isLetter_L24 : Option (Int32) :=
  mm_isLetter_L29 1
noncomputable def mm_isLetter_L12 (x0 : Int32) : Option (Int32) :=
  if x0 < 65 then (mm_isLetter_L28) else (if (90 : Int32) < x0 then (mm_isLetter_L28) else (mm_isLetter_L24))
noncomputable def mm_isLetter (p0 : Int32) : Option (Int32) :=
  if p0 < 97 then (mm_isLetter_L12 p0) else (if (122 : Int32) < p0 then (mm_isLetter_L12 p0) else (mm_isLetter_L24))
set_option maxHeartbeats 4000000 in
set_option maxRecDepth 100000 in
/-- isLetter(I)Z -/
theorem mm_isLetter_ok (l : Launch) (D : va_G) (ad : Nat → Nat) (de : Nat) (ws : va_W) (tys : List (ClassId × FieldType)) (p0 : Int32) (F : Int32 → Prop) (h : dc_wp (mm_isLetter p0) F) : dc_Ci l ⟨"SignalEngineModel", "isLetter", "(I)Z"⟩ prog_15_method_7_code 1 (some (.boolean)) 0 0 D tys ad de [.int p0] ws (fun r w => ∃ q, F q ∧ r = q ∧ w = ws) 0 0 := by
  refine dc_enteri (by decide +kernel) (Nat.le_of_ble_eq_true rfl) ?_
  intro X hC hR
  have lab_29 : ∀ (y0 : Int32), dc_wp (mm_isLetter_L29 y0) F → dc_G X l { frames := 0, cells := 0, slots := 0, locals := 0 } D 1 0 0 ws 29 [] [.int y0] := by
    intro y0 h
    delta mm_isLetter_L29 at h
    obtain ⟨hz1, h⟩ := dc_zb_wp (dc_bind h)
    exact dc_zret (pc := 29) hC hR hz1 ⟨_, dc_some h, rfl, rfl⟩ (show decode prog_15_method_7_code 29 = .ok (.ireturn, 1) by decide +kernel)
  have lab_28 : dc_wp (mm_isLetter_L28) F → dc_G X l { frames := 0, cells := 0, slots := 0, locals := 0 } D 1 0 0 ws 28 [] [] := by
    intro  h
    delta mm_isLetter_L28 at h
    refine dc_iconst (pc := 28) (v := 0) hC (show decode prog_15_method_7_code 28 = .ok (.iconst 0, 1) by decide +kernel) (by decide +kernel) ?_
    exact lab_29 0 h
  have lab_24 : dc_wp (mm_isLetter_L24) F → dc_G X l { frames := 0, cells := 0, slots := 0, locals := 0 } D 1 0 0 ws 24 [] [] := by
    intro  h
    delta mm_isLetter_L24 at h
    refine dc_iconst (pc := 24) (v := 1) hC (show decode prog_15_method_7_code 24 = .ok (.iconst 1, 1) by decide +kernel) (by decide +kernel) ?_
    refine dc_goto (pc := 25) (tgt := 29) hC (show decode prog_15_method_7_code 25 = .ok (.goto 4, 3) by decide +kernel) (by decide +kernel) ?_
    exact lab_29 1 h
  have lab_12 : ∀ (x0 : Int32), dc_wp (mm_isLetter_L12 x0) F → dc_G X l { frames := 0, cells := 0, slots := 0, locals := 0 } D 1 0 0 ws 12 [(0, .int x0)] [] := by
    intro x0 h
    delta mm_isLetter_L12 at h
    refine dc_iloadn (pc := 12) (j := 0) (i := 0) hC 0 rfl rfl (show decode prog_15_method_7_code 12 = .ok (.iload_n 0, 1) by decide +kernel) ?_
    refine dc_bipush (pc := 13) (v := 65) hC (show decode prog_15_method_7_code 13 = .ok (.bipush 65, 2) by decide +kernel) (by decide +kernel) ?_
    refine dc_icmp_lt (pc := 15) (tgt := 28) hC (show decode prog_15_method_7_code 15 = .ok (.if_icmp .lt 13, 3) by decide +kernel) (by decide +kernel) h ?_ ?_
    · intro h
      exact dc_sub [] rfl (lab_28 h)
    · intro h
      refine dc_iloadn (pc := 18) (j := 0) (i := 0) hC 0 rfl rfl (show decode prog_15_method_7_code 18 = .ok (.iload_n 0, 1) by decide +kernel) ?_
      refine dc_bipush (pc := 19) (v := 90) hC (show decode prog_15_method_7_code 19 = .ok (.bipush 90, 2) by decide +kernel) (by decide +kernel) ?_
      refine dc_icmp_gt (pc := 21) (tgt := 28) hC (show decode prog_15_method_7_code 21 = .ok (.if_icmp .gt 7, 3) by decide +kernel) (by decide +kernel) h ?_ ?_
      · intro h
        exact dc_sub [] rfl (lab_28 h)
      · intro h
        exact dc_sub [] rfl (lab_24 h)
  show dc_G X l { frames := 0, cells := 0, slots := 0, locals := 0 } D 1 0 0 ws 0 [(0, .int p0)] []
  delta mm_isLetter at h
  refine dc_iloadn (pc := 0) (j := 0) (i := 0) hC 0 rfl rfl (show decode prog_15_method_7_code 0 = .ok (.iload_n 0, 1) by decide +kernel) ?_
  refine dc_bipush (pc := 1) (v := 97) hC (show decode prog_15_method_7_code 1 = .ok (.bipush 97, 2) by decide +kernel) (by decide +kernel) ?_
  refine dc_icmp_lt (pc := 3) (tgt := 12) hC (show decode prog_15_method_7_code 3 = .ok (.if_icmp .lt 9, 3) by decide +kernel) (by decide +kernel) h ?_ ?_
  · intro h
    exact lab_12 p0 h
  · intro h
    refine dc_iloadn (pc := 6) (j := 0) (i := 0) hC 0 rfl rfl (show decode prog_15_method_7_code 6 = .ok (.iload_n 0, 1) by decide +kernel) ?_
    refine dc_bipush (pc := 7) (v := 122) hC (show decode prog_15_method_7_code 7 = .ok (.bipush 122, 2) by decide +kernel) (by decide +kernel) ?_
    refine dc_icmp_le (pc := 9) (tgt := 24) hC (show decode prog_15_method_7_code 9 = .ok (.if_icmp .le 15, 3) by decide +kernel) (by decide +kernel) h ?_ ?_
    · intro h
      exact lab_12 p0 h
    · intro h
      exact dc_sub [] rfl (lab_24 h)
noncomputable def mm_isPlain_L30 (y0 : Int32) : Option (Int32) :=
  (dc_zb y0).bind fun _ => some y0
noncomputable def mm_isPlain_L25 : Option (Int32) :=
  mm_isPlain_L30 1
noncomputable def mm_isPlain_L19 (x0 : Int32) : Option (Int32) :=
  if x0 = 95 then (mm_isPlain_L25) else (mm_isPlain_L30 0)
noncomputable def mm_isPlain (p0 : Int32) : Option (Int32) :=
  (mm_isLetter p0).bind fun q2 => if q2 = 0 then (if p0 < 48 then (mm_isPlain_L19 p0) else (if (57 : Int32) < p0 then (mm_isPlain_L19 p0) else (mm_isPlain_L25))) else (mm_isPlain_L25)
set_option maxHeartbeats 4000000 in
set_option maxRecDepth 100000 in
/-- isPlain(I)Z -/
theorem mm_isPlain_ok (l : Launch) (D : va_G) (ad : Nat → Nat) (de : Nat) (ws : va_W) (tys : List (ClassId × FieldType)) (p0 : Int32) (F : Int32 → Prop) (h : dc_wp (mm_isPlain p0) F) : dc_Ci l ⟨"SignalEngineModel", "isPlain", "(I)Z"⟩ prog_15_method_8_code 1 (some (.boolean)) 1 20 D tys ad de [.int p0] ws (fun r w => ∃ q, F q ∧ r = q ∧ w = ws) 0 0 := by
  refine dc_enteri (by decide +kernel) (Nat.le_of_ble_eq_true rfl) ?_
  intro X hC hR
  have lab_30 : ∀ (y0 : Int32), dc_wp (mm_isPlain_L30 y0) F → dc_G X l { frames := 1, cells := 0, slots := 0, locals := 20 } D 1 0 0 ws 30 [] [.int y0] := by
    intro y0 h
    delta mm_isPlain_L30 at h
    obtain ⟨hz1, h⟩ := dc_zb_wp (dc_bind h)
    exact dc_zret (pc := 30) hC hR hz1 ⟨_, dc_some h, rfl, rfl⟩ (show decode prog_15_method_8_code 30 = .ok (.ireturn, 1) by decide +kernel)
  have lab_25 : dc_wp (mm_isPlain_L25) F → dc_G X l { frames := 1, cells := 0, slots := 0, locals := 20 } D 1 0 0 ws 25 [] [] := by
    intro  h
    delta mm_isPlain_L25 at h
    refine dc_iconst (pc := 25) (v := 1) hC (show decode prog_15_method_8_code 25 = .ok (.iconst 1, 1) by decide +kernel) (by decide +kernel) ?_
    refine dc_goto (pc := 26) (tgt := 30) hC (show decode prog_15_method_8_code 26 = .ok (.goto 4, 3) by decide +kernel) (by decide +kernel) ?_
    exact lab_30 1 h
  have lab_19 : ∀ (x0 : Int32), dc_wp (mm_isPlain_L19 x0) F → dc_G X l { frames := 1, cells := 0, slots := 0, locals := 20 } D 1 0 0 ws 19 [(0, .int x0)] [] := by
    intro x0 h
    delta mm_isPlain_L19 at h
    refine dc_iloadn (pc := 19) (j := 0) (i := 0) hC 0 rfl rfl (show decode prog_15_method_8_code 19 = .ok (.iload_n 0, 1) by decide +kernel) ?_
    refine dc_bipush (pc := 20) (v := 95) hC (show decode prog_15_method_8_code 20 = .ok (.bipush 95, 2) by decide +kernel) (by decide +kernel) ?_
    refine dc_icmp_ne (pc := 22) (tgt := 29) hC (show decode prog_15_method_8_code 22 = .ok (.if_icmp .ne 7, 3) by decide +kernel) (by decide +kernel) h ?_ ?_
    · intro h
      exact dc_sub [] rfl (lab_25 h)
    · intro h
      refine dc_iconst (pc := 29) (v := 0) hC (show decode prog_15_method_8_code 29 = .ok (.iconst 0, 1) by decide +kernel) (by decide +kernel) ?_
      exact dc_sub [] rfl (lab_30 0 h)
  show dc_G X l { frames := 1, cells := 0, slots := 0, locals := 20 } D 1 0 0 ws 0 [(0, .int p0)] []
  delta mm_isPlain at h
  refine dc_iloadn (pc := 0) (j := 0) (i := 0) hC 0 rfl rfl (show decode prog_15_method_8_code 0 = .ok (.iload_n 0, 1) by decide +kernel) ?_
  refine mc_Spi (pc := 1) (As := [.int p0]) (rest := []) hC vs_isLetter_217 (mm_isLetter_ok l D ad de ws tys p0) (Nat.le_of_ble_eq_true rfl) (Nat.le_of_ble_eq_true rfl) rfl (Nat.le_of_ble_eq_true rfl) (show decode prog_15_method_8_code 1 = .ok (.invokestatic 217, 3) by decide +kernel) h ?_
  intro q2 h
  refine dc_if_ne (pc := 4) (tgt := 25) hC (show decode prog_15_method_8_code 4 = .ok (.ifCond .ne 21, 3) by decide +kernel) (by decide +kernel) h ?_ ?_
  · intro h
    refine dc_iloadn (pc := 7) (j := 0) (i := 0) hC 0 rfl rfl (show decode prog_15_method_8_code 7 = .ok (.iload_n 0, 1) by decide +kernel) ?_
    refine dc_bipush (pc := 8) (v := 48) hC (show decode prog_15_method_8_code 8 = .ok (.bipush 48, 2) by decide +kernel) (by decide +kernel) ?_
    refine dc_icmp_lt (pc := 10) (tgt := 19) hC (show decode prog_15_method_8_code 10 = .ok (.if_icmp .lt 9, 3) by decide +kernel) (by decide +kernel) h ?_ ?_
    · intro h
      exact lab_19 p0 h
    · intro h
      refine dc_iloadn (pc := 13) (j := 0) (i := 0) hC 0 rfl rfl (show decode prog_15_method_8_code 13 = .ok (.iload_n 0, 1) by decide +kernel) ?_
      refine dc_bipush (pc := 14) (v := 57) hC (show decode prog_15_method_8_code 14 = .ok (.bipush 57, 2) by decide +kernel) (by decide +kernel) ?_
      refine dc_icmp_le (pc := 16) (tgt := 25) hC (show decode prog_15_method_8_code 16 = .ok (.if_icmp .le 9, 3) by decide +kernel) (by decide +kernel) h ?_ ?_
      · intro h
        exact lab_19 p0 h
      · intro h
        exact dc_sub [] rfl (lab_25 h)
  · intro h
    exact dc_sub [] rfl (lab_25 h)
noncomputable def mm_advance_L371 (S : md_S) (y0 : Int64) : Option (md_S) :=
  dc_let (md_w S y0) fun S1 => some S1
noncomputable def mm_advance_L345 (S : md_S) (x2 : Int32) (y0 : Int32) (y1 : Int32) : Option (md_S) :=
  dc_let (md_i S 4 (y1 + y0)) fun S2 => if ((S2.1 4) - (S2.1 7)) = 2 then (mm_advance_L371 S2 256) else (mm_advance_L371 S2 (Int32.toInt64 x2))
noncomputable def mm_advance_L344 (S : md_S) (x2 : Int32) (y0 : Int32) : Option (md_S) :=
  mm_advance_L345 S x2 1 y0
noncomputable def mm_advance_L310 (S : md_S) (y0 : Int32) : Option (md_S) :=
  dc_let (md_i S 6 y0) fun S3 => some S3
noncomputable def mm_advance_L290 (S : md_S) : Option (md_S) :=
  if (31 : Int32) < ((S.1 4) - (S.1 7)) then (mm_advance_L310 S 3) else (mm_advance_L310 S 1)
noncomputable def mm_advance_L274 (S : md_S) (y0 : Int64) : Option ((md_S) ⊕ ((md_S))) :=
  dc_let (md_w S y0) fun S4 => dc_let (md_i S4 4 ((S4.1 4) + 1)) fun S5 => some (.inl S5)
noncomputable def mm_advance_b222 (S : md_S) : Option ((md_S) ⊕ ((md_S))) :=
  (mm_letter_I S (S.1 4)).bind fun q6 => (mm_isPlain q6).bind fun q7 => if q7 = 0 then (some (.inr S)) else (if ((S.1 4) - (S.1 7)) < 8 then ((mm_letter_I S (S.1 4)).bind fun q8 => mm_advance_L274 S ((S.2.2.1 <<< (Int32.toInt64 8 &&& 63)) ||| (Int32.toInt64 q8))) else (mm_advance_L274 S (-1)))
noncomputable def mm_advance_s222 (q : md_S) : Option ((md_S) ⊕ ((md_S))) :=
  mm_advance_b222 q
noncomputable def mm_advance_L222 (S : md_S) : Option (md_S) :=
  (dc_it (mm_advance_s222) S).bind (fun (z : md_S) => mm_advance_L290 z)
noncomputable def mm_advance_L198 (S : md_S) (x2 : Int32) (y0 : Int32) : Option (md_S) :=
  dc_let (md_i S 6 y0) fun S9 => dc_let (md_w S9 0) fun S10 => if (S10.1 6) = 0 then (some S10) else (if (S10.1 6) = 1 then (mm_advance_L222 S10) else (if x2 = 124 then ((mm_letter_I S10 ((S10.1 4) + 1)).bind fun q11 => if q11 = 124 then (mm_advance_L345 S10 x2 2 (S10.1 4)) else (mm_advance_L344 S10 x2 (S10.1 4))) else (mm_advance_L344 S10 x2 (S10.1 4))))
noncomputable def mm_advance_L145 (S : md_S) : Option (md_S) :=
  dc_let (md_i S 7 (S.1 4)) fun S12 => dc_let (md_i S12 8 (S12.1 5)) fun S13 => (mm_letter_I S13 (S13.1 4)).bind fun q14 => if (S13.1 4) = (S13.1 2) then (mm_advance_L198 S13 q14 0) else ((mm_isLetter q14).bind fun q15 => if q15 = 0 then (mm_advance_L198 S13 q14 2) else (mm_advance_L198 S13 q14 1))
noncomputable def mm_advance_L128 (S : md_S) (x1 : Int32) (y0 : Int32) (y1 : Int32) : Option ((md_S × Int32) ⊕ ((md_S))) :=
  dc_let (md_i S 5 (y1 + y0)) fun S16 => dc_let (md_i S16 4 ((S16.1 4) + 1)) fun S17 => some (.inl (S17, x1))
noncomputable def mm_advance_L104 (S : md_S) (y0 : Int32) : Option ((md_S × Int32) ⊕ ((md_S))) :=
  (mm_letter_I S (S.1 4)).bind fun q18 => if q18 = 10 then (mm_advance_L128 S y0 1 (S.1 5)) else (mm_advance_L128 S y0 0 (S.1 5))
noncomputable def mm_advance_L103 (S : md_S) : Option ((md_S × Int32) ⊕ ((md_S))) :=
  mm_advance_L104 S 0
noncomputable def mm_advance_L99 (S : md_S) : Option ((md_S × Int32) ⊕ ((md_S))) :=
  mm_advance_L104 S 1
noncomputable def mm_advance_L69 (S : md_S) (x1 : Int32) : Option ((md_S × Int32) ⊕ ((md_S))) :=
  (mm_letter_I S (S.1 4)).bind fun q19 => if q19 = 10 then (mm_advance_L103 S) else (if x1 = 0 then ((mm_letter_I S (S.1 4)).bind fun q20 => if q20 = 37 then (mm_advance_L99 S) else (mm_advance_L103 S)) else (mm_advance_L99 S))
noncomputable def mm_advance_b2 (S : md_S) (x1 : Int32) : Option ((md_S × Int32) ⊕ ((md_S))) :=
  if (S.1 4) < (S.1 2) then (if x1 = 0 then ((mm_letter_I S (S.1 4)).bind fun q21 => if q21 = 32 then (mm_advance_L69 S x1) else ((mm_letter_I S (S.1 4)).bind fun q22 => if q22 = 9 then (mm_advance_L69 S x1) else ((mm_letter_I S (S.1 4)).bind fun q23 => if q23 = 10 then (mm_advance_L69 S x1) else ((mm_letter_I S (S.1 4)).bind fun q24 => if q24 = 37 then (mm_advance_L69 S x1) else (some (.inr S)))))) else (mm_advance_L69 S x1)) else (some (.inr S))
noncomputable def mm_advance_s2 (q : md_S × Int32) : Option ((md_S × Int32) ⊕ ((md_S))) :=
  mm_advance_b2 q.1 q.2
noncomputable def mm_advance_L2 (S : md_S) (x1 : Int32) : Option (md_S) :=
  (dc_it (mm_advance_s2) (S, x1)).bind (fun (z : md_S) => mm_advance_L145 z)
noncomputable def mm_advance (S : md_S) : Option (md_S) :=
  mm_advance_L2 S 0
set_option maxHeartbeats 4000000 in
set_option maxRecDepth 100000 in
/-- advance()V -/
theorem mm_advance_ok (l : Launch) (D : va_G) (ad : Nat → Nat) (de : Nat) (o : Nat) (a : Nat → Nat) (ca : Nat → ClassId) (S : md_S) (F : md_S → Prop) (h : dc_wp (mm_advance S) F) : dc_Cv l ⟨"SignalEngineModel", "advance", "()V"⟩ prog_15_method_10_code 3 none 2 40 D (md_T ca) ad de [.ref o] (md_W o a ca S) (fun w => ∃ q, F q ∧ w = md_W o a ca q) 0 0 := by
  refine dc_enterv (by decide +kernel) (Nat.le_of_ble_eq_true rfl) ?_
  intro X hC hR
  have lab_371 : ∀ (S : md_S) (y0 : Int64), dc_wp (mm_advance_L371 S y0) F → dc_G X l { frames := 2, cells := 0, slots := 0, locals := 40 } D 3 0 0 (md_W o a ca S) 371 [(0, .ref o)] [.long y0, .ref o] := by
    intro S y0 h
    delta mm_advance_L371 at h
    refine md_p9 (pc := 371) hC (show decode prog_15_method_10_code 371 = .ok (.putfield 243, 3) by decide +kernel) ?_
    refine dc_letS h ?_
    intro S1 h
    exact dc_vret (pc := 374) hC hR ⟨_, dc_some h, rfl⟩ (show decode prog_15_method_10_code 374 = .ok (.return_, 1) by decide +kernel)
  have lab_345 : ∀ (S : md_S) (x2 : Int32) (y0 : Int32) (y1 : Int32), dc_wp (mm_advance_L345 S x2 y0 y1) F → dc_G X l { frames := 2, cells := 0, slots := 0, locals := 40 } D 3 0 0 (md_W o a ca S) 345 [(0, .ref o), (2, .int x2)] [.int y0, .int y1, .ref o] := by
    intro S x2 y0 y1 h
    delta mm_advance_L345 at h
    refine dc_iadd (pc := 345) hC (show decode prog_15_method_10_code 345 = .ok (.iadd, 1) by decide +kernel) ?_
    refine md_p4 (pc := 346) hC (show decode prog_15_method_10_code 346 = .ok (.putfield 224, 3) by decide +kernel) ?_
    refine dc_letS h ?_
    intro S2 h
    refine dc_aloadn (pc := 349) (j := 0) (i := 0) hC 0 rfl rfl (show decode prog_15_method_10_code 349 = .ok (.aload_n 0, 1) by decide +kernel) ?_
    refine dc_aloadn (pc := 350) (j := 0) (i := 0) hC 0 rfl rfl (show decode prog_15_method_10_code 350 = .ok (.aload_n 0, 1) by decide +kernel) ?_
    refine md_g4 (pc := 351) hC (show decode prog_15_method_10_code 351 = .ok (.getfield 224, 3) by decide +kernel) ?_
    refine dc_aloadn (pc := 354) (j := 0) (i := 0) hC 0 rfl rfl (show decode prog_15_method_10_code 354 = .ok (.aload_n 0, 1) by decide +kernel) ?_
    refine md_g7 (pc := 355) hC (show decode prog_15_method_10_code 355 = .ok (.getfield 234, 3) by decide +kernel) ?_
    refine dc_isub (pc := 358) hC (show decode prog_15_method_10_code 358 = .ok (.isub, 1) by decide +kernel) ?_
    refine dc_iconst (pc := 359) (v := 2) hC (show decode prog_15_method_10_code 359 = .ok (.iconst 2, 1) by decide +kernel) (by decide +kernel) ?_
    refine dc_icmp_ne (pc := 360) (tgt := 369) hC (show decode prog_15_method_10_code 360 = .ok (.if_icmp .ne 9, 3) by decide +kernel) (by decide +kernel) h ?_ ?_
    · intro h
      refine dc_ldc2 (pc := 363) (v := 256) hC w_1928 (show decode prog_15_method_10_code 363 = .ok (.ldc2_w 252, 3) by decide +kernel) ?_
      refine dc_goto (pc := 366) (tgt := 371) hC (show decode prog_15_method_10_code 366 = .ok (.goto 5, 3) by decide +kernel) (by decide +kernel) ?_
      exact dc_sub [0] rfl (lab_371 S2 256 h)
    · intro h
      refine dc_iloadn (pc := 369) (j := 2) (i := 2) hC 1 rfl rfl (show decode prog_15_method_10_code 369 = .ok (.iload_n 2, 1) by decide +kernel) ?_
      refine dc_i2l (pc := 370) hC (show decode prog_15_method_10_code 370 = .ok (.i2l, 1) by decide +kernel) ?_
      exact dc_sub [0] rfl (lab_371 S2 (Int32.toInt64 x2) h)
  have lab_344 : ∀ (S : md_S) (x2 : Int32) (y0 : Int32), dc_wp (mm_advance_L344 S x2 y0) F → dc_G X l { frames := 2, cells := 0, slots := 0, locals := 40 } D 3 0 0 (md_W o a ca S) 344 [(0, .ref o), (2, .int x2)] [.int y0, .ref o] := by
    intro S x2 y0 h
    delta mm_advance_L344 at h
    refine dc_iconst (pc := 344) (v := 1) hC (show decode prog_15_method_10_code 344 = .ok (.iconst 1, 1) by decide +kernel) (by decide +kernel) ?_
    exact lab_345 S x2 1 y0 h
  have lab_310 : ∀ (S : md_S) (y0 : Int32), dc_wp (mm_advance_L310 S y0) F → dc_G X l { frames := 2, cells := 0, slots := 0, locals := 40 } D 3 0 0 (md_W o a ca S) 310 [(0, .ref o)] [.int y0, .ref o] := by
    intro S y0 h
    delta mm_advance_L310 at h
    refine md_p6 (pc := 310) hC (show decode prog_15_method_10_code 310 = .ok (.putfield 240, 3) by decide +kernel) ?_
    refine dc_letS h ?_
    intro S3 h
    exact dc_vret (pc := 313) hC hR ⟨_, dc_some h, rfl⟩ (show decode prog_15_method_10_code 313 = .ok (.return_, 1) by decide +kernel)
  have lab_290 : ∀ (S : md_S), dc_wp (mm_advance_L290 S) F → dc_G X l { frames := 2, cells := 0, slots := 0, locals := 40 } D 3 0 0 (md_W o a ca S) 290 [(0, .ref o)] [] := by
    intro S  h
    delta mm_advance_L290 at h
    refine dc_aloadn (pc := 290) (j := 0) (i := 0) hC 0 rfl rfl (show decode prog_15_method_10_code 290 = .ok (.aload_n 0, 1) by decide +kernel) ?_
    refine dc_aloadn (pc := 291) (j := 0) (i := 0) hC 0 rfl rfl (show decode prog_15_method_10_code 291 = .ok (.aload_n 0, 1) by decide +kernel) ?_
    refine md_g4 (pc := 292) hC (show decode prog_15_method_10_code 292 = .ok (.getfield 224, 3) by decide +kernel) ?_
    refine dc_aloadn (pc := 295) (j := 0) (i := 0) hC 0 rfl rfl (show decode prog_15_method_10_code 295 = .ok (.aload_n 0, 1) by decide +kernel) ?_
    refine md_g7 (pc := 296) hC (show decode prog_15_method_10_code 296 = .ok (.getfield 234, 3) by decide +kernel) ?_
    refine dc_isub (pc := 299) hC (show decode prog_15_method_10_code 299 = .ok (.isub, 1) by decide +kernel) ?_
    refine dc_bipush (pc := 300) (v := 31) hC (show decode prog_15_method_10_code 300 = .ok (.bipush 31, 2) by decide +kernel) (by decide +kernel) ?_
    refine dc_icmp_le (pc := 302) (tgt := 309) hC (show decode prog_15_method_10_code 302 = .ok (.if_icmp .le 7, 3) by decide +kernel) (by decide +kernel) h ?_ ?_
    · intro h
      refine dc_iconst (pc := 305) (v := 3) hC (show decode prog_15_method_10_code 305 = .ok (.iconst 3, 1) by decide +kernel) (by decide +kernel) ?_
      refine dc_goto (pc := 306) (tgt := 310) hC (show decode prog_15_method_10_code 306 = .ok (.goto 4, 3) by decide +kernel) (by decide +kernel) ?_
      exact lab_310 S 3 h
    · intro h
      refine dc_iconst (pc := 309) (v := 1) hC (show decode prog_15_method_10_code 309 = .ok (.iconst 1, 1) by decide +kernel) (by decide +kernel) ?_
      exact lab_310 S 1 h
  have loop_222 : ∀ (q : md_S), dc_wp (dc_it (mm_advance_s222) q) (fun z => dc_wp ((fun (z : md_S) => mm_advance_L290 z) z) F) → dc_G X l { frames := 2, cells := 0, slots := 0, locals := 40 } D 3 0 0 (md_W o a ca q) 222 [(0, .ref o)] [] := by
    refine dc_loopF ?_
    intro F_222 hl_222 hr_222
    have lab_274 : ∀ (S : md_S) (y0 : Int64), dc_wp (mm_advance_L274 S y0) F_222 → dc_G X l { frames := 2, cells := 0, slots := 0, locals := 40 } D 3 0 0 (md_W o a ca S) 274 [(0, .ref o)] [.long y0, .ref o] := by
      intro S y0 h
      delta mm_advance_L274 at h
      refine md_p9 (pc := 274) hC (show decode prog_15_method_10_code 274 = .ok (.putfield 243, 3) by decide +kernel) ?_
      refine dc_letS h ?_
      intro S4 h
      refine dc_aloadn (pc := 277) (j := 0) (i := 0) hC 0 rfl rfl (show decode prog_15_method_10_code 277 = .ok (.aload_n 0, 1) by decide +kernel) ?_
      refine dc_dup (pc := 278) hC (show decode prog_15_method_10_code 278 = .ok (.dup, 1) by decide +kernel) rfl ?_
      refine md_g4 (pc := 279) hC (show decode prog_15_method_10_code 279 = .ok (.getfield 224, 3) by decide +kernel) ?_
      refine dc_iconst (pc := 282) (v := 1) hC (show decode prog_15_method_10_code 282 = .ok (.iconst 1, 1) by decide +kernel) (by decide +kernel) ?_
      refine dc_iadd (pc := 283) hC (show decode prog_15_method_10_code 283 = .ok (.iadd, 1) by decide +kernel) ?_
      refine md_p4 (pc := 284) hC (show decode prog_15_method_10_code 284 = .ok (.putfield 224, 3) by decide +kernel) ?_
      refine dc_letS h ?_
      intro S5 h
      refine dc_goto (pc := 287) (tgt := 222) hC (show decode prog_15_method_10_code 287 = .ok (.goto (-65), 3) by decide +kernel) (by decide +kernel) ?_
      exact hl_222 S5 (dc_some h)
    rintro S h
    have h : dc_wp (mm_advance_b222 S) F_222 := h
    delta mm_advance_b222 at h
    refine dc_aloadn (pc := 222) (j := 0) (i := 0) hC 0 rfl rfl (show decode prog_15_method_10_code 222 = .ok (.aload_n 0, 1) by decide +kernel) ?_
    refine dc_aloadn (pc := 223) (j := 0) (i := 0) hC 0 rfl rfl (show decode prog_15_method_10_code 223 = .ok (.aload_n 0, 1) by decide +kernel) ?_
    refine md_g4 (pc := 224) hC (show decode prog_15_method_10_code 224 = .ok (.getfield 224, 3) by decide +kernel) ?_
    refine mc_Vpi (pc := 227) (As := [.int (S.1 4)]) (rest := []) hC vw_letter_I_227 (mm_letter_I_ok l D ad de o a ca S (S.1 4)) (Nat.le_of_ble_eq_true rfl) (Nat.le_of_ble_eq_true rfl) rfl (Nat.le_of_ble_eq_true rfl) (show decode prog_15_method_10_code 227 = .ok (.invokevirtual 227, 3) by decide +kernel) h ?_
    intro q6 h
    refine mc_Spi (pc := 230) (As := [.int q6]) (rest := []) hC vs_isPlain_247 (mm_isPlain_ok l D ad de (md_W o a ca S) (md_T ca) q6) (Nat.le_of_ble_eq_true rfl) (Nat.le_of_ble_eq_true rfl) rfl (Nat.le_of_ble_eq_true rfl) (show decode prog_15_method_10_code 230 = .ok (.invokestatic 247, 3) by decide +kernel) h ?_
    intro q7 h
    refine dc_if_eq (pc := 233) (tgt := 290) hC (show decode prog_15_method_10_code 233 = .ok (.ifCond .eq 57, 3) by decide +kernel) (by decide +kernel) h ?_ ?_
    · intro h
      have h : dc_wp (mm_advance_L290 S) F := hr_222 S (dc_some h)
      exact lab_290 S h
    · intro h
      refine dc_aloadn (pc := 236) (j := 0) (i := 0) hC 0 rfl rfl (show decode prog_15_method_10_code 236 = .ok (.aload_n 0, 1) by decide +kernel) ?_
      refine dc_aloadn (pc := 237) (j := 0) (i := 0) hC 0 rfl rfl (show decode prog_15_method_10_code 237 = .ok (.aload_n 0, 1) by decide +kernel) ?_
      refine md_g4 (pc := 238) hC (show decode prog_15_method_10_code 238 = .ok (.getfield 224, 3) by decide +kernel) ?_
      refine dc_aloadn (pc := 241) (j := 0) (i := 0) hC 0 rfl rfl (show decode prog_15_method_10_code 241 = .ok (.aload_n 0, 1) by decide +kernel) ?_
      refine md_g7 (pc := 242) hC (show decode prog_15_method_10_code 242 = .ok (.getfield 234, 3) by decide +kernel) ?_
      refine dc_isub (pc := 245) hC (show decode prog_15_method_10_code 245 = .ok (.isub, 1) by decide +kernel) ?_
      refine dc_bipush (pc := 246) (v := 8) hC (show decode prog_15_method_10_code 246 = .ok (.bipush 8, 2) by decide +kernel) (by decide +kernel) ?_
      refine dc_icmp_ge (pc := 248) (tgt := 271) hC (show decode prog_15_method_10_code 248 = .ok (.if_icmp .ge 23, 3) by decide +kernel) (by decide +kernel) h ?_ ?_
      · intro h
        refine dc_aloadn (pc := 251) (j := 0) (i := 0) hC 0 rfl rfl (show decode prog_15_method_10_code 251 = .ok (.aload_n 0, 1) by decide +kernel) ?_
        refine md_g9 (pc := 252) hC (show decode prog_15_method_10_code 252 = .ok (.getfield 243, 3) by decide +kernel) ?_
        refine dc_bipush (pc := 255) (v := 8) hC (show decode prog_15_method_10_code 255 = .ok (.bipush 8, 2) by decide +kernel) (by decide +kernel) ?_
        refine dc_lshl (pc := 257) hC (show decode prog_15_method_10_code 257 = .ok (.lshl, 1) by decide +kernel) ?_
        refine dc_aloadn (pc := 258) (j := 0) (i := 0) hC 0 rfl rfl (show decode prog_15_method_10_code 258 = .ok (.aload_n 0, 1) by decide +kernel) ?_
        refine dc_aloadn (pc := 259) (j := 0) (i := 0) hC 0 rfl rfl (show decode prog_15_method_10_code 259 = .ok (.aload_n 0, 1) by decide +kernel) ?_
        refine md_g4 (pc := 260) hC (show decode prog_15_method_10_code 260 = .ok (.getfield 224, 3) by decide +kernel) ?_
        refine mc_Vpi (pc := 263) (As := [.int (S.1 4)]) (rest := [.long (S.2.2.1 <<< (Int32.toInt64 8 &&& 63)), .ref o]) hC vw_letter_I_227 (mm_letter_I_ok l D ad de o a ca S (S.1 4)) (Nat.le_of_ble_eq_true rfl) (Nat.le_of_ble_eq_true rfl) rfl (Nat.le_of_ble_eq_true rfl) (show decode prog_15_method_10_code 263 = .ok (.invokevirtual 227, 3) by decide +kernel) h ?_
        intro q8 h
        refine dc_i2l (pc := 266) hC (show decode prog_15_method_10_code 266 = .ok (.i2l, 1) by decide +kernel) ?_
        refine dc_lor (pc := 267) hC (show decode prog_15_method_10_code 267 = .ok (.lor, 1) by decide +kernel) ?_
        refine dc_goto (pc := 268) (tgt := 274) hC (show decode prog_15_method_10_code 268 = .ok (.goto 6, 3) by decide +kernel) (by decide +kernel) ?_
        exact lab_274 S ((S.2.2.1 <<< (Int32.toInt64 8 &&& 63)) ||| (Int32.toInt64 q8)) h
      · intro h
        refine dc_ldc2 (pc := 271) (v := (-1)) hC w_1927 (show decode prog_15_method_10_code 271 = .ok (.ldc2_w 250, 3) by decide +kernel) ?_
        exact lab_274 S (-1) h
  have lab_222 : ∀ (S : md_S), dc_wp (mm_advance_L222 S) F → dc_G X l { frames := 2, cells := 0, slots := 0, locals := 40 } D 3 0 0 (md_W o a ca S) 222 [(0, .ref o)] [] := fun S  h => loop_222  S (dc_bind h)
  have lab_198 : ∀ (S : md_S) (x2 : Int32) (y0 : Int32), dc_wp (mm_advance_L198 S x2 y0) F → dc_G X l { frames := 2, cells := 0, slots := 0, locals := 40 } D 3 0 0 (md_W o a ca S) 198 [(0, .ref o), (2, .int x2)] [.int y0, .ref o] := by
    intro S x2 y0 h
    delta mm_advance_L198 at h
    refine md_p6 (pc := 198) hC (show decode prog_15_method_10_code 198 = .ok (.putfield 240, 3) by decide +kernel) ?_
    refine dc_letS h ?_
    intro S9 h
    refine dc_aloadn (pc := 201) (j := 0) (i := 0) hC 0 rfl rfl (show decode prog_15_method_10_code 201 = .ok (.aload_n 0, 1) by decide +kernel) ?_
    refine dc_lconst (pc := 202) (v := 0) hC (show decode prog_15_method_10_code 202 = .ok (.lconst 0, 1) by decide +kernel) (by decide +kernel) ?_
    refine md_p9 (pc := 203) hC (show decode prog_15_method_10_code 203 = .ok (.putfield 243, 3) by decide +kernel) ?_
    refine dc_letS h ?_
    intro S10 h
    refine dc_aloadn (pc := 206) (j := 0) (i := 0) hC 0 rfl rfl (show decode prog_15_method_10_code 206 = .ok (.aload_n 0, 1) by decide +kernel) ?_
    refine md_g6 (pc := 207) hC (show decode prog_15_method_10_code 207 = .ok (.getfield 240, 3) by decide +kernel) ?_
    refine dc_if_ne (pc := 210) (tgt := 214) hC (show decode prog_15_method_10_code 210 = .ok (.ifCond .ne 4, 3) by decide +kernel) (by decide +kernel) h ?_ ?_
    · intro h
      exact dc_vret (pc := 213) hC hR ⟨_, dc_some h, rfl⟩ (show decode prog_15_method_10_code 213 = .ok (.return_, 1) by decide +kernel)
    · intro h
      refine dc_aloadn (pc := 214) (j := 0) (i := 0) hC 0 rfl rfl (show decode prog_15_method_10_code 214 = .ok (.aload_n 0, 1) by decide +kernel) ?_
      refine md_g6 (pc := 215) hC (show decode prog_15_method_10_code 215 = .ok (.getfield 240, 3) by decide +kernel) ?_
      refine dc_iconst (pc := 218) (v := 1) hC (show decode prog_15_method_10_code 218 = .ok (.iconst 1, 1) by decide +kernel) (by decide +kernel) ?_
      refine dc_icmp_ne (pc := 219) (tgt := 314) hC (show decode prog_15_method_10_code 219 = .ok (.if_icmp .ne 95, 3) by decide +kernel) (by decide +kernel) h ?_ ?_
      · intro h
        exact dc_sub [0] rfl (lab_222 S10 h)
      · intro h
        refine dc_aloadn (pc := 314) (j := 0) (i := 0) hC 0 rfl rfl (show decode prog_15_method_10_code 314 = .ok (.aload_n 0, 1) by decide +kernel) ?_
        refine dc_dup (pc := 315) hC (show decode prog_15_method_10_code 315 = .ok (.dup, 1) by decide +kernel) rfl ?_
        refine md_g4 (pc := 316) hC (show decode prog_15_method_10_code 316 = .ok (.getfield 224, 3) by decide +kernel) ?_
        refine dc_iloadn (pc := 319) (j := 2) (i := 2) hC 1 rfl rfl (show decode prog_15_method_10_code 319 = .ok (.iload_n 2, 1) by decide +kernel) ?_
        refine dc_bipush (pc := 320) (v := 124) hC (show decode prog_15_method_10_code 320 = .ok (.bipush 124, 2) by decide +kernel) (by decide +kernel) ?_
        refine dc_icmp_ne (pc := 322) (tgt := 344) hC (show decode prog_15_method_10_code 322 = .ok (.if_icmp .ne 22, 3) by decide +kernel) (by decide +kernel) h ?_ ?_
        · intro h
          refine dc_aloadn (pc := 325) (j := 0) (i := 0) hC 0 rfl rfl (show decode prog_15_method_10_code 325 = .ok (.aload_n 0, 1) by decide +kernel) ?_
          refine dc_aloadn (pc := 326) (j := 0) (i := 0) hC 0 rfl rfl (show decode prog_15_method_10_code 326 = .ok (.aload_n 0, 1) by decide +kernel) ?_
          refine md_g4 (pc := 327) hC (show decode prog_15_method_10_code 327 = .ok (.getfield 224, 3) by decide +kernel) ?_
          refine dc_iconst (pc := 330) (v := 1) hC (show decode prog_15_method_10_code 330 = .ok (.iconst 1, 1) by decide +kernel) (by decide +kernel) ?_
          refine dc_iadd (pc := 331) hC (show decode prog_15_method_10_code 331 = .ok (.iadd, 1) by decide +kernel) ?_
          refine mc_Vpi (pc := 332) (As := [.int ((S10.1 4) + 1)]) (rest := [.int (S10.1 4), .ref o]) hC vw_letter_I_227 (mm_letter_I_ok l D ad de o a ca S10 ((S10.1 4) + 1)) (Nat.le_of_ble_eq_true rfl) (Nat.le_of_ble_eq_true rfl) rfl (Nat.le_of_ble_eq_true rfl) (show decode prog_15_method_10_code 332 = .ok (.invokevirtual 227, 3) by decide +kernel) h ?_
          intro q11 h
          refine dc_bipush (pc := 335) (v := 124) hC (show decode prog_15_method_10_code 335 = .ok (.bipush 124, 2) by decide +kernel) (by decide +kernel) ?_
          refine dc_icmp_ne (pc := 337) (tgt := 344) hC (show decode prog_15_method_10_code 337 = .ok (.if_icmp .ne 7, 3) by decide +kernel) (by decide +kernel) h ?_ ?_
          · intro h
            refine dc_iconst (pc := 340) (v := 2) hC (show decode prog_15_method_10_code 340 = .ok (.iconst 2, 1) by decide +kernel) (by decide +kernel) ?_
            refine dc_goto (pc := 341) (tgt := 345) hC (show decode prog_15_method_10_code 341 = .ok (.goto 4, 3) by decide +kernel) (by decide +kernel) ?_
            exact lab_345 S10 x2 2 (S10.1 4) h
          · intro h
            exact lab_344 S10 x2 (S10.1 4) h
        · intro h
          exact lab_344 S10 x2 (S10.1 4) h
  have lab_145 : ∀ (S : md_S), dc_wp (mm_advance_L145 S) F → dc_G X l { frames := 2, cells := 0, slots := 0, locals := 40 } D 3 0 0 (md_W o a ca S) 145 [(0, .ref o)] [] := by
    intro S  h
    delta mm_advance_L145 at h
    refine dc_aloadn (pc := 145) (j := 0) (i := 0) hC 0 rfl rfl (show decode prog_15_method_10_code 145 = .ok (.aload_n 0, 1) by decide +kernel) ?_
    refine dc_aloadn (pc := 146) (j := 0) (i := 0) hC 0 rfl rfl (show decode prog_15_method_10_code 146 = .ok (.aload_n 0, 1) by decide +kernel) ?_
    refine md_g4 (pc := 147) hC (show decode prog_15_method_10_code 147 = .ok (.getfield 224, 3) by decide +kernel) ?_
    refine md_p7 (pc := 150) hC (show decode prog_15_method_10_code 150 = .ok (.putfield 234, 3) by decide +kernel) ?_
    refine dc_letS h ?_
    intro S12 h
    refine dc_aloadn (pc := 153) (j := 0) (i := 0) hC 0 rfl rfl (show decode prog_15_method_10_code 153 = .ok (.aload_n 0, 1) by decide +kernel) ?_
    refine dc_aloadn (pc := 154) (j := 0) (i := 0) hC 0 rfl rfl (show decode prog_15_method_10_code 154 = .ok (.aload_n 0, 1) by decide +kernel) ?_
    refine md_g5 (pc := 155) hC (show decode prog_15_method_10_code 155 = .ok (.getfield 231, 3) by decide +kernel) ?_
    refine md_p8 (pc := 158) hC (show decode prog_15_method_10_code 158 = .ok (.putfield 237, 3) by decide +kernel) ?_
    refine dc_letS h ?_
    intro S13 h
    refine dc_aloadn (pc := 161) (j := 0) (i := 0) hC 0 rfl rfl (show decode prog_15_method_10_code 161 = .ok (.aload_n 0, 1) by decide +kernel) ?_
    refine dc_aloadn (pc := 162) (j := 0) (i := 0) hC 0 rfl rfl (show decode prog_15_method_10_code 162 = .ok (.aload_n 0, 1) by decide +kernel) ?_
    refine md_g4 (pc := 163) hC (show decode prog_15_method_10_code 163 = .ok (.getfield 224, 3) by decide +kernel) ?_
    refine mc_Vpi (pc := 166) (As := [.int (S13.1 4)]) (rest := []) hC vw_letter_I_227 (mm_letter_I_ok l D ad de o a ca S13 (S13.1 4)) (Nat.le_of_ble_eq_true rfl) (Nat.le_of_ble_eq_true rfl) rfl (Nat.le_of_ble_eq_true rfl) (show decode prog_15_method_10_code 166 = .ok (.invokevirtual 227, 3) by decide +kernel) h ?_
    intro q14 h
    refine dc_istoren (pc := 169) (j := 2) (i := 2) (lv' := [(2, .int q14), (0, .ref o)]) hC rfl (Nat.le_of_ble_eq_true rfl) rfl (show decode prog_15_method_10_code 169 = .ok (.istore_n 2, 1) by decide +kernel) ?_
    refine dc_aloadn (pc := 170) (j := 0) (i := 0) hC 1 rfl rfl (show decode prog_15_method_10_code 170 = .ok (.aload_n 0, 1) by decide +kernel) ?_
    refine dc_aloadn (pc := 171) (j := 0) (i := 0) hC 1 rfl rfl (show decode prog_15_method_10_code 171 = .ok (.aload_n 0, 1) by decide +kernel) ?_
    refine md_g4 (pc := 172) hC (show decode prog_15_method_10_code 172 = .ok (.getfield 224, 3) by decide +kernel) ?_
    refine dc_aloadn (pc := 175) (j := 0) (i := 0) hC 1 rfl rfl (show decode prog_15_method_10_code 175 = .ok (.aload_n 0, 1) by decide +kernel) ?_
    refine md_g2 (pc := 176) hC (show decode prog_15_method_10_code 176 = .ok (.getfield 210, 3) by decide +kernel) ?_
    refine dc_icmp_ne (pc := 179) (tgt := 186) hC (show decode prog_15_method_10_code 179 = .ok (.if_icmp .ne 7, 3) by decide +kernel) (by decide +kernel) h ?_ ?_
    · intro h
      refine dc_iconst (pc := 182) (v := 0) hC (show decode prog_15_method_10_code 182 = .ok (.iconst 0, 1) by decide +kernel) (by decide +kernel) ?_
      refine dc_goto (pc := 183) (tgt := 198) hC (show decode prog_15_method_10_code 183 = .ok (.goto 15, 3) by decide +kernel) (by decide +kernel) ?_
      exact dc_sub [1, 0] rfl (lab_198 S13 q14 0 h)
    · intro h
      refine dc_iloadn (pc := 186) (j := 2) (i := 2) hC 0 rfl rfl (show decode prog_15_method_10_code 186 = .ok (.iload_n 2, 1) by decide +kernel) ?_
      refine mc_Spi (pc := 187) (As := [.int q14]) (rest := [.ref o]) hC vs_isLetter_217 (mm_isLetter_ok l D ad de (md_W o a ca S13) (md_T ca) q14) (Nat.le_of_ble_eq_true rfl) (Nat.le_of_ble_eq_true rfl) rfl (Nat.le_of_ble_eq_true rfl) (show decode prog_15_method_10_code 187 = .ok (.invokestatic 217, 3) by decide +kernel) h ?_
      intro q15 h
      refine dc_if_eq (pc := 190) (tgt := 197) hC (show decode prog_15_method_10_code 190 = .ok (.ifCond .eq 7, 3) by decide +kernel) (by decide +kernel) h ?_ ?_
      · intro h
        refine dc_iconst (pc := 197) (v := 2) hC (show decode prog_15_method_10_code 197 = .ok (.iconst 2, 1) by decide +kernel) (by decide +kernel) ?_
        exact dc_sub [1, 0] rfl (lab_198 S13 q14 2 h)
      · intro h
        refine dc_iconst (pc := 193) (v := 1) hC (show decode prog_15_method_10_code 193 = .ok (.iconst 1, 1) by decide +kernel) (by decide +kernel) ?_
        refine dc_goto (pc := 194) (tgt := 198) hC (show decode prog_15_method_10_code 194 = .ok (.goto 4, 3) by decide +kernel) (by decide +kernel) ?_
        exact dc_sub [1, 0] rfl (lab_198 S13 q14 1 h)
  have loop_2 : ∀ (q : md_S × Int32), dc_wp (dc_it (mm_advance_s2) q) (fun z => dc_wp ((fun (z : md_S) => mm_advance_L145 z) z) F) → dc_G X l { frames := 2, cells := 0, slots := 0, locals := 40 } D 3 0 0 (md_W o a ca q.1) 2 [(0, .ref o), (1, .int q.2)] [] := by
    refine dc_loopF ?_
    intro F_2 hl_2 hr_2
    have lab_128 : ∀ (S : md_S) (x1 : Int32) (y0 : Int32) (y1 : Int32), dc_wp (mm_advance_L128 S x1 y0 y1) F_2 → dc_G X l { frames := 2, cells := 0, slots := 0, locals := 40 } D 3 0 0 (md_W o a ca S) 128 [(0, .ref o), (1, .int x1)] [.int y0, .int y1, .ref o] := by
      intro S x1 y0 y1 h
      delta mm_advance_L128 at h
      refine dc_iadd (pc := 128) hC (show decode prog_15_method_10_code 128 = .ok (.iadd, 1) by decide +kernel) ?_
      refine md_p5 (pc := 129) hC (show decode prog_15_method_10_code 129 = .ok (.putfield 231, 3) by decide +kernel) ?_
      refine dc_letS h ?_
      intro S16 h
      refine dc_aloadn (pc := 132) (j := 0) (i := 0) hC 0 rfl rfl (show decode prog_15_method_10_code 132 = .ok (.aload_n 0, 1) by decide +kernel) ?_
      refine dc_dup (pc := 133) hC (show decode prog_15_method_10_code 133 = .ok (.dup, 1) by decide +kernel) rfl ?_
      refine md_g4 (pc := 134) hC (show decode prog_15_method_10_code 134 = .ok (.getfield 224, 3) by decide +kernel) ?_
      refine dc_iconst (pc := 137) (v := 1) hC (show decode prog_15_method_10_code 137 = .ok (.iconst 1, 1) by decide +kernel) (by decide +kernel) ?_
      refine dc_iadd (pc := 138) hC (show decode prog_15_method_10_code 138 = .ok (.iadd, 1) by decide +kernel) ?_
      refine md_p4 (pc := 139) hC (show decode prog_15_method_10_code 139 = .ok (.putfield 224, 3) by decide +kernel) ?_
      refine dc_letS h ?_
      intro S17 h
      refine dc_goto (pc := 142) (tgt := 2) hC (show decode prog_15_method_10_code 142 = .ok (.goto (-140), 3) by decide +kernel) (by decide +kernel) ?_
      exact hl_2 (S17, x1) (dc_some h)
    have lab_104 : ∀ (S : md_S) (y0 : Int32), dc_wp (mm_advance_L104 S y0) F_2 → dc_G X l { frames := 2, cells := 0, slots := 0, locals := 40 } D 3 0 0 (md_W o a ca S) 104 [(0, .ref o)] [.int y0] := by
      intro S y0 h
      delta mm_advance_L104 at h
      refine dc_istoren (pc := 104) (j := 1) (i := 1) (lv' := [(1, .int y0), (0, .ref o)]) hC rfl (Nat.le_of_ble_eq_true rfl) rfl (show decode prog_15_method_10_code 104 = .ok (.istore_n 1, 1) by decide +kernel) ?_
      refine dc_aloadn (pc := 105) (j := 0) (i := 0) hC 1 rfl rfl (show decode prog_15_method_10_code 105 = .ok (.aload_n 0, 1) by decide +kernel) ?_
      refine dc_dup (pc := 106) hC (show decode prog_15_method_10_code 106 = .ok (.dup, 1) by decide +kernel) rfl ?_
      refine md_g5 (pc := 107) hC (show decode prog_15_method_10_code 107 = .ok (.getfield 231, 3) by decide +kernel) ?_
      refine dc_aloadn (pc := 110) (j := 0) (i := 0) hC 1 rfl rfl (show decode prog_15_method_10_code 110 = .ok (.aload_n 0, 1) by decide +kernel) ?_
      refine dc_aloadn (pc := 111) (j := 0) (i := 0) hC 1 rfl rfl (show decode prog_15_method_10_code 111 = .ok (.aload_n 0, 1) by decide +kernel) ?_
      refine md_g4 (pc := 112) hC (show decode prog_15_method_10_code 112 = .ok (.getfield 224, 3) by decide +kernel) ?_
      refine mc_Vpi (pc := 115) (As := [.int (S.1 4)]) (rest := [.int (S.1 5), .ref o]) hC vw_letter_I_227 (mm_letter_I_ok l D ad de o a ca S (S.1 4)) (Nat.le_of_ble_eq_true rfl) (Nat.le_of_ble_eq_true rfl) rfl (Nat.le_of_ble_eq_true rfl) (show decode prog_15_method_10_code 115 = .ok (.invokevirtual 227, 3) by decide +kernel) h ?_
      intro q18 h
      refine dc_bipush (pc := 118) (v := 10) hC (show decode prog_15_method_10_code 118 = .ok (.bipush 10, 2) by decide +kernel) (by decide +kernel) ?_
      refine dc_icmp_ne (pc := 120) (tgt := 127) hC (show decode prog_15_method_10_code 120 = .ok (.if_icmp .ne 7, 3) by decide +kernel) (by decide +kernel) h ?_ ?_
      · intro h
        refine dc_iconst (pc := 123) (v := 1) hC (show decode prog_15_method_10_code 123 = .ok (.iconst 1, 1) by decide +kernel) (by decide +kernel) ?_
        refine dc_goto (pc := 124) (tgt := 128) hC (show decode prog_15_method_10_code 124 = .ok (.goto 4, 3) by decide +kernel) (by decide +kernel) ?_
        exact dc_sub [1, 0] rfl (lab_128 S y0 1 (S.1 5) h)
      · intro h
        refine dc_iconst (pc := 127) (v := 0) hC (show decode prog_15_method_10_code 127 = .ok (.iconst 0, 1) by decide +kernel) (by decide +kernel) ?_
        exact dc_sub [1, 0] rfl (lab_128 S y0 0 (S.1 5) h)
    have lab_103 : ∀ (S : md_S), dc_wp (mm_advance_L103 S) F_2 → dc_G X l { frames := 2, cells := 0, slots := 0, locals := 40 } D 3 0 0 (md_W o a ca S) 103 [(0, .ref o)] [] := by
      intro S  h
      delta mm_advance_L103 at h
      refine dc_iconst (pc := 103) (v := 0) hC (show decode prog_15_method_10_code 103 = .ok (.iconst 0, 1) by decide +kernel) (by decide +kernel) ?_
      exact lab_104 S 0 h
    have lab_99 : ∀ (S : md_S), dc_wp (mm_advance_L99 S) F_2 → dc_G X l { frames := 2, cells := 0, slots := 0, locals := 40 } D 3 0 0 (md_W o a ca S) 99 [(0, .ref o)] [] := by
      intro S  h
      delta mm_advance_L99 at h
      refine dc_iconst (pc := 99) (v := 1) hC (show decode prog_15_method_10_code 99 = .ok (.iconst 1, 1) by decide +kernel) (by decide +kernel) ?_
      refine dc_goto (pc := 100) (tgt := 104) hC (show decode prog_15_method_10_code 100 = .ok (.goto 4, 3) by decide +kernel) (by decide +kernel) ?_
      exact lab_104 S 1 h
    have lab_69 : ∀ (S : md_S) (x1 : Int32), dc_wp (mm_advance_L69 S x1) F_2 → dc_G X l { frames := 2, cells := 0, slots := 0, locals := 40 } D 3 0 0 (md_W o a ca S) 69 [(0, .ref o), (1, .int x1)] [] := by
      intro S x1 h
      delta mm_advance_L69 at h
      refine dc_aloadn (pc := 69) (j := 0) (i := 0) hC 0 rfl rfl (show decode prog_15_method_10_code 69 = .ok (.aload_n 0, 1) by decide +kernel) ?_
      refine dc_aloadn (pc := 70) (j := 0) (i := 0) hC 0 rfl rfl (show decode prog_15_method_10_code 70 = .ok (.aload_n 0, 1) by decide +kernel) ?_
      refine md_g4 (pc := 71) hC (show decode prog_15_method_10_code 71 = .ok (.getfield 224, 3) by decide +kernel) ?_
      refine mc_Vpi (pc := 74) (As := [.int (S.1 4)]) (rest := []) hC vw_letter_I_227 (mm_letter_I_ok l D ad de o a ca S (S.1 4)) (Nat.le_of_ble_eq_true rfl) (Nat.le_of_ble_eq_true rfl) rfl (Nat.le_of_ble_eq_true rfl) (show decode prog_15_method_10_code 74 = .ok (.invokevirtual 227, 3) by decide +kernel) h ?_
      intro q19 h
      refine dc_bipush (pc := 77) (v := 10) hC (show decode prog_15_method_10_code 77 = .ok (.bipush 10, 2) by decide +kernel) (by decide +kernel) ?_
      refine dc_icmp_eq (pc := 79) (tgt := 103) hC (show decode prog_15_method_10_code 79 = .ok (.if_icmp .eq 24, 3) by decide +kernel) (by decide +kernel) h ?_ ?_
      · intro h
        exact dc_sub [0] rfl (lab_103 S h)
      · intro h
        refine dc_iloadn (pc := 82) (j := 1) (i := 1) hC 1 rfl rfl (show decode prog_15_method_10_code 82 = .ok (.iload_n 1, 1) by decide +kernel) ?_
        refine dc_if_ne (pc := 83) (tgt := 99) hC (show decode prog_15_method_10_code 83 = .ok (.ifCond .ne 16, 3) by decide +kernel) (by decide +kernel) h ?_ ?_
        · intro h
          refine dc_aloadn (pc := 86) (j := 0) (i := 0) hC 0 rfl rfl (show decode prog_15_method_10_code 86 = .ok (.aload_n 0, 1) by decide +kernel) ?_
          refine dc_aloadn (pc := 87) (j := 0) (i := 0) hC 0 rfl rfl (show decode prog_15_method_10_code 87 = .ok (.aload_n 0, 1) by decide +kernel) ?_
          refine md_g4 (pc := 88) hC (show decode prog_15_method_10_code 88 = .ok (.getfield 224, 3) by decide +kernel) ?_
          refine mc_Vpi (pc := 91) (As := [.int (S.1 4)]) (rest := []) hC vw_letter_I_227 (mm_letter_I_ok l D ad de o a ca S (S.1 4)) (Nat.le_of_ble_eq_true rfl) (Nat.le_of_ble_eq_true rfl) rfl (Nat.le_of_ble_eq_true rfl) (show decode prog_15_method_10_code 91 = .ok (.invokevirtual 227, 3) by decide +kernel) h ?_
          intro q20 h
          refine dc_bipush (pc := 94) (v := 37) hC (show decode prog_15_method_10_code 94 = .ok (.bipush 37, 2) by decide +kernel) (by decide +kernel) ?_
          refine dc_icmp_ne (pc := 96) (tgt := 103) hC (show decode prog_15_method_10_code 96 = .ok (.if_icmp .ne 7, 3) by decide +kernel) (by decide +kernel) h ?_ ?_
          · intro h
            exact dc_sub [0] rfl (lab_99 S h)
          · intro h
            exact dc_sub [0] rfl (lab_103 S h)
        · intro h
          exact dc_sub [0] rfl (lab_99 S h)
    rintro ⟨S, x1⟩ h
    have h : dc_wp (mm_advance_b2 S x1) F_2 := h
    delta mm_advance_b2 at h
    refine dc_aloadn (pc := 2) (j := 0) (i := 0) hC 0 rfl rfl (show decode prog_15_method_10_code 2 = .ok (.aload_n 0, 1) by decide +kernel) ?_
    refine md_g4 (pc := 3) hC (show decode prog_15_method_10_code 3 = .ok (.getfield 224, 3) by decide +kernel) ?_
    refine dc_aloadn (pc := 6) (j := 0) (i := 0) hC 0 rfl rfl (show decode prog_15_method_10_code 6 = .ok (.aload_n 0, 1) by decide +kernel) ?_
    refine md_g2 (pc := 7) hC (show decode prog_15_method_10_code 7 = .ok (.getfield 210, 3) by decide +kernel) ?_
    refine dc_icmp_ge (pc := 10) (tgt := 145) hC (show decode prog_15_method_10_code 10 = .ok (.if_icmp .ge 135, 3) by decide +kernel) (by decide +kernel) h ?_ ?_
    · intro h
      refine dc_iloadn (pc := 13) (j := 1) (i := 1) hC 1 rfl rfl (show decode prog_15_method_10_code 13 = .ok (.iload_n 1, 1) by decide +kernel) ?_
      refine dc_if_ne (pc := 14) (tgt := 69) hC (show decode prog_15_method_10_code 14 = .ok (.ifCond .ne 55, 3) by decide +kernel) (by decide +kernel) h ?_ ?_
      · intro h
        refine dc_aloadn (pc := 17) (j := 0) (i := 0) hC 0 rfl rfl (show decode prog_15_method_10_code 17 = .ok (.aload_n 0, 1) by decide +kernel) ?_
        refine dc_aloadn (pc := 18) (j := 0) (i := 0) hC 0 rfl rfl (show decode prog_15_method_10_code 18 = .ok (.aload_n 0, 1) by decide +kernel) ?_
        refine md_g4 (pc := 19) hC (show decode prog_15_method_10_code 19 = .ok (.getfield 224, 3) by decide +kernel) ?_
        refine mc_Vpi (pc := 22) (As := [.int (S.1 4)]) (rest := []) hC vw_letter_I_227 (mm_letter_I_ok l D ad de o a ca S (S.1 4)) (Nat.le_of_ble_eq_true rfl) (Nat.le_of_ble_eq_true rfl) rfl (Nat.le_of_ble_eq_true rfl) (show decode prog_15_method_10_code 22 = .ok (.invokevirtual 227, 3) by decide +kernel) h ?_
        intro q21 h
        refine dc_bipush (pc := 25) (v := 32) hC (show decode prog_15_method_10_code 25 = .ok (.bipush 32, 2) by decide +kernel) (by decide +kernel) ?_
        refine dc_icmp_eq (pc := 27) (tgt := 69) hC (show decode prog_15_method_10_code 27 = .ok (.if_icmp .eq 42, 3) by decide +kernel) (by decide +kernel) h ?_ ?_
        · intro h
          exact lab_69 S x1 h
        · intro h
          refine dc_aloadn (pc := 30) (j := 0) (i := 0) hC 0 rfl rfl (show decode prog_15_method_10_code 30 = .ok (.aload_n 0, 1) by decide +kernel) ?_
          refine dc_aloadn (pc := 31) (j := 0) (i := 0) hC 0 rfl rfl (show decode prog_15_method_10_code 31 = .ok (.aload_n 0, 1) by decide +kernel) ?_
          refine md_g4 (pc := 32) hC (show decode prog_15_method_10_code 32 = .ok (.getfield 224, 3) by decide +kernel) ?_
          refine mc_Vpi (pc := 35) (As := [.int (S.1 4)]) (rest := []) hC vw_letter_I_227 (mm_letter_I_ok l D ad de o a ca S (S.1 4)) (Nat.le_of_ble_eq_true rfl) (Nat.le_of_ble_eq_true rfl) rfl (Nat.le_of_ble_eq_true rfl) (show decode prog_15_method_10_code 35 = .ok (.invokevirtual 227, 3) by decide +kernel) h ?_
          intro q22 h
          refine dc_bipush (pc := 38) (v := 9) hC (show decode prog_15_method_10_code 38 = .ok (.bipush 9, 2) by decide +kernel) (by decide +kernel) ?_
          refine dc_icmp_eq (pc := 40) (tgt := 69) hC (show decode prog_15_method_10_code 40 = .ok (.if_icmp .eq 29, 3) by decide +kernel) (by decide +kernel) h ?_ ?_
          · intro h
            exact lab_69 S x1 h
          · intro h
            refine dc_aloadn (pc := 43) (j := 0) (i := 0) hC 0 rfl rfl (show decode prog_15_method_10_code 43 = .ok (.aload_n 0, 1) by decide +kernel) ?_
            refine dc_aloadn (pc := 44) (j := 0) (i := 0) hC 0 rfl rfl (show decode prog_15_method_10_code 44 = .ok (.aload_n 0, 1) by decide +kernel) ?_
            refine md_g4 (pc := 45) hC (show decode prog_15_method_10_code 45 = .ok (.getfield 224, 3) by decide +kernel) ?_
            refine mc_Vpi (pc := 48) (As := [.int (S.1 4)]) (rest := []) hC vw_letter_I_227 (mm_letter_I_ok l D ad de o a ca S (S.1 4)) (Nat.le_of_ble_eq_true rfl) (Nat.le_of_ble_eq_true rfl) rfl (Nat.le_of_ble_eq_true rfl) (show decode prog_15_method_10_code 48 = .ok (.invokevirtual 227, 3) by decide +kernel) h ?_
            intro q23 h
            refine dc_bipush (pc := 51) (v := 10) hC (show decode prog_15_method_10_code 51 = .ok (.bipush 10, 2) by decide +kernel) (by decide +kernel) ?_
            refine dc_icmp_eq (pc := 53) (tgt := 69) hC (show decode prog_15_method_10_code 53 = .ok (.if_icmp .eq 16, 3) by decide +kernel) (by decide +kernel) h ?_ ?_
            · intro h
              exact lab_69 S x1 h
            · intro h
              refine dc_aloadn (pc := 56) (j := 0) (i := 0) hC 0 rfl rfl (show decode prog_15_method_10_code 56 = .ok (.aload_n 0, 1) by decide +kernel) ?_
              refine dc_aloadn (pc := 57) (j := 0) (i := 0) hC 0 rfl rfl (show decode prog_15_method_10_code 57 = .ok (.aload_n 0, 1) by decide +kernel) ?_
              refine md_g4 (pc := 58) hC (show decode prog_15_method_10_code 58 = .ok (.getfield 224, 3) by decide +kernel) ?_
              refine mc_Vpi (pc := 61) (As := [.int (S.1 4)]) (rest := []) hC vw_letter_I_227 (mm_letter_I_ok l D ad de o a ca S (S.1 4)) (Nat.le_of_ble_eq_true rfl) (Nat.le_of_ble_eq_true rfl) rfl (Nat.le_of_ble_eq_true rfl) (show decode prog_15_method_10_code 61 = .ok (.invokevirtual 227, 3) by decide +kernel) h ?_
              intro q24 h
              refine dc_bipush (pc := 64) (v := 37) hC (show decode prog_15_method_10_code 64 = .ok (.bipush 37, 2) by decide +kernel) (by decide +kernel) ?_
              refine dc_icmp_ne (pc := 66) (tgt := 145) hC (show decode prog_15_method_10_code 66 = .ok (.if_icmp .ne 79, 3) by decide +kernel) (by decide +kernel) h ?_ ?_
              · intro h
                exact lab_69 S x1 h
              · intro h
                have h : dc_wp (mm_advance_L145 S) F := hr_2 S (dc_some h)
                exact dc_sub [0] rfl (lab_145 S h)
      · intro h
        exact lab_69 S x1 h
    · intro h
      have h : dc_wp (mm_advance_L145 S) F := hr_2 S (dc_some h)
      exact dc_sub [0] rfl (lab_145 S h)
  have lab_2 : ∀ (S : md_S) (x1 : Int32), dc_wp (mm_advance_L2 S x1) F → dc_G X l { frames := 2, cells := 0, slots := 0, locals := 40 } D 3 0 0 (md_W o a ca S) 2 [(0, .ref o), (1, .int x1)] [] := fun S x1 h => loop_2  (S, x1) (dc_bind h)
  show dc_G X l { frames := 2, cells := 0, slots := 0, locals := 40 } D 3 0 0 (md_W o a ca S) 0 [(0, .ref o)] []
  delta mm_advance at h
  refine dc_iconst (pc := 0) (v := 0) hC (show decode prog_15_method_10_code 0 = .ok (.iconst 0, 1) by decide +kernel) (by decide +kernel) ?_
  refine dc_istoren (pc := 1) (j := 1) (i := 1) (lv' := [(1, .int 0), (0, .ref o)]) hC rfl (Nat.le_of_ble_eq_true rfl) rfl (show decode prog_15_method_10_code 1 = .ok (.istore_n 1, 1) by decide +kernel) ?_
  exact dc_sub [1, 0] rfl (lab_2 S 0 h)
noncomputable def mm_isWord_L22 (S : md_S) (y0 : Int32) : Option (Int32) :=
  (dc_zb y0).bind fun _ => some y0
noncomputable def mm_isWord_L21 (S : md_S) : Option (Int32) :=
  mm_isWord_L22 S 0
noncomputable def mm_isWord (S : md_S) (p1 : Int64) : Option (Int32) :=
  if (S.1 6) = 1 then (if (dc_cmp S.2.2.1 p1) = 0 then (mm_isWord_L22 S 1) else (mm_isWord_L21 S)) else (mm_isWord_L21 S)
set_option maxHeartbeats 4000000 in
set_option maxRecDepth 100000 in
/-- isWord(J)Z -/
theorem mm_isWord_ok (l : Launch) (D : va_G) (ad : Nat → Nat) (de : Nat) (o : Nat) (a : Nat → Nat) (ca : Nat → ClassId) (S : md_S) (p1 : Int64) (F : Int32 → Prop) (h : dc_wp (mm_isWord S p1) F) : dc_Ci l ⟨"SignalEngineModel", "isWord", "(J)Z"⟩ prog_15_method_11_code 3 (some (.boolean)) 0 0 D (md_T ca) ad de [.ref o, .long p1] (md_W o a ca S) (fun r w => ∃ q, F q ∧ r = q ∧ w = (md_W o a ca S)) 0 0 := by
  refine dc_enteri (by decide +kernel) (Nat.le_of_ble_eq_true rfl) ?_
  intro X hC hR
  have lab_22 : ∀ (y0 : Int32), dc_wp (mm_isWord_L22 S y0) F → dc_G X l { frames := 0, cells := 0, slots := 0, locals := 0 } D 3 0 0 (md_W o a ca S) 22 [(0, .ref o)] [.int y0] := by
    intro y0 h
    delta mm_isWord_L22 at h
    obtain ⟨hz1, h⟩ := dc_zb_wp (dc_bind h)
    exact dc_zret (pc := 22) hC hR hz1 ⟨_, dc_some h, rfl, rfl⟩ (show decode prog_15_method_11_code 22 = .ok (.ireturn, 1) by decide +kernel)
  have lab_21 : dc_wp (mm_isWord_L21 S) F → dc_G X l { frames := 0, cells := 0, slots := 0, locals := 0 } D 3 0 0 (md_W o a ca S) 21 [(0, .ref o)] [] := by
    intro  h
    delta mm_isWord_L21 at h
    refine dc_iconst (pc := 21) (v := 0) hC (show decode prog_15_method_11_code 21 = .ok (.iconst 0, 1) by decide +kernel) (by decide +kernel) ?_
    exact lab_22 0 h
  show dc_G X l { frames := 0, cells := 0, slots := 0, locals := 0 } D 3 0 0 (md_W o a ca S) 0 [(0, .ref o), (1, .long p1)] []
  delta mm_isWord at h
  refine dc_aloadn (pc := 0) (j := 0) (i := 0) hC 0 rfl rfl (show decode prog_15_method_11_code 0 = .ok (.aload_n 0, 1) by decide +kernel) ?_
  refine md_g6 (pc := 1) hC (show decode prog_15_method_11_code 1 = .ok (.getfield 240, 3) by decide +kernel) ?_
  refine dc_iconst (pc := 4) (v := 1) hC (show decode prog_15_method_11_code 4 = .ok (.iconst 1, 1) by decide +kernel) (by decide +kernel) ?_
  refine dc_icmp_ne (pc := 5) (tgt := 21) hC (show decode prog_15_method_11_code 5 = .ok (.if_icmp .ne 16, 3) by decide +kernel) (by decide +kernel) h ?_ ?_
  · intro h
    refine dc_aloadn (pc := 8) (j := 0) (i := 0) hC 0 rfl rfl (show decode prog_15_method_11_code 8 = .ok (.aload_n 0, 1) by decide +kernel) ?_
    refine md_g9 (pc := 9) hC (show decode prog_15_method_11_code 9 = .ok (.getfield 243, 3) by decide +kernel) ?_
    refine dc_lloadn (pc := 12) (j := 1) (i := 1) hC 1 rfl rfl (show decode prog_15_method_11_code 12 = .ok (.lload_n 1, 1) by decide +kernel) ?_
    refine dc_lcmp (pc := 13) hC (show decode prog_15_method_11_code 13 = .ok (.lcmp, 1) by decide +kernel) ?_
    refine dc_if_ne (pc := 14) (tgt := 21) hC (show decode prog_15_method_11_code 14 = .ok (.ifCond .ne 7, 3) by decide +kernel) (by decide +kernel) h ?_ ?_
    · intro h
      refine dc_iconst (pc := 17) (v := 1) hC (show decode prog_15_method_11_code 17 = .ok (.iconst 1, 1) by decide +kernel) (by decide +kernel) ?_
      refine dc_goto (pc := 18) (tgt := 22) hC (show decode prog_15_method_11_code 18 = .ok (.goto 4, 3) by decide +kernel) (by decide +kernel) ?_
      exact dc_sub [0] rfl (lab_22 1 h)
    · intro h
      exact dc_sub [0] rfl (lab_21 h)
  · intro h
    exact dc_sub [0] rfl (lab_21 h)
noncomputable def mm_meetsWord_L15 (S : md_S) : Option (md_S × Int32) :=
  some (S, 0)
noncomputable def mm_meetsWord (S : md_S) (p1 : Int64) : Option (md_S × Int32) :=
  if (0 : Int32) < (S.1 10) then (mm_meetsWord_L15 S) else ((mm_isWord S p1).bind fun q1 => if q1 = 0 then (mm_meetsWord_L15 S) else ((mm_advance S).bind fun q2 => some (q2, 1)))
set_option maxHeartbeats 4000000 in
set_option maxRecDepth 100000 in
/-- meetsWord(J)Z -/
theorem mm_meetsWord_ok (l : Launch) (D : va_G) (ad : Nat → Nat) (de : Nat) (o : Nat) (a : Nat → Nat) (ca : Nat → ClassId) (S : md_S) (p1 : Int64) (F : (md_S × Int32) → Prop) (h : dc_wp (mm_meetsWord S p1) F) : dc_Ci l ⟨"SignalEngineModel", "meetsWord", "(J)Z"⟩ prog_15_method_13_code 3 (some (.boolean)) 3 62 D (md_T ca) ad de [.ref o, .long p1] (md_W o a ca S) (fun r w => ∃ q, F q ∧ r = q.2 ∧ w = md_W o a ca q.1) 0 0 := by
  refine dc_enteri (by decide +kernel) (Nat.le_of_ble_eq_true rfl) ?_
  intro X hC hR
  have lab_15 : ∀ (S : md_S), dc_wp (mm_meetsWord_L15 S) F → dc_G X l { frames := 3, cells := 0, slots := 0, locals := 62 } D 3 0 0 (md_W o a ca S) 15 [(0, .ref o)] [] := by
    intro S  h
    delta mm_meetsWord_L15 at h
    refine dc_iconst (pc := 15) (v := 0) hC (show decode prog_15_method_13_code 15 = .ok (.iconst 0, 1) by decide +kernel) (by decide +kernel) ?_
    exact dc_zret (pc := 16) hC hR (Or.inl rfl) ⟨_, dc_some h, rfl, rfl⟩ (show decode prog_15_method_13_code 16 = .ok (.ireturn, 1) by decide +kernel)
  show dc_G X l { frames := 3, cells := 0, slots := 0, locals := 62 } D 3 0 0 (md_W o a ca S) 0 [(0, .ref o), (1, .long p1)] []
  delta mm_meetsWord at h
  refine dc_aloadn (pc := 0) (j := 0) (i := 0) hC 0 rfl rfl (show decode prog_15_method_13_code 0 = .ok (.aload_n 0, 1) by decide +kernel) ?_
  refine md_g10 (pc := 1) hC (show decode prog_15_method_13_code 1 = .ok (.getfield 221, 3) by decide +kernel) ?_
  refine dc_if_gt (pc := 4) (tgt := 15) hC (show decode prog_15_method_13_code 4 = .ok (.ifCond .gt 11, 3) by decide +kernel) (by decide +kernel) h ?_ ?_
  · intro h
    exact dc_sub [0] rfl (lab_15 S h)
  · intro h
    refine dc_aloadn (pc := 7) (j := 0) (i := 0) hC 0 rfl rfl (show decode prog_15_method_13_code 7 = .ok (.aload_n 0, 1) by decide +kernel) ?_
    refine dc_lloadn (pc := 8) (j := 1) (i := 1) hC 1 rfl rfl (show decode prog_15_method_13_code 8 = .ok (.lload_n 1, 1) by decide +kernel) ?_
    refine mc_Vpi (pc := 9) (As := [.long p1]) (rest := []) hC vw_isWord_254 (mm_isWord_ok l D ad de o a ca S p1) (Nat.le_of_ble_eq_true rfl) (Nat.le_of_ble_eq_true rfl) rfl (Nat.le_of_ble_eq_true rfl) (show decode prog_15_method_13_code 9 = .ok (.invokevirtual 254, 3) by decide +kernel) h ?_
    intro q1 h
    refine dc_if_ne (pc := 12) (tgt := 17) hC (show decode prog_15_method_13_code 12 = .ok (.ifCond .ne 5, 3) by decide +kernel) (by decide +kernel) h ?_ ?_
    · intro h
      exact dc_sub [0] rfl (lab_15 S h)
    · intro h
      refine dc_aloadn (pc := 17) (j := 0) (i := 0) hC 0 rfl rfl (show decode prog_15_method_13_code 17 = .ok (.aload_n 0, 1) by decide +kernel) ?_
      refine mc_Vmv (pc := 18) (As := []) (rest := []) hC vw_advance_258 (mm_advance_ok l D ad de o a ca S) (Nat.le_of_ble_eq_true rfl) (Nat.le_of_ble_eq_true rfl) rfl (Nat.le_of_ble_eq_true rfl) (show decode prog_15_method_13_code 18 = .ok (.invokevirtual 258, 3) by decide +kernel) h ?_
      intro q2 h
      refine dc_iconst (pc := 21) (v := 1) hC (show decode prog_15_method_13_code 21 = .ok (.iconst 1, 1) by decide +kernel) (by decide +kernel) ?_
      exact dc_zret (pc := 22) hC hR (Or.inr rfl) ⟨_, dc_some h, rfl, rfl⟩ (show decode prog_15_method_13_code 22 = .ok (.ireturn, 1) by decide +kernel)
noncomputable def mm_isKept_L265 (S : md_S) (y0 : Int32) : Option (Int32) :=
  (dc_zb y0).bind fun _ => some y0
noncomputable def mm_isKept_L260 (S : md_S) : Option (Int32) :=
  mm_isKept_L265 S 1
noncomputable def mm_isKept (S : md_S) : Option (Int32) :=
  (mm_isWord S 26990).bind fun q2 => if q2 = 0 then ((mm_isWord S 7304564).bind fun q3 => if q3 = 0 then ((mm_isWord S 31084793196801639).bind fun q4 => if q4 = 0 then ((mm_isWord S 482671424357).bind fun q5 => if q5 = 0 then ((mm_isWord S 1751215220).bind fun q6 => if q6 = 0 then ((mm_isWord S 1701669236).bind fun q7 => if q7 = 0 then ((mm_isWord S 32498761055955310).bind fun q8 => if q8 = 0 then ((mm_isWord S 1702390132).bind fun q9 => if q9 = 0 then ((mm_isWord S 31650977444884084).bind fun q10 => if q10 = 0 then ((mm_isWord S 1952998766).bind fun q11 => if q11 = 0 then ((mm_isWord S 1701606245).bind fun q12 => if q12 = 0 then ((mm_isWord S 6647396).bind fun q13 => if q13 = 0 then ((mm_isWord S 32498760989109860).bind fun q14 => if q14 = 0 then ((mm_isWord S 2003330414).bind fun q15 => if q15 = 0 then ((mm_isWord S 1819242352).bind fun q16 => if q16 = 0 then ((mm_isWord S 1700881256).bind fun q17 => if q17 = 0 then ((mm_isWord S 1953653104).bind fun q18 => if q18 = 0 then ((mm_isWord S 126896544047468).bind fun q19 => if q19 = 0 then ((mm_isWord S 7237492).bind fun q20 => if q20 = 0 then ((mm_isWord S 6385252).bind fun q21 => if q21 = 0 then ((mm_isWord S 28530).bind fun q22 => if q22 = 0 then ((mm_isWord S 418614700404).bind fun q23 => if q23 = 0 then ((mm_isWord S 418263298676).bind fun q24 => if q24 = 0 then ((mm_isWord S 2003132779).bind fun q25 => if q25 = 0 then ((mm_isWord S 435778056825).bind fun q26 => if q26 = 0 then ((mm_isWord S 25711).bind fun q27 => if q27 = 0 then (mm_isKept_L265 S 0) else (mm_isKept_L260 S)) else (mm_isKept_L260 S)) else (mm_isKept_L260 S)) else (mm_isKept_L260 S)) else (mm_isKept_L260 S)) else (mm_isKept_L260 S)) else (mm_isKept_L260 S)) else (mm_isKept_L260 S)) else (mm_isKept_L260 S)) else (mm_isKept_L260 S)) else (mm_isKept_L260 S)) else (mm_isKept_L260 S)) else (mm_isKept_L260 S)) else (mm_isKept_L260 S)) else (mm_isKept_L260 S)) else (mm_isKept_L260 S)) else (mm_isKept_L260 S)) else (mm_isKept_L260 S)) else (mm_isKept_L260 S)) else (mm_isKept_L260 S)) else (mm_isKept_L260 S)) else (mm_isKept_L260 S)) else (mm_isKept_L260 S)) else (mm_isKept_L260 S)) else (mm_isKept_L260 S)) else (mm_isKept_L260 S)
set_option maxHeartbeats 4000000 in
set_option maxRecDepth 100000 in
/-- isKept()Z -/
theorem mm_isKept_ok (l : Launch) (D : va_G) (ad : Nat → Nat) (de : Nat) (o : Nat) (a : Nat → Nat) (ca : Nat → ClassId) (S : md_S) (F : Int32 → Prop) (h : dc_wp (mm_isKept S) F) : dc_Ci l ⟨"SignalEngineModel", "isKept", "()Z"⟩ prog_15_method_16_code 1 (some (.boolean)) 1 22 D (md_T ca) ad de [.ref o] (md_W o a ca S) (fun r w => ∃ q, F q ∧ r = q ∧ w = (md_W o a ca S)) 0 0 := by
  refine dc_enteri (by decide +kernel) (Nat.le_of_ble_eq_true rfl) ?_
  intro X hC hR
  have lab_265 : ∀ (y0 : Int32), dc_wp (mm_isKept_L265 S y0) F → dc_G X l { frames := 1, cells := 0, slots := 0, locals := 22 } D 1 0 0 (md_W o a ca S) 265 [(0, .ref o)] [.int y0] := by
    intro y0 h
    delta mm_isKept_L265 at h
    obtain ⟨hz1, h⟩ := dc_zb_wp (dc_bind h)
    exact dc_zret (pc := 265) hC hR hz1 ⟨_, dc_some h, rfl, rfl⟩ (show decode prog_15_method_16_code 265 = .ok (.ireturn, 1) by decide +kernel)
  have lab_260 : dc_wp (mm_isKept_L260 S) F → dc_G X l { frames := 1, cells := 0, slots := 0, locals := 22 } D 1 0 0 (md_W o a ca S) 260 [(0, .ref o)] [] := by
    intro  h
    delta mm_isKept_L260 at h
    refine dc_iconst (pc := 260) (v := 1) hC (show decode prog_15_method_16_code 260 = .ok (.iconst 1, 1) by decide +kernel) (by decide +kernel) ?_
    refine dc_goto (pc := 261) (tgt := 265) hC (show decode prog_15_method_16_code 261 = .ok (.goto 4, 3) by decide +kernel) (by decide +kernel) ?_
    exact lab_265 1 h
  show dc_G X l { frames := 1, cells := 0, slots := 0, locals := 22 } D 1 0 0 (md_W o a ca S) 0 [(0, .ref o)] []
  delta mm_isKept at h
  refine dc_aloadn (pc := 0) (j := 0) (i := 0) hC 0 rfl rfl (show decode prog_15_method_16_code 0 = .ok (.aload_n 0, 1) by decide +kernel) ?_
  refine dc_ldc2 (pc := 1) (v := 26990) hC w_1929 (show decode prog_15_method_16_code 1 = .ok (.ldc2_w 271, 3) by decide +kernel) ?_
  refine mc_Vpi (pc := 4) (As := [.long 26990]) (rest := []) hC vw_isWord_254 (mm_isWord_ok l D ad de o a ca S 26990) (Nat.le_of_ble_eq_true rfl) (Nat.le_of_ble_eq_true rfl) rfl (Nat.le_of_ble_eq_true rfl) (show decode prog_15_method_16_code 4 = .ok (.invokevirtual 254, 3) by decide +kernel) h ?_
  intro q2 h
  refine dc_if_ne (pc := 7) (tgt := 260) hC (show decode prog_15_method_16_code 7 = .ok (.ifCond .ne 253, 3) by decide +kernel) (by decide +kernel) h ?_ ?_
  · intro h
    refine dc_aloadn (pc := 10) (j := 0) (i := 0) hC 0 rfl rfl (show decode prog_15_method_16_code 10 = .ok (.aload_n 0, 1) by decide +kernel) ?_
    refine dc_ldc2 (pc := 11) (v := 7304564) hC w_1950 (show decode prog_15_method_16_code 11 = .ok (.ldc2_w 273, 3) by decide +kernel) ?_
    refine mc_Vpi (pc := 14) (As := [.long 7304564]) (rest := []) hC vw_isWord_254 (mm_isWord_ok l D ad de o a ca S 7304564) (Nat.le_of_ble_eq_true rfl) (Nat.le_of_ble_eq_true rfl) rfl (Nat.le_of_ble_eq_true rfl) (show decode prog_15_method_16_code 14 = .ok (.invokevirtual 254, 3) by decide +kernel) h ?_
    intro q3 h
    refine dc_if_ne (pc := 17) (tgt := 260) hC (show decode prog_15_method_16_code 17 = .ok (.ifCond .ne 243, 3) by decide +kernel) (by decide +kernel) h ?_ ?_
    · intro h
      refine dc_aloadn (pc := 20) (j := 0) (i := 0) hC 0 rfl rfl (show decode prog_15_method_16_code 20 = .ok (.aload_n 0, 1) by decide +kernel) ?_
      refine dc_ldc2 (pc := 21) (v := 31084793196801639) hC w_1951 (show decode prog_15_method_16_code 21 = .ok (.ldc2_w 275, 3) by decide +kernel) ?_
      refine mc_Vpi (pc := 24) (As := [.long 31084793196801639]) (rest := []) hC vw_isWord_254 (mm_isWord_ok l D ad de o a ca S 31084793196801639) (Nat.le_of_ble_eq_true rfl) (Nat.le_of_ble_eq_true rfl) rfl (Nat.le_of_ble_eq_true rfl) (show decode prog_15_method_16_code 24 = .ok (.invokevirtual 254, 3) by decide +kernel) h ?_
      intro q4 h
      refine dc_if_ne (pc := 27) (tgt := 260) hC (show decode prog_15_method_16_code 27 = .ok (.ifCond .ne 233, 3) by decide +kernel) (by decide +kernel) h ?_ ?_
      · intro h
        refine dc_aloadn (pc := 30) (j := 0) (i := 0) hC 0 rfl rfl (show decode prog_15_method_16_code 30 = .ok (.aload_n 0, 1) by decide +kernel) ?_
        refine dc_ldc2 (pc := 31) (v := 482671424357) hC w_1952 (show decode prog_15_method_16_code 31 = .ok (.ldc2_w 277, 3) by decide +kernel) ?_
        refine mc_Vpi (pc := 34) (As := [.long 482671424357]) (rest := []) hC vw_isWord_254 (mm_isWord_ok l D ad de o a ca S 482671424357) (Nat.le_of_ble_eq_true rfl) (Nat.le_of_ble_eq_true rfl) rfl (Nat.le_of_ble_eq_true rfl) (show decode prog_15_method_16_code 34 = .ok (.invokevirtual 254, 3) by decide +kernel) h ?_
        intro q5 h
        refine dc_if_ne (pc := 37) (tgt := 260) hC (show decode prog_15_method_16_code 37 = .ok (.ifCond .ne 223, 3) by decide +kernel) (by decide +kernel) h ?_ ?_
        · intro h
          refine dc_aloadn (pc := 40) (j := 0) (i := 0) hC 0 rfl rfl (show decode prog_15_method_16_code 40 = .ok (.aload_n 0, 1) by decide +kernel) ?_
          refine dc_ldc2 (pc := 41) (v := 1751215220) hC w_1953 (show decode prog_15_method_16_code 41 = .ok (.ldc2_w 279, 3) by decide +kernel) ?_
          refine mc_Vpi (pc := 44) (As := [.long 1751215220]) (rest := []) hC vw_isWord_254 (mm_isWord_ok l D ad de o a ca S 1751215220) (Nat.le_of_ble_eq_true rfl) (Nat.le_of_ble_eq_true rfl) rfl (Nat.le_of_ble_eq_true rfl) (show decode prog_15_method_16_code 44 = .ok (.invokevirtual 254, 3) by decide +kernel) h ?_
          intro q6 h
          refine dc_if_ne (pc := 47) (tgt := 260) hC (show decode prog_15_method_16_code 47 = .ok (.ifCond .ne 213, 3) by decide +kernel) (by decide +kernel) h ?_ ?_
          · intro h
            refine dc_aloadn (pc := 50) (j := 0) (i := 0) hC 0 rfl rfl (show decode prog_15_method_16_code 50 = .ok (.aload_n 0, 1) by decide +kernel) ?_
            refine dc_ldc2 (pc := 51) (v := 1701669236) hC w_1954 (show decode prog_15_method_16_code 51 = .ok (.ldc2_w 281, 3) by decide +kernel) ?_
            refine mc_Vpi (pc := 54) (As := [.long 1701669236]) (rest := []) hC vw_isWord_254 (mm_isWord_ok l D ad de o a ca S 1701669236) (Nat.le_of_ble_eq_true rfl) (Nat.le_of_ble_eq_true rfl) rfl (Nat.le_of_ble_eq_true rfl) (show decode prog_15_method_16_code 54 = .ok (.invokevirtual 254, 3) by decide +kernel) h ?_
            intro q7 h
            refine dc_if_ne (pc := 57) (tgt := 260) hC (show decode prog_15_method_16_code 57 = .ok (.ifCond .ne 203, 3) by decide +kernel) (by decide +kernel) h ?_ ?_
            · intro h
              refine dc_aloadn (pc := 60) (j := 0) (i := 0) hC 0 rfl rfl (show decode prog_15_method_16_code 60 = .ok (.aload_n 0, 1) by decide +kernel) ?_
              refine dc_ldc2 (pc := 61) (v := 32498761055955310) hC w_1955 (show decode prog_15_method_16_code 61 = .ok (.ldc2_w 283, 3) by decide +kernel) ?_
              refine mc_Vpi (pc := 64) (As := [.long 32498761055955310]) (rest := []) hC vw_isWord_254 (mm_isWord_ok l D ad de o a ca S 32498761055955310) (Nat.le_of_ble_eq_true rfl) (Nat.le_of_ble_eq_true rfl) rfl (Nat.le_of_ble_eq_true rfl) (show decode prog_15_method_16_code 64 = .ok (.invokevirtual 254, 3) by decide +kernel) h ?_
              intro q8 h
              refine dc_if_ne (pc := 67) (tgt := 260) hC (show decode prog_15_method_16_code 67 = .ok (.ifCond .ne 193, 3) by decide +kernel) (by decide +kernel) h ?_ ?_
              · intro h
                refine dc_aloadn (pc := 70) (j := 0) (i := 0) hC 0 rfl rfl (show decode prog_15_method_16_code 70 = .ok (.aload_n 0, 1) by decide +kernel) ?_
                refine dc_ldc2 (pc := 71) (v := 1702390132) hC w_1956 (show decode prog_15_method_16_code 71 = .ok (.ldc2_w 285, 3) by decide +kernel) ?_
                refine mc_Vpi (pc := 74) (As := [.long 1702390132]) (rest := []) hC vw_isWord_254 (mm_isWord_ok l D ad de o a ca S 1702390132) (Nat.le_of_ble_eq_true rfl) (Nat.le_of_ble_eq_true rfl) rfl (Nat.le_of_ble_eq_true rfl) (show decode prog_15_method_16_code 74 = .ok (.invokevirtual 254, 3) by decide +kernel) h ?_
                intro q9 h
                refine dc_if_ne (pc := 77) (tgt := 260) hC (show decode prog_15_method_16_code 77 = .ok (.ifCond .ne 183, 3) by decide +kernel) (by decide +kernel) h ?_ ?_
                · intro h
                  refine dc_aloadn (pc := 80) (j := 0) (i := 0) hC 0 rfl rfl (show decode prog_15_method_16_code 80 = .ok (.aload_n 0, 1) by decide +kernel) ?_
                  refine dc_ldc2 (pc := 81) (v := 31650977444884084) hC w_1957 (show decode prog_15_method_16_code 81 = .ok (.ldc2_w 287, 3) by decide +kernel) ?_
                  refine mc_Vpi (pc := 84) (As := [.long 31650977444884084]) (rest := []) hC vw_isWord_254 (mm_isWord_ok l D ad de o a ca S 31650977444884084) (Nat.le_of_ble_eq_true rfl) (Nat.le_of_ble_eq_true rfl) rfl (Nat.le_of_ble_eq_true rfl) (show decode prog_15_method_16_code 84 = .ok (.invokevirtual 254, 3) by decide +kernel) h ?_
                  intro q10 h
                  refine dc_if_ne (pc := 87) (tgt := 260) hC (show decode prog_15_method_16_code 87 = .ok (.ifCond .ne 173, 3) by decide +kernel) (by decide +kernel) h ?_ ?_
                  · intro h
                    refine dc_aloadn (pc := 90) (j := 0) (i := 0) hC 0 rfl rfl (show decode prog_15_method_16_code 90 = .ok (.aload_n 0, 1) by decide +kernel) ?_
                    refine dc_ldc2 (pc := 91) (v := 1952998766) hC w_1958 (show decode prog_15_method_16_code 91 = .ok (.ldc2_w 289, 3) by decide +kernel) ?_
                    refine mc_Vpi (pc := 94) (As := [.long 1952998766]) (rest := []) hC vw_isWord_254 (mm_isWord_ok l D ad de o a ca S 1952998766) (Nat.le_of_ble_eq_true rfl) (Nat.le_of_ble_eq_true rfl) rfl (Nat.le_of_ble_eq_true rfl) (show decode prog_15_method_16_code 94 = .ok (.invokevirtual 254, 3) by decide +kernel) h ?_
                    intro q11 h
                    refine dc_if_ne (pc := 97) (tgt := 260) hC (show decode prog_15_method_16_code 97 = .ok (.ifCond .ne 163, 3) by decide +kernel) (by decide +kernel) h ?_ ?_
                    · intro h
                      refine dc_aloadn (pc := 100) (j := 0) (i := 0) hC 0 rfl rfl (show decode prog_15_method_16_code 100 = .ok (.aload_n 0, 1) by decide +kernel) ?_
                      refine dc_ldc2 (pc := 101) (v := 1701606245) hC w_1959 (show decode prog_15_method_16_code 101 = .ok (.ldc2_w 291, 3) by decide +kernel) ?_
                      refine mc_Vpi (pc := 104) (As := [.long 1701606245]) (rest := []) hC vw_isWord_254 (mm_isWord_ok l D ad de o a ca S 1701606245) (Nat.le_of_ble_eq_true rfl) (Nat.le_of_ble_eq_true rfl) rfl (Nat.le_of_ble_eq_true rfl) (show decode prog_15_method_16_code 104 = .ok (.invokevirtual 254, 3) by decide +kernel) h ?_
                      intro q12 h
                      refine dc_if_ne (pc := 107) (tgt := 260) hC (show decode prog_15_method_16_code 107 = .ok (.ifCond .ne 153, 3) by decide +kernel) (by decide +kernel) h ?_ ?_
                      · intro h
                        refine dc_aloadn (pc := 110) (j := 0) (i := 0) hC 0 rfl rfl (show decode prog_15_method_16_code 110 = .ok (.aload_n 0, 1) by decide +kernel) ?_
                        refine dc_ldc2 (pc := 111) (v := 6647396) hC w_1960 (show decode prog_15_method_16_code 111 = .ok (.ldc2_w 293, 3) by decide +kernel) ?_
                        refine mc_Vpi (pc := 114) (As := [.long 6647396]) (rest := []) hC vw_isWord_254 (mm_isWord_ok l D ad de o a ca S 6647396) (Nat.le_of_ble_eq_true rfl) (Nat.le_of_ble_eq_true rfl) rfl (Nat.le_of_ble_eq_true rfl) (show decode prog_15_method_16_code 114 = .ok (.invokevirtual 254, 3) by decide +kernel) h ?_
                        intro q13 h
                        refine dc_if_ne (pc := 117) (tgt := 260) hC (show decode prog_15_method_16_code 117 = .ok (.ifCond .ne 143, 3) by decide +kernel) (by decide +kernel) h ?_ ?_
                        · intro h
                          refine dc_aloadn (pc := 120) (j := 0) (i := 0) hC 0 rfl rfl (show decode prog_15_method_16_code 120 = .ok (.aload_n 0, 1) by decide +kernel) ?_
                          refine dc_ldc2 (pc := 121) (v := 32498760989109860) hC w_1961 (show decode prog_15_method_16_code 121 = .ok (.ldc2_w 295, 3) by decide +kernel) ?_
                          refine mc_Vpi (pc := 124) (As := [.long 32498760989109860]) (rest := []) hC vw_isWord_254 (mm_isWord_ok l D ad de o a ca S 32498760989109860) (Nat.le_of_ble_eq_true rfl) (Nat.le_of_ble_eq_true rfl) rfl (Nat.le_of_ble_eq_true rfl) (show decode prog_15_method_16_code 124 = .ok (.invokevirtual 254, 3) by decide +kernel) h ?_
                          intro q14 h
                          refine dc_if_ne (pc := 127) (tgt := 260) hC (show decode prog_15_method_16_code 127 = .ok (.ifCond .ne 133, 3) by decide +kernel) (by decide +kernel) h ?_ ?_
                          · intro h
                            refine dc_aloadn (pc := 130) (j := 0) (i := 0) hC 0 rfl rfl (show decode prog_15_method_16_code 130 = .ok (.aload_n 0, 1) by decide +kernel) ?_
                            refine dc_ldc2 (pc := 131) (v := 2003330414) hC w_1962 (show decode prog_15_method_16_code 131 = .ok (.ldc2_w 297, 3) by decide +kernel) ?_
                            refine mc_Vpi (pc := 134) (As := [.long 2003330414]) (rest := []) hC vw_isWord_254 (mm_isWord_ok l D ad de o a ca S 2003330414) (Nat.le_of_ble_eq_true rfl) (Nat.le_of_ble_eq_true rfl) rfl (Nat.le_of_ble_eq_true rfl) (show decode prog_15_method_16_code 134 = .ok (.invokevirtual 254, 3) by decide +kernel) h ?_
                            intro q15 h
                            refine dc_if_ne (pc := 137) (tgt := 260) hC (show decode prog_15_method_16_code 137 = .ok (.ifCond .ne 123, 3) by decide +kernel) (by decide +kernel) h ?_ ?_
                            · intro h
                              refine dc_aloadn (pc := 140) (j := 0) (i := 0) hC 0 rfl rfl (show decode prog_15_method_16_code 140 = .ok (.aload_n 0, 1) by decide +kernel) ?_
                              refine dc_ldc2 (pc := 141) (v := 1819242352) hC w_1963 (show decode prog_15_method_16_code 141 = .ok (.ldc2_w 299, 3) by decide +kernel) ?_
                              refine mc_Vpi (pc := 144) (As := [.long 1819242352]) (rest := []) hC vw_isWord_254 (mm_isWord_ok l D ad de o a ca S 1819242352) (Nat.le_of_ble_eq_true rfl) (Nat.le_of_ble_eq_true rfl) rfl (Nat.le_of_ble_eq_true rfl) (show decode prog_15_method_16_code 144 = .ok (.invokevirtual 254, 3) by decide +kernel) h ?_
                              intro q16 h
                              refine dc_if_ne (pc := 147) (tgt := 260) hC (show decode prog_15_method_16_code 147 = .ok (.ifCond .ne 113, 3) by decide +kernel) (by decide +kernel) h ?_ ?_
                              · intro h
                                refine dc_aloadn (pc := 150) (j := 0) (i := 0) hC 0 rfl rfl (show decode prog_15_method_16_code 150 = .ok (.aload_n 0, 1) by decide +kernel) ?_
                                refine dc_ldc2 (pc := 151) (v := 1700881256) hC w_1964 (show decode prog_15_method_16_code 151 = .ok (.ldc2_w 301, 3) by decide +kernel) ?_
                                refine mc_Vpi (pc := 154) (As := [.long 1700881256]) (rest := []) hC vw_isWord_254 (mm_isWord_ok l D ad de o a ca S 1700881256) (Nat.le_of_ble_eq_true rfl) (Nat.le_of_ble_eq_true rfl) rfl (Nat.le_of_ble_eq_true rfl) (show decode prog_15_method_16_code 154 = .ok (.invokevirtual 254, 3) by decide +kernel) h ?_
                                intro q17 h
                                refine dc_if_ne (pc := 157) (tgt := 260) hC (show decode prog_15_method_16_code 157 = .ok (.ifCond .ne 103, 3) by decide +kernel) (by decide +kernel) h ?_ ?_
                                · intro h
                                  refine dc_aloadn (pc := 160) (j := 0) (i := 0) hC 0 rfl rfl (show decode prog_15_method_16_code 160 = .ok (.aload_n 0, 1) by decide +kernel) ?_
                                  refine dc_ldc2 (pc := 161) (v := 1953653104) hC w_1965 (show decode prog_15_method_16_code 161 = .ok (.ldc2_w 303, 3) by decide +kernel) ?_
                                  refine mc_Vpi (pc := 164) (As := [.long 1953653104]) (rest := []) hC vw_isWord_254 (mm_isWord_ok l D ad de o a ca S 1953653104) (Nat.le_of_ble_eq_true rfl) (Nat.le_of_ble_eq_true rfl) rfl (Nat.le_of_ble_eq_true rfl) (show decode prog_15_method_16_code 164 = .ok (.invokevirtual 254, 3) by decide +kernel) h ?_
                                  intro q18 h
                                  refine dc_if_ne (pc := 167) (tgt := 260) hC (show decode prog_15_method_16_code 167 = .ok (.ifCond .ne 93, 3) by decide +kernel) (by decide +kernel) h ?_ ?_
                                  · intro h
                                    refine dc_aloadn (pc := 170) (j := 0) (i := 0) hC 0 rfl rfl (show decode prog_15_method_16_code 170 = .ok (.aload_n 0, 1) by decide +kernel) ?_
                                    refine dc_ldc2 (pc := 171) (v := 126896544047468) hC w_1966 (show decode prog_15_method_16_code 171 = .ok (.ldc2_w 305, 3) by decide +kernel) ?_
                                    refine mc_Vpi (pc := 174) (As := [.long 126896544047468]) (rest := []) hC vw_isWord_254 (mm_isWord_ok l D ad de o a ca S 126896544047468) (Nat.le_of_ble_eq_true rfl) (Nat.le_of_ble_eq_true rfl) rfl (Nat.le_of_ble_eq_true rfl) (show decode prog_15_method_16_code 174 = .ok (.invokevirtual 254, 3) by decide +kernel) h ?_
                                    intro q19 h
                                    refine dc_if_ne (pc := 177) (tgt := 260) hC (show decode prog_15_method_16_code 177 = .ok (.ifCond .ne 83, 3) by decide +kernel) (by decide +kernel) h ?_ ?_
                                    · intro h
                                      refine dc_aloadn (pc := 180) (j := 0) (i := 0) hC 0 rfl rfl (show decode prog_15_method_16_code 180 = .ok (.aload_n 0, 1) by decide +kernel) ?_
                                      refine dc_ldc2 (pc := 181) (v := 7237492) hC w_1967 (show decode prog_15_method_16_code 181 = .ok (.ldc2_w 307, 3) by decide +kernel) ?_
                                      refine mc_Vpi (pc := 184) (As := [.long 7237492]) (rest := []) hC vw_isWord_254 (mm_isWord_ok l D ad de o a ca S 7237492) (Nat.le_of_ble_eq_true rfl) (Nat.le_of_ble_eq_true rfl) rfl (Nat.le_of_ble_eq_true rfl) (show decode prog_15_method_16_code 184 = .ok (.invokevirtual 254, 3) by decide +kernel) h ?_
                                      intro q20 h
                                      refine dc_if_ne (pc := 187) (tgt := 260) hC (show decode prog_15_method_16_code 187 = .ok (.ifCond .ne 73, 3) by decide +kernel) (by decide +kernel) h ?_ ?_
                                      · intro h
                                        refine dc_aloadn (pc := 190) (j := 0) (i := 0) hC 0 rfl rfl (show decode prog_15_method_16_code 190 = .ok (.aload_n 0, 1) by decide +kernel) ?_
                                        refine dc_ldc2 (pc := 191) (v := 6385252) hC w_1968 (show decode prog_15_method_16_code 191 = .ok (.ldc2_w 309, 3) by decide +kernel) ?_
                                        refine mc_Vpi (pc := 194) (As := [.long 6385252]) (rest := []) hC vw_isWord_254 (mm_isWord_ok l D ad de o a ca S 6385252) (Nat.le_of_ble_eq_true rfl) (Nat.le_of_ble_eq_true rfl) rfl (Nat.le_of_ble_eq_true rfl) (show decode prog_15_method_16_code 194 = .ok (.invokevirtual 254, 3) by decide +kernel) h ?_
                                        intro q21 h
                                        refine dc_if_ne (pc := 197) (tgt := 260) hC (show decode prog_15_method_16_code 197 = .ok (.ifCond .ne 63, 3) by decide +kernel) (by decide +kernel) h ?_ ?_
                                        · intro h
                                          refine dc_aloadn (pc := 200) (j := 0) (i := 0) hC 0 rfl rfl (show decode prog_15_method_16_code 200 = .ok (.aload_n 0, 1) by decide +kernel) ?_
                                          refine dc_ldc2 (pc := 201) (v := 28530) hC w_1969 (show decode prog_15_method_16_code 201 = .ok (.ldc2_w 311, 3) by decide +kernel) ?_
                                          refine mc_Vpi (pc := 204) (As := [.long 28530]) (rest := []) hC vw_isWord_254 (mm_isWord_ok l D ad de o a ca S 28530) (Nat.le_of_ble_eq_true rfl) (Nat.le_of_ble_eq_true rfl) rfl (Nat.le_of_ble_eq_true rfl) (show decode prog_15_method_16_code 204 = .ok (.invokevirtual 254, 3) by decide +kernel) h ?_
                                          intro q22 h
                                          refine dc_if_ne (pc := 207) (tgt := 260) hC (show decode prog_15_method_16_code 207 = .ok (.ifCond .ne 53, 3) by decide +kernel) (by decide +kernel) h ?_ ?_
                                          · intro h
                                            refine dc_aloadn (pc := 210) (j := 0) (i := 0) hC 0 rfl rfl (show decode prog_15_method_16_code 210 = .ok (.aload_n 0, 1) by decide +kernel) ?_
                                            refine dc_ldc2 (pc := 211) (v := 418614700404) hC w_1970 (show decode prog_15_method_16_code 211 = .ok (.ldc2_w 313, 3) by decide +kernel) ?_
                                            refine mc_Vpi (pc := 214) (As := [.long 418614700404]) (rest := []) hC vw_isWord_254 (mm_isWord_ok l D ad de o a ca S 418614700404) (Nat.le_of_ble_eq_true rfl) (Nat.le_of_ble_eq_true rfl) rfl (Nat.le_of_ble_eq_true rfl) (show decode prog_15_method_16_code 214 = .ok (.invokevirtual 254, 3) by decide +kernel) h ?_
                                            intro q23 h
                                            refine dc_if_ne (pc := 217) (tgt := 260) hC (show decode prog_15_method_16_code 217 = .ok (.ifCond .ne 43, 3) by decide +kernel) (by decide +kernel) h ?_ ?_
                                            · intro h
                                              refine dc_aloadn (pc := 220) (j := 0) (i := 0) hC 0 rfl rfl (show decode prog_15_method_16_code 220 = .ok (.aload_n 0, 1) by decide +kernel) ?_
                                              refine dc_ldc2 (pc := 221) (v := 418263298676) hC w_1971 (show decode prog_15_method_16_code 221 = .ok (.ldc2_w 315, 3) by decide +kernel) ?_
                                              refine mc_Vpi (pc := 224) (As := [.long 418263298676]) (rest := []) hC vw_isWord_254 (mm_isWord_ok l D ad de o a ca S 418263298676) (Nat.le_of_ble_eq_true rfl) (Nat.le_of_ble_eq_true rfl) rfl (Nat.le_of_ble_eq_true rfl) (show decode prog_15_method_16_code 224 = .ok (.invokevirtual 254, 3) by decide +kernel) h ?_
                                              intro q24 h
                                              refine dc_if_ne (pc := 227) (tgt := 260) hC (show decode prog_15_method_16_code 227 = .ok (.ifCond .ne 33, 3) by decide +kernel) (by decide +kernel) h ?_ ?_
                                              · intro h
                                                refine dc_aloadn (pc := 230) (j := 0) (i := 0) hC 0 rfl rfl (show decode prog_15_method_16_code 230 = .ok (.aload_n 0, 1) by decide +kernel) ?_
                                                refine dc_ldc2 (pc := 231) (v := 2003132779) hC w_1972 (show decode prog_15_method_16_code 231 = .ok (.ldc2_w 317, 3) by decide +kernel) ?_
                                                refine mc_Vpi (pc := 234) (As := [.long 2003132779]) (rest := []) hC vw_isWord_254 (mm_isWord_ok l D ad de o a ca S 2003132779) (Nat.le_of_ble_eq_true rfl) (Nat.le_of_ble_eq_true rfl) rfl (Nat.le_of_ble_eq_true rfl) (show decode prog_15_method_16_code 234 = .ok (.invokevirtual 254, 3) by decide +kernel) h ?_
                                                intro q25 h
                                                refine dc_if_ne (pc := 237) (tgt := 260) hC (show decode prog_15_method_16_code 237 = .ok (.ifCond .ne 23, 3) by decide +kernel) (by decide +kernel) h ?_ ?_
                                                · intro h
                                                  refine dc_aloadn (pc := 240) (j := 0) (i := 0) hC 0 rfl rfl (show decode prog_15_method_16_code 240 = .ok (.aload_n 0, 1) by decide +kernel) ?_
                                                  refine dc_ldc2 (pc := 241) (v := 435778056825) hC w_1973 (show decode prog_15_method_16_code 241 = .ok (.ldc2_w 319, 3) by decide +kernel) ?_
                                                  refine mc_Vpi (pc := 244) (As := [.long 435778056825]) (rest := []) hC vw_isWord_254 (mm_isWord_ok l D ad de o a ca S 435778056825) (Nat.le_of_ble_eq_true rfl) (Nat.le_of_ble_eq_true rfl) rfl (Nat.le_of_ble_eq_true rfl) (show decode prog_15_method_16_code 244 = .ok (.invokevirtual 254, 3) by decide +kernel) h ?_
                                                  intro q26 h
                                                  refine dc_if_ne (pc := 247) (tgt := 260) hC (show decode prog_15_method_16_code 247 = .ok (.ifCond .ne 13, 3) by decide +kernel) (by decide +kernel) h ?_ ?_
                                                  · intro h
                                                    refine dc_aloadn (pc := 250) (j := 0) (i := 0) hC 0 rfl rfl (show decode prog_15_method_16_code 250 = .ok (.aload_n 0, 1) by decide +kernel) ?_
                                                    refine dc_ldc2 (pc := 251) (v := 25711) hC w_1974 (show decode prog_15_method_16_code 251 = .ok (.ldc2_w 321, 3) by decide +kernel) ?_
                                                    refine mc_Vpi (pc := 254) (As := [.long 25711]) (rest := []) hC vw_isWord_254 (mm_isWord_ok l D ad de o a ca S 25711) (Nat.le_of_ble_eq_true rfl) (Nat.le_of_ble_eq_true rfl) rfl (Nat.le_of_ble_eq_true rfl) (show decode prog_15_method_16_code 254 = .ok (.invokevirtual 254, 3) by decide +kernel) h ?_
                                                    intro q27 h
                                                    refine dc_if_eq (pc := 257) (tgt := 264) hC (show decode prog_15_method_16_code 257 = .ok (.ifCond .eq 7, 3) by decide +kernel) (by decide +kernel) h ?_ ?_
                                                    · intro h
                                                      refine dc_iconst (pc := 264) (v := 0) hC (show decode prog_15_method_16_code 264 = .ok (.iconst 0, 1) by decide +kernel) (by decide +kernel) ?_
                                                      exact lab_265 0 h
                                                    · intro h
                                                      exact lab_260 h
                                                  · intro h
                                                    exact lab_260 h
                                                · intro h
                                                  exact lab_260 h
                                              · intro h
                                                exact lab_260 h
                                            · intro h
                                              exact lab_260 h
                                          · intro h
                                            exact lab_260 h
                                        · intro h
                                          exact lab_260 h
                                      · intro h
                                        exact lab_260 h
                                    · intro h
                                      exact lab_260 h
                                  · intro h
                                    exact lab_260 h
                                · intro h
                                  exact lab_260 h
                              · intro h
                                exact lab_260 h
                            · intro h
                              exact lab_260 h
                          · intro h
                            exact lab_260 h
                        · intro h
                          exact lab_260 h
                      · intro h
                        exact lab_260 h
                    · intro h
                      exact lab_260 h
                  · intro h
                    exact lab_260 h
                · intro h
                  exact lab_260 h
              · intro h
                exact lab_260 h
            · intro h
              exact lab_260 h
          · intro h
            exact lab_260 h
        · intro h
          exact lab_260 h
      · intro h
        exact lab_260 h
    · intro h
      exact lab_260 h
  · intro h
    exact lab_260 h
noncomputable def mm_isName_L20 (S : md_S) (y0 : Int32) : Option (Int32) :=
  (dc_zb y0).bind fun _ => some y0
noncomputable def mm_isName_L19 (S : md_S) : Option (Int32) :=
  mm_isName_L20 S 0
noncomputable def mm_isName (S : md_S) : Option (Int32) :=
  if (S.1 6) = 1 then ((mm_isKept S).bind fun q2 => if q2 = 0 then (mm_isName_L20 S 1) else (mm_isName_L19 S)) else (mm_isName_L19 S)
set_option maxHeartbeats 4000000 in
set_option maxRecDepth 100000 in
/-- isName()Z -/
theorem mm_isName_ok (l : Launch) (D : va_G) (ad : Nat → Nat) (de : Nat) (o : Nat) (a : Nat → Nat) (ca : Nat → ClassId) (S : md_S) (F : Int32 → Prop) (h : dc_wp (mm_isName S) F) : dc_Ci l ⟨"SignalEngineModel", "isName", "()Z"⟩ prog_15_method_17_code 1 (some (.boolean)) 2 42 D (md_T ca) ad de [.ref o] (md_W o a ca S) (fun r w => ∃ q, F q ∧ r = q ∧ w = (md_W o a ca S)) 0 0 := by
  refine dc_enteri (by decide +kernel) (Nat.le_of_ble_eq_true rfl) ?_
  intro X hC hR
  have lab_20 : ∀ (y0 : Int32), dc_wp (mm_isName_L20 S y0) F → dc_G X l { frames := 2, cells := 0, slots := 0, locals := 42 } D 1 0 0 (md_W o a ca S) 20 [(0, .ref o)] [.int y0] := by
    intro y0 h
    delta mm_isName_L20 at h
    obtain ⟨hz1, h⟩ := dc_zb_wp (dc_bind h)
    exact dc_zret (pc := 20) hC hR hz1 ⟨_, dc_some h, rfl, rfl⟩ (show decode prog_15_method_17_code 20 = .ok (.ireturn, 1) by decide +kernel)
  have lab_19 : dc_wp (mm_isName_L19 S) F → dc_G X l { frames := 2, cells := 0, slots := 0, locals := 42 } D 1 0 0 (md_W o a ca S) 19 [(0, .ref o)] [] := by
    intro  h
    delta mm_isName_L19 at h
    refine dc_iconst (pc := 19) (v := 0) hC (show decode prog_15_method_17_code 19 = .ok (.iconst 0, 1) by decide +kernel) (by decide +kernel) ?_
    exact lab_20 0 h
  show dc_G X l { frames := 2, cells := 0, slots := 0, locals := 42 } D 1 0 0 (md_W o a ca S) 0 [(0, .ref o)] []
  delta mm_isName at h
  refine dc_aloadn (pc := 0) (j := 0) (i := 0) hC 0 rfl rfl (show decode prog_15_method_17_code 0 = .ok (.aload_n 0, 1) by decide +kernel) ?_
  refine md_g6 (pc := 1) hC (show decode prog_15_method_17_code 1 = .ok (.getfield 240, 3) by decide +kernel) ?_
  refine dc_iconst (pc := 4) (v := 1) hC (show decode prog_15_method_17_code 4 = .ok (.iconst 1, 1) by decide +kernel) (by decide +kernel) ?_
  refine dc_icmp_ne (pc := 5) (tgt := 19) hC (show decode prog_15_method_17_code 5 = .ok (.if_icmp .ne 14, 3) by decide +kernel) (by decide +kernel) h ?_ ?_
  · intro h
    refine dc_aloadn (pc := 8) (j := 0) (i := 0) hC 0 rfl rfl (show decode prog_15_method_17_code 8 = .ok (.aload_n 0, 1) by decide +kernel) ?_
    refine mc_Vpi (pc := 9) (As := []) (rest := []) hC vw_isKept_323 (mm_isKept_ok l D ad de o a ca S) (Nat.le_of_ble_eq_true rfl) (Nat.le_of_ble_eq_true rfl) rfl (Nat.le_of_ble_eq_true rfl) (show decode prog_15_method_17_code 9 = .ok (.invokevirtual 323, 3) by decide +kernel) h ?_
    intro q2 h
    refine dc_if_ne (pc := 12) (tgt := 19) hC (show decode prog_15_method_17_code 12 = .ok (.ifCond .ne 7, 3) by decide +kernel) (by decide +kernel) h ?_ ?_
    · intro h
      refine dc_iconst (pc := 15) (v := 1) hC (show decode prog_15_method_17_code 15 = .ok (.iconst 1, 1) by decide +kernel) (by decide +kernel) ?_
      refine dc_goto (pc := 16) (tgt := 20) hC (show decode prog_15_method_17_code 16 = .ok (.goto 4, 3) by decide +kernel) (by decide +kernel) ?_
      exact lab_20 1 h
    · intro h
      exact lab_19 h
  · intro h
    exact lab_19 h
noncomputable def mm_same_L61 (S : md_S) (x5 : Int32) : Option (Int32) :=
  (dc_zb x5).bind fun _ => some x5
noncomputable def mm_same_L53 (S : md_S) (x1 : Int32) (x2 : Int32) (x3 : Int32) (x6 : Int32) (y0 : Int32) : Option ((Int32 × Int32) ⊕ ((Int32))) :=
  some (.inl (y0, (x6 + 1)))
noncomputable def mm_same_b16 (S : md_S) (x1 : Int32) (x2 : Int32) (x3 : Int32) (x5 : Int32) (x6 : Int32) : Option ((Int32 × Int32) ⊕ ((Int32))) :=
  if x6 < x2 then (if x5 = 0 then (some (.inr x5)) else ((dc_ix (x1 + x6) 32768).bind fun j2 => (dc_ix (x3 + x6) 32768).bind fun j3 => if (S.2.1 1 j2) = (S.2.1 1 j3) then (mm_same_L53 S x1 x2 x3 x6 1) else (mm_same_L53 S x1 x2 x3 x6 0))) else (some (.inr x5))
noncomputable def mm_same_s16 (S : md_S) (x1 : Int32) (x2 : Int32) (x3 : Int32) (q : Int32 × Int32) : Option ((Int32 × Int32) ⊕ ((Int32))) :=
  mm_same_b16 S x1 x2 x3 q.1 q.2
noncomputable def mm_same_L16 (S : md_S) (x1 : Int32) (x2 : Int32) (x3 : Int32) (x5 : Int32) (x6 : Int32) : Option (Int32) :=
  (dc_it (mm_same_s16 S x1 x2 x3) (x5, x6)).bind (fun (z : Int32) => mm_same_L61 S z)
noncomputable def mm_same_L11 (S : md_S) (x1 : Int32) (x2 : Int32) (x3 : Int32) (y0 : Int32) : Option (Int32) :=
  mm_same_L16 S x1 x2 x3 y0 0
noncomputable def mm_same (S : md_S) (p1 : Int32) (p2 : Int32) (p3 : Int32) (p4 : Int32) : Option (Int32) :=
  if p2 = p4 then (mm_same_L11 S p1 p2 p3 1) else (mm_same_L11 S p1 p2 p3 0)
set_option maxHeartbeats 4000000 in
set_option maxRecDepth 100000 in
/-- same(IIII)Z -/
theorem mm_same_ok (l : Launch) (D : va_G) (ad : Nat → Nat) (de : Nat) (o : Nat) (a : Nat → Nat) (ca : Nat → ClassId) (S : md_S) (p1 : Int32) (p2 : Int32) (p3 : Int32) (p4 : Int32) (F : Int32 → Prop) (h : dc_wp (mm_same S p1 p2 p3 p4) F) : dc_Ci l ⟨"SignalEngineModel", "same", "(IIII)Z"⟩ prog_15_method_18_code 7 (some (.boolean)) 0 0 D (md_T ca) ad de [.ref o, .int p1, .int p2, .int p3, .int p4] (md_W o a ca S) (fun r w => ∃ q, F q ∧ r = q ∧ w = (md_W o a ca S)) 0 0 := by
  refine dc_enteri (by decide +kernel) (Nat.le_of_ble_eq_true rfl) ?_
  intro X hC hR
  have lab_61 : ∀ (x5 : Int32), dc_wp (mm_same_L61 S x5) F → dc_G X l { frames := 0, cells := 0, slots := 0, locals := 0 } D 7 0 0 (md_W o a ca S) 61 [(0, .ref o), (5, .int x5)] [] := by
    intro x5 h
    delta mm_same_L61 at h
    refine dc_iload (pc := 61) (i := 5) hC 1 rfl (show decode prog_15_method_18_code 61 = .ok (.iload 5, 2) by decide +kernel) ?_
    obtain ⟨hz1, h⟩ := dc_zb_wp (dc_bind h)
    exact dc_zret (pc := 63) hC hR hz1 ⟨_, dc_some h, rfl, rfl⟩ (show decode prog_15_method_18_code 63 = .ok (.ireturn, 1) by decide +kernel)
  have loop_16 : ∀ (x1 : Int32) (x2 : Int32) (x3 : Int32) (q : Int32 × Int32), dc_wp (dc_it (mm_same_s16 S x1 x2 x3) q) (fun z => dc_wp ((fun (z : Int32) => mm_same_L61 S z) z) F) → dc_G X l { frames := 0, cells := 0, slots := 0, locals := 0 } D 7 0 0 (md_W o a ca S) 16 [(0, .ref o), (1, .int x1), (2, .int x2), (3, .int x3), (5, .int q.1), (6, .int q.2)] [] := by
    intro x1 x2 x3
    refine dc_loopF ?_
    intro F_16 hl_16 hr_16
    have lab_53 : ∀ (x6 : Int32) (y0 : Int32), dc_wp (mm_same_L53 S x1 x2 x3 x6 y0) F_16 → dc_G X l { frames := 0, cells := 0, slots := 0, locals := 0 } D 7 0 0 (md_W o a ca S) 53 [(0, .ref o), (1, .int x1), (2, .int x2), (3, .int x3), (6, .int x6)] [.int y0] := by
      intro x6 y0 h
      delta mm_same_L53 at h
      refine dc_istore (pc := 53) (i := 5) (lv' := [(5, .int y0), (0, .ref o), (1, .int x1), (2, .int x2), (3, .int x3), (6, .int x6)]) hC (Nat.le_of_ble_eq_true rfl) rfl (show decode prog_15_method_18_code 53 = .ok (.istore 5, 2) by decide +kernel) ?_
      refine dc_iinc (pc := 55) (i := 6) (v := (x6 + 1)) (lv' := [(6, .int (x6 + 1)), (5, .int y0), (0, .ref o), (1, .int x1), (2, .int x2), (3, .int x3)]) hC 5 rfl rfl (Nat.le_of_ble_eq_true rfl) rfl (show decode prog_15_method_18_code 55 = .ok (.iinc 6 1, 3) by decide +kernel) ?_
      refine dc_goto (pc := 58) (tgt := 16) hC (show decode prog_15_method_18_code 58 = .ok (.goto (-42), 3) by decide +kernel) (by decide +kernel) ?_
      exact dc_sub [2, 3, 4, 5, 1, 0] rfl (hl_16 (y0, (x6 + 1)) (dc_some h))
    rintro ⟨x5, x6⟩ h
    have h : dc_wp (mm_same_b16 S x1 x2 x3 x5 x6) F_16 := h
    delta mm_same_b16 at h
    refine dc_iload (pc := 16) (i := 6) hC 5 rfl (show decode prog_15_method_18_code 16 = .ok (.iload 6, 2) by decide +kernel) ?_
    refine dc_iloadn (pc := 18) (j := 2) (i := 2) hC 2 rfl rfl (show decode prog_15_method_18_code 18 = .ok (.iload_n 2, 1) by decide +kernel) ?_
    refine dc_icmp_ge (pc := 19) (tgt := 61) hC (show decode prog_15_method_18_code 19 = .ok (.if_icmp .ge 42, 3) by decide +kernel) (by decide +kernel) h ?_ ?_
    · intro h
      refine dc_iload (pc := 22) (i := 5) hC 4 rfl (show decode prog_15_method_18_code 22 = .ok (.iload 5, 2) by decide +kernel) ?_
      refine dc_if_eq (pc := 24) (tgt := 61) hC (show decode prog_15_method_18_code 24 = .ok (.ifCond .eq 37, 3) by decide +kernel) (by decide +kernel) h ?_ ?_
      · intro h
        have h : dc_wp (mm_same_L61 S x5) F := hr_16 x5 (dc_some h)
        exact dc_sub [0, 4] rfl (lab_61 x5 h)
      · intro h
        refine dc_aloadn (pc := 27) (j := 0) (i := 0) hC 0 rfl rfl (show decode prog_15_method_18_code 27 = .ok (.aload_n 0, 1) by decide +kernel) ?_
        refine md_g1 (pc := 28) hC (show decode prog_15_method_18_code 28 = .ok (.getfield 10, 3) by decide +kernel) ?_
        refine dc_iloadn (pc := 31) (j := 1) (i := 1) hC 1 rfl rfl (show decode prog_15_method_18_code 31 = .ok (.iload_n 1, 1) by decide +kernel) ?_
        refine dc_iload (pc := 32) (i := 6) hC 5 rfl (show decode prog_15_method_18_code 32 = .ok (.iload 6, 2) by decide +kernel) ?_
        refine dc_iadd (pc := 34) hC (show decode prog_15_method_18_code 34 = .ok (.iadd, 1) by decide +kernel) ?_
        refine md_l1 (pc := 35) hC (show decode prog_15_method_18_code 35 = .ok (.baload, 1) by decide +kernel) h ?_
        intro j2 h
        refine dc_aloadn (pc := 36) (j := 0) (i := 0) hC 0 rfl rfl (show decode prog_15_method_18_code 36 = .ok (.aload_n 0, 1) by decide +kernel) ?_
        refine md_g1 (pc := 37) hC (show decode prog_15_method_18_code 37 = .ok (.getfield 10, 3) by decide +kernel) ?_
        refine dc_iloadn (pc := 40) (j := 3) (i := 3) hC 3 rfl rfl (show decode prog_15_method_18_code 40 = .ok (.iload_n 3, 1) by decide +kernel) ?_
        refine dc_iload (pc := 41) (i := 6) hC 5 rfl (show decode prog_15_method_18_code 41 = .ok (.iload 6, 2) by decide +kernel) ?_
        refine dc_iadd (pc := 43) hC (show decode prog_15_method_18_code 43 = .ok (.iadd, 1) by decide +kernel) ?_
        refine md_l1 (pc := 44) hC (show decode prog_15_method_18_code 44 = .ok (.baload, 1) by decide +kernel) h ?_
        intro j3 h
        refine dc_icmp_ne (pc := 45) (tgt := 52) hC (show decode prog_15_method_18_code 45 = .ok (.if_icmp .ne 7, 3) by decide +kernel) (by decide +kernel) h ?_ ?_
        · intro h
          refine dc_iconst (pc := 48) (v := 1) hC (show decode prog_15_method_18_code 48 = .ok (.iconst 1, 1) by decide +kernel) (by decide +kernel) ?_
          refine dc_goto (pc := 49) (tgt := 53) hC (show decode prog_15_method_18_code 49 = .ok (.goto 4, 3) by decide +kernel) (by decide +kernel) ?_
          exact dc_sub [0, 1, 2, 3, 5] rfl (lab_53 x6 1 h)
        · intro h
          refine dc_iconst (pc := 52) (v := 0) hC (show decode prog_15_method_18_code 52 = .ok (.iconst 0, 1) by decide +kernel) (by decide +kernel) ?_
          exact dc_sub [0, 1, 2, 3, 5] rfl (lab_53 x6 0 h)
    · intro h
      have h : dc_wp (mm_same_L61 S x5) F := hr_16 x5 (dc_some h)
      exact dc_sub [0, 4] rfl (lab_61 x5 h)
  have lab_16 : ∀ (x1 : Int32) (x2 : Int32) (x3 : Int32) (x5 : Int32) (x6 : Int32), dc_wp (mm_same_L16 S x1 x2 x3 x5 x6) F → dc_G X l { frames := 0, cells := 0, slots := 0, locals := 0 } D 7 0 0 (md_W o a ca S) 16 [(0, .ref o), (1, .int x1), (2, .int x2), (3, .int x3), (5, .int x5), (6, .int x6)] [] := fun x1 x2 x3 x5 x6 h => loop_16 x1 x2 x3 (x5, x6) (dc_bind h)
  have lab_11 : ∀ (x1 : Int32) (x2 : Int32) (x3 : Int32) (y0 : Int32), dc_wp (mm_same_L11 S x1 x2 x3 y0) F → dc_G X l { frames := 0, cells := 0, slots := 0, locals := 0 } D 7 0 0 (md_W o a ca S) 11 [(0, .ref o), (1, .int x1), (2, .int x2), (3, .int x3)] [.int y0] := by
    intro x1 x2 x3 y0 h
    delta mm_same_L11 at h
    refine dc_istore (pc := 11) (i := 5) (lv' := [(5, .int y0), (0, .ref o), (1, .int x1), (2, .int x2), (3, .int x3)]) hC (Nat.le_of_ble_eq_true rfl) rfl (show decode prog_15_method_18_code 11 = .ok (.istore 5, 2) by decide +kernel) ?_
    refine dc_iconst (pc := 13) (v := 0) hC (show decode prog_15_method_18_code 13 = .ok (.iconst 0, 1) by decide +kernel) (by decide +kernel) ?_
    refine dc_istore (pc := 14) (i := 6) (lv' := [(6, .int 0), (5, .int y0), (0, .ref o), (1, .int x1), (2, .int x2), (3, .int x3)]) hC (Nat.le_of_ble_eq_true rfl) rfl (show decode prog_15_method_18_code 14 = .ok (.istore 6, 2) by decide +kernel) ?_
    exact dc_sub [2, 3, 4, 5, 1, 0] rfl (lab_16 x1 x2 x3 y0 0 h)
  show dc_G X l { frames := 0, cells := 0, slots := 0, locals := 0 } D 7 0 0 (md_W o a ca S) 0 [(0, .ref o), (1, .int p1), (2, .int p2), (3, .int p3), (4, .int p4)] []
  delta mm_same at h
  refine dc_iloadn (pc := 0) (j := 2) (i := 2) hC 2 rfl rfl (show decode prog_15_method_18_code 0 = .ok (.iload_n 2, 1) by decide +kernel) ?_
  refine dc_iload (pc := 1) (i := 4) hC 4 rfl (show decode prog_15_method_18_code 1 = .ok (.iload 4, 2) by decide +kernel) ?_
  refine dc_icmp_ne (pc := 3) (tgt := 10) hC (show decode prog_15_method_18_code 3 = .ok (.if_icmp .ne 7, 3) by decide +kernel) (by decide +kernel) h ?_ ?_
  · intro h
    refine dc_iconst (pc := 6) (v := 1) hC (show decode prog_15_method_18_code 6 = .ok (.iconst 1, 1) by decide +kernel) (by decide +kernel) ?_
    refine dc_goto (pc := 7) (tgt := 11) hC (show decode prog_15_method_18_code 7 = .ok (.goto 4, 3) by decide +kernel) (by decide +kernel) ?_
    exact dc_sub [0, 1, 2, 3] rfl (lab_11 p1 p2 p3 1 h)
  · intro h
    refine dc_iconst (pc := 10) (v := 0) hC (show decode prog_15_method_18_code 10 = .ok (.iconst 0, 1) by decide +kernel) (by decide +kernel) ?_
    exact dc_sub [0, 1, 2, 3] rfl (lab_11 p1 p2 p3 0 h)
noncomputable def mm_signal_L59 (S : md_S) : Option (Int32) :=
  some (-1)
noncomputable def mm_signal_L51 (S : md_S) (x3 : Int32) : Option (Int32) :=
  some x3
noncomputable def mm_signal_b7 (S : md_S) (x1 : Int32) (x2 : Int32) : Option ((Int32) ⊕ ((Int32) ⊕ (Unit))) :=
  if x2 < x1 then (some (.inr (.inr ()))) else ((dc_ix x2 16400).bind fun j1 => dc_let ((S.2.1 23 j1) : Int32) fun v2 => (dc_ix v2 16400).bind fun j3 => (dc_ix v2 16400).bind fun j4 => (mm_same S (S.2.1 21 j3) (S.2.1 22 j4) (S.1 7) ((S.1 4) - (S.1 7))).bind fun q5 => if q5 = 0 then (some (.inl (x2 + (-1)))) else (some (.inr (.inl v2))))
noncomputable def mm_signal_s7 (S : md_S) (x1 : Int32) (q : Int32) : Option ((Int32) ⊕ ((Int32) ⊕ (Unit))) :=
  mm_signal_b7 S x1 q
noncomputable def mm_signal_L7 (S : md_S) (x1 : Int32) (x2 : Int32) : Option (Int32) :=
  (dc_it (mm_signal_s7 S x1) x2).bind (Sum.elim (fun (z : Int32) => mm_signal_L51 S z) (fun (z : Unit) => mm_signal_L59 S))
noncomputable def mm_signal (S : md_S) (p1 : Int32) : Option (Int32) :=
  dc_let (((S.1 18) - 1) : Int32) fun v6 => mm_signal_L7 S p1 v6
set_option maxHeartbeats 4000000 in
set_option maxRecDepth 100000 in
/-- signal(I)I -/
theorem mm_signal_ok (l : Launch) (D : va_G) (ad : Nat → Nat) (de : Nat) (o : Nat) (a : Nat → Nat) (ca : Nat → ClassId) (S : md_S) (p1 : Int32) (F : Int32 → Prop) (h : dc_wp (mm_signal S p1) F) : dc_Ci l ⟨"SignalEngineModel", "signal", "(I)I"⟩ prog_15_method_19_code 4 (some (.int)) 1 26 D (md_T ca) ad de [.ref o, .int p1] (md_W o a ca S) (fun r w => ∃ q, F q ∧ r = q ∧ w = (md_W o a ca S)) 0 0 := by
  refine dc_enteri (by decide +kernel) (Nat.le_of_ble_eq_true rfl) ?_
  intro X hC hR
  have lab_59 : dc_wp (mm_signal_L59 S) F → dc_G X l { frames := 1, cells := 0, slots := 0, locals := 26 } D 4 0 0 (md_W o a ca S) 59 [(0, .ref o)] [] := by
    intro  h
    delta mm_signal_L59 at h
    refine dc_iconst (pc := 59) (v := (-1)) hC (show decode prog_15_method_19_code 59 = .ok (.iconst (-1), 1) by decide +kernel) (by decide +kernel) ?_
    exact dc_iret (pc := 60) hC hR ⟨_, dc_some h, rfl, rfl⟩ (show decode prog_15_method_19_code 60 = .ok (.ireturn, 1) by decide +kernel)
  have lab_51 : ∀ (x3 : Int32), dc_wp (mm_signal_L51 S x3) F → dc_G X l { frames := 1, cells := 0, slots := 0, locals := 26 } D 4 0 0 (md_W o a ca S) 51 [(0, .ref o), (3, .int x3)] [] := by
    intro x3 h
    delta mm_signal_L51 at h
    refine dc_iloadn (pc := 51) (j := 3) (i := 3) hC 1 rfl rfl (show decode prog_15_method_19_code 51 = .ok (.iload_n 3, 1) by decide +kernel) ?_
    exact dc_iret (pc := 52) hC hR ⟨_, dc_some h, rfl, rfl⟩ (show decode prog_15_method_19_code 52 = .ok (.ireturn, 1) by decide +kernel)
  have loop_7 : ∀ (x1 : Int32) (q : Int32), dc_wp (dc_it (mm_signal_s7 S x1) q) (fun z => dc_wp ((Sum.elim (fun (z : Int32) => mm_signal_L51 S z) (fun (z : Unit) => mm_signal_L59 S)) z) F) → dc_G X l { frames := 1, cells := 0, slots := 0, locals := 26 } D 4 0 0 (md_W o a ca S) 7 [(0, .ref o), (1, .int x1), (2, .int q)] [] := by
    intro x1
    refine dc_loopF ?_
    intro F_7 hl_7 hr_7
    rintro x2 h
    have h : dc_wp (mm_signal_b7 S x1 x2) F_7 := h
    delta mm_signal_b7 at h
    refine dc_iloadn (pc := 7) (j := 2) (i := 2) hC 2 rfl rfl (show decode prog_15_method_19_code 7 = .ok (.iload_n 2, 1) by decide +kernel) ?_
    refine dc_iloadn (pc := 8) (j := 1) (i := 1) hC 1 rfl rfl (show decode prog_15_method_19_code 8 = .ok (.iload_n 1, 1) by decide +kernel) ?_
    refine dc_icmp_lt (pc := 9) (tgt := 59) hC (show decode prog_15_method_19_code 9 = .ok (.if_icmp .lt 50, 3) by decide +kernel) (by decide +kernel) h ?_ ?_
    · intro h
      have h : dc_wp (mm_signal_L59 S) F := hr_7 (.inr ()) (dc_some h)
      exact dc_sub [0] rfl (lab_59 h)
    · intro h
      refine dc_aloadn (pc := 12) (j := 0) (i := 0) hC 0 rfl rfl (show decode prog_15_method_19_code 12 = .ok (.aload_n 0, 1) by decide +kernel) ?_
      refine md_g23 (pc := 13) hC (show decode prog_15_method_19_code 13 = .ok (.getfield 21, 3) by decide +kernel) ?_
      refine dc_iloadn (pc := 16) (j := 2) (i := 2) hC 2 rfl rfl (show decode prog_15_method_19_code 16 = .ok (.iload_n 2, 1) by decide +kernel) ?_
      refine md_l23 (pc := 17) hC (show decode prog_15_method_19_code 17 = .ok (.iaload, 1) by decide +kernel) h ?_
      intro j1 h
      refine dc_letI h ?_
      intro v2 h
      refine dc_istoren (pc := 18) (j := 3) (i := 3) (lv' := [(3, .int v2), (0, .ref o), (1, .int x1), (2, .int x2)]) hC rfl (Nat.le_of_ble_eq_true rfl) rfl (show decode prog_15_method_19_code 18 = .ok (.istore_n 3, 1) by decide +kernel) ?_
      refine dc_aloadn (pc := 19) (j := 0) (i := 0) hC 1 rfl rfl (show decode prog_15_method_19_code 19 = .ok (.aload_n 0, 1) by decide +kernel) ?_
      refine dc_aloadn (pc := 20) (j := 0) (i := 0) hC 1 rfl rfl (show decode prog_15_method_19_code 20 = .ok (.aload_n 0, 1) by decide +kernel) ?_
      refine md_g21 (pc := 21) hC (show decode prog_15_method_19_code 21 = .ok (.getfield 14, 3) by decide +kernel) ?_
      refine dc_iloadn (pc := 24) (j := 3) (i := 3) hC 0 rfl rfl (show decode prog_15_method_19_code 24 = .ok (.iload_n 3, 1) by decide +kernel) ?_
      refine md_l21 (pc := 25) hC (show decode prog_15_method_19_code 25 = .ok (.iaload, 1) by decide +kernel) h ?_
      intro j3 h
      refine dc_aloadn (pc := 26) (j := 0) (i := 0) hC 1 rfl rfl (show decode prog_15_method_19_code 26 = .ok (.aload_n 0, 1) by decide +kernel) ?_
      refine md_g22 (pc := 27) hC (show decode prog_15_method_19_code 27 = .ok (.getfield 18, 3) by decide +kernel) ?_
      refine dc_iloadn (pc := 30) (j := 3) (i := 3) hC 0 rfl rfl (show decode prog_15_method_19_code 30 = .ok (.iload_n 3, 1) by decide +kernel) ?_
      refine md_l22 (pc := 31) hC (show decode prog_15_method_19_code 31 = .ok (.iaload, 1) by decide +kernel) h ?_
      intro j4 h
      refine dc_aloadn (pc := 32) (j := 0) (i := 0) hC 1 rfl rfl (show decode prog_15_method_19_code 32 = .ok (.aload_n 0, 1) by decide +kernel) ?_
      refine md_g7 (pc := 33) hC (show decode prog_15_method_19_code 33 = .ok (.getfield 234, 3) by decide +kernel) ?_
      refine dc_aloadn (pc := 36) (j := 0) (i := 0) hC 1 rfl rfl (show decode prog_15_method_19_code 36 = .ok (.aload_n 0, 1) by decide +kernel) ?_
      refine md_g4 (pc := 37) hC (show decode prog_15_method_19_code 37 = .ok (.getfield 224, 3) by decide +kernel) ?_
      refine dc_aloadn (pc := 40) (j := 0) (i := 0) hC 1 rfl rfl (show decode prog_15_method_19_code 40 = .ok (.aload_n 0, 1) by decide +kernel) ?_
      refine md_g7 (pc := 41) hC (show decode prog_15_method_19_code 41 = .ok (.getfield 234, 3) by decide +kernel) ?_
      refine dc_isub (pc := 44) hC (show decode prog_15_method_19_code 44 = .ok (.isub, 1) by decide +kernel) ?_
      refine mc_Vpi (pc := 45) (As := [.int (S.2.1 21 j3), .int (S.2.1 22 j4), .int (S.1 7), .int ((S.1 4) - (S.1 7))]) (rest := []) hC vw_same_330 (mm_same_ok l D ad de o a ca S (S.2.1 21 j3) (S.2.1 22 j4) (S.1 7) ((S.1 4) - (S.1 7))) (Nat.le_of_ble_eq_true rfl) (Nat.le_of_ble_eq_true rfl) rfl (Nat.le_of_ble_eq_true rfl) (show decode prog_15_method_19_code 45 = .ok (.invokevirtual 330, 3) by decide +kernel) h ?_
      intro q5 h
      refine dc_if_eq (pc := 48) (tgt := 53) hC (show decode prog_15_method_19_code 48 = .ok (.ifCond .eq 5, 3) by decide +kernel) (by decide +kernel) h ?_ ?_
      · intro h
        refine dc_iinc (pc := 53) (i := 2) (v := (x2 + (-1))) (lv' := [(2, .int (x2 + (-1))), (3, .int v2), (0, .ref o), (1, .int x1)]) hC 3 rfl (congrArg (fun z => x2 + z) (show Int32.ofInt (-1) = (-1 : Int32) by decide +kernel)) (Nat.le_of_ble_eq_true rfl) rfl (show decode prog_15_method_19_code 53 = .ok (.iinc 2 (-1), 3) by decide +kernel) ?_
        refine dc_goto (pc := 56) (tgt := 7) hC (show decode prog_15_method_19_code 56 = .ok (.goto (-49), 3) by decide +kernel) (by decide +kernel) ?_
        exact dc_sub [2, 3, 0] rfl (hl_7 (x2 + (-1)) (dc_some h))
      · intro h
        have h : dc_wp (mm_signal_L51 S v2) F := hr_7 (.inl v2) (dc_some h)
        exact dc_sub [1, 0] rfl (lab_51 v2 h)
  have lab_7 : ∀ (x1 : Int32) (x2 : Int32), dc_wp (mm_signal_L7 S x1 x2) F → dc_G X l { frames := 1, cells := 0, slots := 0, locals := 26 } D 4 0 0 (md_W o a ca S) 7 [(0, .ref o), (1, .int x1), (2, .int x2)] [] := fun x1 x2 h => loop_7 x1 x2 (dc_bind h)
  show dc_G X l { frames := 1, cells := 0, slots := 0, locals := 26 } D 4 0 0 (md_W o a ca S) 0 [(0, .ref o), (1, .int p1)] []
  delta mm_signal at h
  refine dc_aloadn (pc := 0) (j := 0) (i := 0) hC 0 rfl rfl (show decode prog_15_method_19_code 0 = .ok (.aload_n 0, 1) by decide +kernel) ?_
  refine md_g18 (pc := 1) hC (show decode prog_15_method_19_code 1 = .ok (.getfield 327, 3) by decide +kernel) ?_
  refine dc_iconst (pc := 4) (v := 1) hC (show decode prog_15_method_19_code 4 = .ok (.iconst 1, 1) by decide +kernel) (by decide +kernel) ?_
  refine dc_isub (pc := 5) hC (show decode prog_15_method_19_code 5 = .ok (.isub, 1) by decide +kernel) ?_
  refine dc_letI h ?_
  intro v6 h
  refine dc_istoren (pc := 6) (j := 2) (i := 2) (lv' := [(2, .int v6), (0, .ref o), (1, .int p1)]) hC rfl (Nat.le_of_ble_eq_true rfl) rfl (show decode prog_15_method_19_code 6 = .ok (.istore_n 2, 1) by decide +kernel) ?_
  exact dc_sub [1, 2, 0] rfl (lab_7 p1 v6 h)
