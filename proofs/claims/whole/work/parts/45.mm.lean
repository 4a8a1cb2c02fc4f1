noncomputable def mm_isSign_L23 (S : md_S) (y0 : Int32) : Option (Int32) :=
  (dc_zb y0).bind fun _ => some y0
noncomputable def mm_isSign_L22 (S : md_S) : Option (Int32) :=
  mm_isSign_L23 S 0
noncomputable def mm_isSign (S : md_S) (p1 : Int32) : Option (Int32) :=
  if (S.1 6) = 2 then (if (dc_cmp S.2.2.1 (Int32.toInt64 p1)) = 0 then (mm_isSign_L23 S 1) else (mm_isSign_L22 S)) else (mm_isSign_L22 S)
set_option maxHeartbeats 4000000 in
set_option maxRecDepth 100000 in
/-- isSign(I)Z -/
theorem mm_isSign_ok (l : Launch) (D : va_G) (ad : Nat → Nat) (de : Nat) (o : Nat) (a : Nat → Nat) (ca : Nat → ClassId) (S : md_S) (p1 : Int32) (F : Int32 → Prop) (h : dc_wp (mm_isSign S p1) F) : dc_Ci l ⟨"SignalEngineModel", "isSign", "(I)Z"⟩ prog_15_method_12_code 2 (some (.boolean)) 0 0 D (md_T ca) ad de [.ref o, .int p1] (md_W o a ca S) (fun r w => ∃ q, F q ∧ r = q ∧ w = (md_W o a ca S)) 0 0 := by
  refine dc_enteri (by decide +kernel) (Nat.le_of_ble_eq_true rfl) ?_
  intro X hC hR
  have lab_23 : ∀ (y0 : Int32), dc_wp (mm_isSign_L23 S y0) F → dc_G X l { frames := 0, cells := 0, slots := 0, locals := 0 } D 2 0 0 (md_W o a ca S) 23 [(0, .ref o)] [.int y0] := by
    intro y0 h
    delta mm_isSign_L23 at h
    obtain ⟨hz1, h⟩ := dc_zb_wp (dc_bind h)
    exact dc_zret (pc := 23) hC hR hz1 ⟨_, dc_some h, rfl, rfl⟩ (show decode prog_15_method_12_code 23 = .ok (.ireturn, 1) by decide +kernel)
  have lab_22 : dc_wp (mm_isSign_L22 S) F → dc_G X l { frames := 0, cells := 0, slots := 0, locals := 0 } D 2 0 0 (md_W o a ca S) 22 [(0, .ref o)] [] := by
    intro  h
    delta mm_isSign_L22 at h
    refine dc_iconst (pc := 22) (v := 0) hC (show decode prog_15_method_12_code 22 = .ok (.iconst 0, 1) by decide +kernel) (by decide +kernel) ?_
    exact lab_23 0 h
  show dc_G X l { frames := 0, cells := 0, slots := 0, locals := 0 } D 2 0 0 (md_W o a ca S) 0 [(0, .ref o), (1, .int p1)] []
  delta mm_isSign at h
  refine dc_aloadn (pc := 0) (j := 0) (i := 0) hC 0 rfl rfl (show decode prog_15_method_12_code 0 = .ok (.aload_n 0, 1) by decide +kernel) ?_
  refine md_g6 (pc := 1) hC (show decode prog_15_method_12_code 1 = .ok (.getfield 240, 3) by decide +kernel) ?_
  refine dc_iconst (pc := 4) (v := 2) hC (show decode prog_15_method_12_code 4 = .ok (.iconst 2, 1) by decide +kernel) (by decide +kernel) ?_
  refine dc_icmp_ne (pc := 5) (tgt := 22) hC (show decode prog_15_method_12_code 5 = .ok (.if_icmp .ne 17, 3) by decide +kernel) (by decide +kernel) h ?_ ?_
  · intro h
    refine dc_aloadn (pc := 8) (j := 0) (i := 0) hC 0 rfl rfl (show decode prog_15_method_12_code 8 = .ok (.aload_n 0, 1) by decide +kernel) ?_
    refine md_g9 (pc := 9) hC (show decode prog_15_method_12_code 9 = .ok (.getfield 243, 3) by decide +kernel) ?_
    refine dc_iloadn (pc := 12) (j := 1) (i := 1) hC 1 rfl rfl (show decode prog_15_method_12_code 12 = .ok (.iload_n 1, 1) by decide +kernel) ?_
    refine dc_i2l (pc := 13) hC (show decode prog_15_method_12_code 13 = .ok (.i2l, 1) by decide +kernel) ?_
    refine dc_lcmp (pc := 14) hC (show decode prog_15_method_12_code 14 = .ok (.lcmp, 1) by decide +kernel) ?_
    refine dc_if_ne (pc := 15) (tgt := 22) hC (show decode prog_15_method_12_code 15 = .ok (.ifCond .ne 7, 3) by decide +kernel) (by decide +kernel) h ?_ ?_
    · intro h
      refine dc_iconst (pc := 18) (v := 1) hC (show decode prog_15_method_12_code 18 = .ok (.iconst 1, 1) by decide +kernel) (by decide +kernel) ?_
      refine dc_goto (pc := 19) (tgt := 23) hC (show decode prog_15_method_12_code 19 = .ok (.goto 4, 3) by decide +kernel) (by decide +kernel) ?_
      exact dc_sub [0] rfl (lab_23 1 h)
    · intro h
      exact dc_sub [0] rfl (lab_22 h)
  · intro h
    exact dc_sub [0] rfl (lab_22 h)
noncomputable def mm_meetsSign_L15 (S : md_S) : Option (md_S × Int32) :=
  some (S, 0)
noncomputable def mm_meetsSign (S : md_S) (p1 : Int32) : Option (md_S × Int32) :=
  if (0 : Int32) < (S.1 10) then (mm_meetsSign_L15 S) else ((mm_isSign S p1).bind fun q1 => if q1 = 0 then (mm_meetsSign_L15 S) else ((mm_advance S).bind fun q2 => some (q2, 1)))
set_option maxHeartbeats 4000000 in
set_option maxRecDepth 100000 in
/-- meetsSign(I)Z -/
theorem mm_meetsSign_ok (l : Launch) (D : va_G) (ad : Nat → Nat) (de : Nat) (o : Nat) (a : Nat → Nat) (ca : Nat → ClassId) (S : md_S) (p1 : Int32) (F : (md_S × Int32) → Prop) (h : dc_wp (mm_meetsSign S p1) F) : dc_Ci l ⟨"SignalEngineModel", "meetsSign", "(I)Z"⟩ prog_15_method_14_code 2 (some (.boolean)) 3 62 D (md_T ca) ad de [.ref o, .int p1] (md_W o a ca S) (fun r w => ∃ q, F q ∧ r = q.2 ∧ w = md_W o a ca q.1) 0 0 := by
  refine dc_enteri (by decide +kernel) (Nat.le_of_ble_eq_true rfl) ?_
  intro X hC hR
  have lab_15 : ∀ (S : md_S), dc_wp (mm_meetsSign_L15 S) F → dc_G X l { frames := 3, cells := 0, slots := 0, locals := 62 } D 2 0 0 (md_W o a ca S) 15 [(0, .ref o)] [] := by
    intro S  h
    delta mm_meetsSign_L15 at h
    refine dc_iconst (pc := 15) (v := 0) hC (show decode prog_15_method_14_code 15 = .ok (.iconst 0, 1) by decide +kernel) (by decide +kernel) ?_
    exact dc_zret (pc := 16) hC hR (Or.inl rfl) ⟨_, dc_some h, rfl, rfl⟩ (show decode prog_15_method_14_code 16 = .ok (.ireturn, 1) by decide +kernel)
  show dc_G X l { frames := 3, cells := 0, slots := 0, locals := 62 } D 2 0 0 (md_W o a ca S) 0 [(0, .ref o), (1, .int p1)] []
  delta mm_meetsSign at h
  refine dc_aloadn (pc := 0) (j := 0) (i := 0) hC 0 rfl rfl (show decode prog_15_method_14_code 0 = .ok (.aload_n 0, 1) by decide +kernel) ?_
  refine md_g10 (pc := 1) hC (show decode prog_15_method_14_code 1 = .ok (.getfield 221, 3) by decide +kernel) ?_
  refine dc_if_gt (pc := 4) (tgt := 15) hC (show decode prog_15_method_14_code 4 = .ok (.ifCond .gt 11, 3) by decide +kernel) (by decide +kernel) h ?_ ?_
  · intro h
    exact dc_sub [0] rfl (lab_15 S h)
  · intro h
    refine dc_aloadn (pc := 7) (j := 0) (i := 0) hC 0 rfl rfl (show decode prog_15_method_14_code 7 = .ok (.aload_n 0, 1) by decide +kernel) ?_
    refine dc_iloadn (pc := 8) (j := 1) (i := 1) hC 1 rfl rfl (show decode prog_15_method_14_code 8 = .ok (.iload_n 1, 1) by decide +kernel) ?_
    refine mc_Vpi (pc := 9) (As := [.int p1]) (rest := []) hC vw_isSign_261 (mm_isSign_ok l D ad de o a ca S p1) (Nat.le_of_ble_eq_true rfl) (Nat.le_of_ble_eq_true rfl) rfl (Nat.le_of_ble_eq_true rfl) (show decode prog_15_method_14_code 9 = .ok (.invokevirtual 261, 3) by decide +kernel) h ?_
    intro q1 h
    refine dc_if_ne (pc := 12) (tgt := 17) hC (show decode prog_15_method_14_code 12 = .ok (.ifCond .ne 5, 3) by decide +kernel) (by decide +kernel) h ?_ ?_
    · intro h
      exact dc_sub [0] rfl (lab_15 S h)
    · intro h
      refine dc_aloadn (pc := 17) (j := 0) (i := 0) hC 0 rfl rfl (show decode prog_15_method_14_code 17 = .ok (.aload_n 0, 1) by decide +kernel) ?_
      refine mc_Vmv (pc := 18) (As := []) (rest := []) hC vw_advance_258 (mm_advance_ok l D ad de o a ca S) (Nat.le_of_ble_eq_true rfl) (Nat.le_of_ble_eq_true rfl) rfl (Nat.le_of_ble_eq_true rfl) (show decode prog_15_method_14_code 18 = .ok (.invokevirtual 258, 3) by decide +kernel) h ?_
      intro q2 h
      refine dc_iconst (pc := 21) (v := 1) hC (show decode prog_15_method_14_code 21 = .ok (.iconst 1, 1) by decide +kernel) (by decide +kernel) ?_
      exact dc_zret (pc := 22) hC hR (Or.inr rfl) ⟨_, dc_some h, rfl, rfl⟩ (show decode prog_15_method_14_code 22 = .ok (.ireturn, 1) by decide +kernel)
noncomputable def mm_list_L136 (S : md_S) : Option (md_S) :=
  some S
noncomputable def mm_list_L57 (S : md_S) : Option (md_S) :=
  some S
noncomputable def mm_list_L50 (S : md_S) (x1 : Int32) : Option ((md_S × Int32) ⊕ ((md_S) ⊕ (md_S))) :=
  if (0 : Int32) < (S.1 10) then (some (.inr (.inl S))) else ((dc_ix (S.1 15) 16400).bind fun j1 => dc_let (md_a S 21 j1 (S.1 7)) fun S2 => (dc_ix (S2.1 15) 16400).bind fun j3 => dc_let (md_a S2 22 j3 ((S2.1 4) - (S2.1 7))) fun S4 => (dc_ix (S4.1 18) 16400).bind fun j5 => dc_let (md_a S4 23 j5 (S4.1 15)) fun S6 => dc_let (md_i S6 18 ((S6.1 18) + 1)) fun S7 => dc_let (md_i S7 15 ((S7.1 15) + 1)) fun S8 => (mm_advance S8).bind fun q9 => (mm_meetsSign q9 44).bind fun q10 => some (.inl (q10.1, q10.2)))
noncomputable def mm_list_b2 (S : md_S) (x1 : Int32) (x2 : Int32) : Option ((md_S × Int32) ⊕ ((md_S) ⊕ (md_S))) :=
  if x2 = 0 then (some (.inr (.inr S))) else (if (S.1 10) = 0 then ((mm_isName S).bind fun q11 => if q11 = 0 then ((mm_fail S 1 (S.1 8)).bind fun q12 => mm_list_L50 q12 x1) else ((mm_signal S x1).bind fun q13 => if q13 = (-1) then (mm_list_L50 S x1) else ((mm_fail S 3 (S.1 8)).bind fun q14 => mm_list_L50 q14 x1))) else (some (.inr (.inr S))))
noncomputable def mm_list_s2 (x1 : Int32) (q : md_S × Int32) : Option ((md_S × Int32) ⊕ ((md_S) ⊕ (md_S))) :=
  mm_list_b2 q.1 x1 q.2
noncomputable def mm_list_L2 (S : md_S) (x1 : Int32) (x2 : Int32) : Option (md_S) :=
  (dc_it (mm_list_s2 x1) (S, x2)).bind (Sum.elim (fun (z : md_S) => mm_list_L57 z) (fun (z : md_S) => mm_list_L136 z))
noncomputable def mm_list (S : md_S) (p1 : Int32) : Option (md_S) :=
  mm_list_L2 S p1 1
set_option maxHeartbeats 4000000 in
set_option maxRecDepth 100000 in
/-- list(I)V -/
theorem mm_list_ok (l : Launch) (D : va_G) (ad : Nat → Nat) (de : Nat) (o : Nat) (a : Nat → Nat) (ca : Nat → ClassId) (S : md_S) (p1 : Int32) (F : md_S → Prop) (h : dc_wp (mm_list S p1) F) : dc_Cv l ⟨"SignalEngineModel", "list", "(I)V"⟩ prog_15_method_21_code 3 none 4 83 D (md_T ca) ad de [.ref o, .int p1] (md_W o a ca S) (fun w => ∃ q, F q ∧ w = md_W o a ca q) 0 0 := by
  refine dc_enterv (by decide +kernel) (Nat.le_of_ble_eq_true rfl) ?_
  intro X hC hR
  have lab_136 : ∀ (S : md_S), dc_wp (mm_list_L136 S) F → dc_G X l { frames := 4, cells := 0, slots := 0, locals := 83 } D 3 0 0 (md_W o a ca S) 136 [(0, .ref o)] [] := by
    intro S  h
    delta mm_list_L136 at h
    exact dc_vret (pc := 136) hC hR ⟨_, dc_some h, rfl⟩ (show decode prog_15_method_21_code 136 = .ok (.return_, 1) by decide +kernel)
  have lab_57 : ∀ (S : md_S), dc_wp (mm_list_L57 S) F → dc_G X l { frames := 4, cells := 0, slots := 0, locals := 83 } D 3 0 0 (md_W o a ca S) 57 [(0, .ref o)] [] := by
    intro S  h
    delta mm_list_L57 at h
    exact dc_vret (pc := 57) hC hR ⟨_, dc_some h, rfl⟩ (show decode prog_15_method_21_code 57 = .ok (.return_, 1) by decide +kernel)
  have loop_2 : ∀ (x1 : Int32) (q : md_S × Int32), dc_wp (dc_it (mm_list_s2 x1) q) (fun z => dc_wp ((Sum.elim (fun (z : md_S) => mm_list_L57 z) (fun (z : md_S) => mm_list_L136 z)) z) F) → dc_G X l { frames := 4, cells := 0, slots := 0, locals := 83 } D 3 0 0 (md_W o a ca q.1) 2 [(0, .ref o), (1, .int x1), (2, .int q.2)] [] := by
    intro x1
    refine dc_loopF ?_
    intro F_2 hl_2 hr_2
    have lab_50 : ∀ (S : md_S), dc_wp (mm_list_L50 S x1) F_2 → dc_G X l { frames := 4, cells := 0, slots := 0, locals := 83 } D 3 0 0 (md_W o a ca S) 50 [(0, .ref o), (1, .int x1)] [] := by
      intro S  h
      delta mm_list_L50 at h
      refine dc_aloadn (pc := 50) (j := 0) (i := 0) hC 0 rfl rfl (show decode prog_15_method_21_code 50 = .ok (.aload_n 0, 1) by decide +kernel) ?_
      refine md_g10 (pc := 51) hC (show decode prog_15_method_21_code 51 = .ok (.getfield 221, 3) by decide +kernel) ?_
      refine dc_if_le (pc := 54) (tgt := 58) hC (show decode prog_15_method_21_code 54 = .ok (.ifCond .le 4, 3) by decide +kernel) (by decide +kernel) h ?_ ?_
      · intro h
        have h : dc_wp (mm_list_L57 S) F := hr_2 (.inl S) (dc_some h)
        exact dc_sub [0] rfl (lab_57 S h)
      · intro h
        refine dc_aloadn (pc := 58) (j := 0) (i := 0) hC 0 rfl rfl (show decode prog_15_method_21_code 58 = .ok (.aload_n 0, 1) by decide +kernel) ?_
        refine md_g21 (pc := 59) hC (show decode prog_15_method_21_code 59 = .ok (.getfield 14, 3) by decide +kernel) ?_
        refine dc_aloadn (pc := 62) (j := 0) (i := 0) hC 0 rfl rfl (show decode prog_15_method_21_code 62 = .ok (.aload_n 0, 1) by decide +kernel) ?_
        refine md_g15 (pc := 63) hC (show decode prog_15_method_21_code 63 = .ok (.getfield 343, 3) by decide +kernel) ?_
        refine dc_aloadn (pc := 66) (j := 0) (i := 0) hC 0 rfl rfl (show decode prog_15_method_21_code 66 = .ok (.aload_n 0, 1) by decide +kernel) ?_
        refine md_g7 (pc := 67) hC (show decode prog_15_method_21_code 67 = .ok (.getfield 234, 3) by decide +kernel) ?_
        refine md_s21 (pc := 70) hC (show decode prog_15_method_21_code 70 = .ok (.iastore, 1) by decide +kernel) h ?_
        intro j1 h
        refine dc_letS h ?_
        intro S2 h
        refine dc_aloadn (pc := 71) (j := 0) (i := 0) hC 0 rfl rfl (show decode prog_15_method_21_code 71 = .ok (.aload_n 0, 1) by decide +kernel) ?_
        refine md_g22 (pc := 72) hC (show decode prog_15_method_21_code 72 = .ok (.getfield 18, 3) by decide +kernel) ?_
        refine dc_aloadn (pc := 75) (j := 0) (i := 0) hC 0 rfl rfl (show decode prog_15_method_21_code 75 = .ok (.aload_n 0, 1) by decide +kernel) ?_
        refine md_g15 (pc := 76) hC (show decode prog_15_method_21_code 76 = .ok (.getfield 343, 3) by decide +kernel) ?_
        refine dc_aloadn (pc := 79) (j := 0) (i := 0) hC 0 rfl rfl (show decode prog_15_method_21_code 79 = .ok (.aload_n 0, 1) by decide +kernel) ?_
        refine md_g4 (pc := 80) hC (show decode prog_15_method_21_code 80 = .ok (.getfield 224, 3) by decide +kernel) ?_
        refine dc_aloadn (pc := 83) (j := 0) (i := 0) hC 0 rfl rfl (show decode prog_15_method_21_code 83 = .ok (.aload_n 0, 1) by decide +kernel) ?_
        refine md_g7 (pc := 84) hC (show decode prog_15_method_21_code 84 = .ok (.getfield 234, 3) by decide +kernel) ?_
        refine dc_isub (pc := 87) hC (show decode prog_15_method_21_code 87 = .ok (.isub, 1) by decide +kernel) ?_
        refine md_s22 (pc := 88) hC (show decode prog_15_method_21_code 88 = .ok (.iastore, 1) by decide +kernel) h ?_
        intro j3 h
        refine dc_letS h ?_
        intro S4 h
        refine dc_aloadn (pc := 89) (j := 0) (i := 0) hC 0 rfl rfl (show decode prog_15_method_21_code 89 = .ok (.aload_n 0, 1) by decide +kernel) ?_
        refine md_g23 (pc := 90) hC (show decode prog_15_method_21_code 90 = .ok (.getfield 21, 3) by decide +kernel) ?_
        refine dc_aloadn (pc := 93) (j := 0) (i := 0) hC 0 rfl rfl (show decode prog_15_method_21_code 93 = .ok (.aload_n 0, 1) by decide +kernel) ?_
        refine md_g18 (pc := 94) hC (show decode prog_15_method_21_code 94 = .ok (.getfield 327, 3) by decide +kernel) ?_
        refine dc_aloadn (pc := 97) (j := 0) (i := 0) hC 0 rfl rfl (show decode prog_15_method_21_code 97 = .ok (.aload_n 0, 1) by decide +kernel) ?_
        refine md_g15 (pc := 98) hC (show decode prog_15_method_21_code 98 = .ok (.getfield 343, 3) by decide +kernel) ?_
        refine md_s23 (pc := 101) hC (show decode prog_15_method_21_code 101 = .ok (.iastore, 1) by decide +kernel) h ?_
        intro j5 h
        refine dc_letS h ?_
        intro S6 h
        refine dc_aloadn (pc := 102) (j := 0) (i := 0) hC 0 rfl rfl (show decode prog_15_method_21_code 102 = .ok (.aload_n 0, 1) by decide +kernel) ?_
        refine dc_dup (pc := 103) hC (show decode prog_15_method_21_code 103 = .ok (.dup, 1) by decide +kernel) rfl ?_
        refine md_g18 (pc := 104) hC (show decode prog_15_method_21_code 104 = .ok (.getfield 327, 3) by decide +kernel) ?_
        refine dc_iconst (pc := 107) (v := 1) hC (show decode prog_15_method_21_code 107 = .ok (.iconst 1, 1) by decide +kernel) (by decide +kernel) ?_
        refine dc_iadd (pc := 108) hC (show decode prog_15_method_21_code 108 = .ok (.iadd, 1) by decide +kernel) ?_
        refine md_p18 (pc := 109) hC (show decode prog_15_method_21_code 109 = .ok (.putfield 327, 3) by decide +kernel) ?_
        refine dc_letS h ?_
        intro S7 h
        refine dc_aloadn (pc := 112) (j := 0) (i := 0) hC 0 rfl rfl (show decode prog_15_method_21_code 112 = .ok (.aload_n 0, 1) by decide +kernel) ?_
        refine dc_dup (pc := 113) hC (show decode prog_15_method_21_code 113 = .ok (.dup, 1) by decide +kernel) rfl ?_
        refine md_g15 (pc := 114) hC (show decode prog_15_method_21_code 114 = .ok (.getfield 343, 3) by decide +kernel) ?_
        refine dc_iconst (pc := 117) (v := 1) hC (show decode prog_15_method_21_code 117 = .ok (.iconst 1, 1) by decide +kernel) (by decide +kernel) ?_
        refine dc_iadd (pc := 118) hC (show decode prog_15_method_21_code 118 = .ok (.iadd, 1) by decide +kernel) ?_
        refine md_p15 (pc := 119) hC (show decode prog_15_method_21_code 119 = .ok (.putfield 343, 3) by decide +kernel) ?_
        refine dc_letS h ?_
        intro S8 h
        refine dc_aloadn (pc := 122) (j := 0) (i := 0) hC 0 rfl rfl (show decode prog_15_method_21_code 122 = .ok (.aload_n 0, 1) by decide +kernel) ?_
        refine mc_Vmv (pc := 123) (As := []) (rest := []) hC vw_advance_258 (mm_advance_ok l D ad de o a ca S8) (Nat.le_of_ble_eq_true rfl) (Nat.le_of_ble_eq_true rfl) rfl (Nat.le_of_ble_eq_true rfl) (show decode prog_15_method_21_code 123 = .ok (.invokevirtual 258, 3) by decide +kernel) h ?_
        intro q9 h
        refine dc_aloadn (pc := 126) (j := 0) (i := 0) hC 0 rfl rfl (show decode prog_15_method_21_code 126 = .ok (.aload_n 0, 1) by decide +kernel) ?_
        refine dc_bipush (pc := 127) (v := 44) hC (show decode prog_15_method_21_code 127 = .ok (.bipush 44, 2) by decide +kernel) (by decide +kernel) ?_
        refine mc_Vmi (pc := 129) (As := [.int 44]) (rest := []) hC vw_meetsSign_346 (mm_meetsSign_ok l D ad de o a ca q9 44) (Nat.le_of_ble_eq_true rfl) (Nat.le_of_ble_eq_true rfl) rfl (Nat.le_of_ble_eq_true rfl) (show decode prog_15_method_21_code 129 = .ok (.invokevirtual 346, 3) by decide +kernel) h ?_
        intro q10 h
        refine dc_istoren (pc := 132) (j := 2) (i := 2) (lv' := [(2, .int q10.2), (0, .ref o), (1, .int x1)]) hC rfl (Nat.le_of_ble_eq_true rfl) rfl (show decode prog_15_method_21_code 132 = .ok (.istore_n 2, 1) by decide +kernel) ?_
        refine dc_goto (pc := 133) (tgt := 2) hC (show decode prog_15_method_21_code 133 = .ok (.goto (-131), 3) by decide +kernel) (by decide +kernel) ?_
        exact dc_sub [1, 2, 0] rfl (hl_2 (q10.1, q10.2) (dc_some h))
    rintro ⟨S, x2⟩ h
    have h : dc_wp (mm_list_b2 S x1 x2) F_2 := h
    delta mm_list_b2 at h
    refine dc_iloadn (pc := 2) (j := 2) (i := 2) hC 2 rfl rfl (show decode prog_15_method_21_code 2 = .ok (.iload_n 2, 1) by decide +kernel) ?_
    refine dc_if_eq (pc := 3) (tgt := 136) hC (show decode prog_15_method_21_code 3 = .ok (.ifCond .eq 133, 3) by decide +kernel) (by decide +kernel) h ?_ ?_
    · intro h
      have h : dc_wp (mm_list_L136 S) F := hr_2 (.inr S) (dc_some h)
      exact dc_sub [0] rfl (lab_136 S h)
    · intro h
      refine dc_aloadn (pc := 6) (j := 0) (i := 0) hC 0 rfl rfl (show decode prog_15_method_21_code 6 = .ok (.aload_n 0, 1) by decide +kernel) ?_
      refine md_g10 (pc := 7) hC (show decode prog_15_method_21_code 7 = .ok (.getfield 221, 3) by decide +kernel) ?_
      refine dc_if_ne (pc := 10) (tgt := 136) hC (show decode prog_15_method_21_code 10 = .ok (.ifCond .ne 126, 3) by decide +kernel) (by decide +kernel) h ?_ ?_
      · intro h
        refine dc_aloadn (pc := 13) (j := 0) (i := 0) hC 0 rfl rfl (show decode prog_15_method_21_code 13 = .ok (.aload_n 0, 1) by decide +kernel) ?_
        refine mc_Vpi (pc := 14) (As := []) (rest := []) hC vw_isName_337 (mm_isName_ok l D ad de o a ca S) (Nat.le_of_ble_eq_true rfl) (Nat.le_of_ble_eq_true rfl) rfl (Nat.le_of_ble_eq_true rfl) (show decode prog_15_method_21_code 14 = .ok (.invokevirtual 337, 3) by decide +kernel) h ?_
        intro q11 h
        refine dc_if_ne (pc := 17) (tgt := 32) hC (show decode prog_15_method_21_code 17 = .ok (.ifCond .ne 15, 3) by decide +kernel) (by decide +kernel) h ?_ ?_
        · intro h
          refine dc_aloadn (pc := 20) (j := 0) (i := 0) hC 0 rfl rfl (show decode prog_15_method_21_code 20 = .ok (.aload_n 0, 1) by decide +kernel) ?_
          refine dc_iconst (pc := 21) (v := 1) hC (show decode prog_15_method_21_code 21 = .ok (.iconst 1, 1) by decide +kernel) (by decide +kernel) ?_
          refine dc_aloadn (pc := 22) (j := 0) (i := 0) hC 0 rfl rfl (show decode prog_15_method_21_code 22 = .ok (.aload_n 0, 1) by decide +kernel) ?_
          refine md_g8 (pc := 23) hC (show decode prog_15_method_21_code 23 = .ok (.getfield 237, 3) by decide +kernel) ?_
          refine mc_Vmv (pc := 26) (As := [.int 1, .int (S.1 8)]) (rest := []) hC vw_fail_267 (mm_fail_ok l D ad de o a ca S 1 (S.1 8)) (Nat.le_of_ble_eq_true rfl) (Nat.le_of_ble_eq_true rfl) rfl (Nat.le_of_ble_eq_true rfl) (show decode prog_15_method_21_code 26 = .ok (.invokevirtual 267, 3) by decide +kernel) h ?_
          intro q12 h
          refine dc_goto (pc := 29) (tgt := 50) hC (show decode prog_15_method_21_code 29 = .ok (.goto 21, 3) by decide +kernel) (by decide +kernel) ?_
          exact dc_sub [0, 1] rfl (lab_50 q12 h)
        · intro h
          refine dc_aloadn (pc := 32) (j := 0) (i := 0) hC 0 rfl rfl (show decode prog_15_method_21_code 32 = .ok (.aload_n 0, 1) by decide +kernel) ?_
          refine dc_iloadn (pc := 33) (j := 1) (i := 1) hC 1 rfl rfl (show decode prog_15_method_21_code 33 = .ok (.iload_n 1, 1) by decide +kernel) ?_
          refine mc_Vpi (pc := 34) (As := [.int x1]) (rest := []) hC vw_signal_340 (mm_signal_ok l D ad de o a ca S x1) (Nat.le_of_ble_eq_true rfl) (Nat.le_of_ble_eq_true rfl) rfl (Nat.le_of_ble_eq_true rfl) (show decode prog_15_method_21_code 34 = .ok (.invokevirtual 340, 3) by decide +kernel) h ?_
          intro q13 h
          refine dc_iconst (pc := 37) (v := (-1)) hC (show decode prog_15_method_21_code 37 = .ok (.iconst (-1), 1) by decide +kernel) (by decide +kernel) ?_
          refine dc_icmp_eq (pc := 38) (tgt := 50) hC (show decode prog_15_method_21_code 38 = .ok (.if_icmp .eq 12, 3) by decide +kernel) (by decide +kernel) h ?_ ?_
          · intro h
            exact dc_sub [0, 1] rfl (lab_50 S h)
          · intro h
            refine dc_aloadn (pc := 41) (j := 0) (i := 0) hC 0 rfl rfl (show decode prog_15_method_21_code 41 = .ok (.aload_n 0, 1) by decide +kernel) ?_
            refine dc_iconst (pc := 42) (v := 3) hC (show decode prog_15_method_21_code 42 = .ok (.iconst 3, 1) by decide +kernel) (by decide +kernel) ?_
            refine dc_aloadn (pc := 43) (j := 0) (i := 0) hC 0 rfl rfl (show decode prog_15_method_21_code 43 = .ok (.aload_n 0, 1) by decide +kernel) ?_
            refine md_g8 (pc := 44) hC (show decode prog_15_method_21_code 44 = .ok (.getfield 237, 3) by decide +kernel) ?_
            refine mc_Vmv (pc := 47) (As := [.int 3, .int (S.1 8)]) (rest := []) hC vw_fail_267 (mm_fail_ok l D ad de o a ca S 3 (S.1 8)) (Nat.le_of_ble_eq_true rfl) (Nat.le_of_ble_eq_true rfl) rfl (Nat.le_of_ble_eq_true rfl) (show decode prog_15_method_21_code 47 = .ok (.invokevirtual 267, 3) by decide +kernel) h ?_
            intro q14 h
            exact dc_sub [0, 1] rfl (lab_50 q14 h)
      · intro h
        have h : dc_wp (mm_list_L136 S) F := hr_2 (.inr S) (dc_some h)
        exact dc_sub [0] rfl (lab_136 S h)
  have lab_2 : ∀ (S : md_S) (x1 : Int32) (x2 : Int32), dc_wp (mm_list_L2 S x1 x2) F → dc_G X l { frames := 4, cells := 0, slots := 0, locals := 83 } D 3 0 0 (md_W o a ca S) 2 [(0, .ref o), (1, .int x1), (2, .int x2)] [] := fun S x1 x2 h => loop_2 x1 (S, x2) (dc_bind h)
  show dc_G X l { frames := 4, cells := 0, slots := 0, locals := 83 } D 3 0 0 (md_W o a ca S) 0 [(0, .ref o), (1, .int p1)] []
  delta mm_list at h
  refine dc_iconst (pc := 0) (v := 1) hC (show decode prog_15_method_21_code 0 = .ok (.iconst 1, 1) by decide +kernel) (by decide +kernel) ?_
  refine dc_istoren (pc := 1) (j := 2) (i := 2) (lv' := [(2, .int 1), (0, .ref o), (1, .int p1)]) hC rfl (Nat.le_of_ble_eq_true rfl) rfl (show decode prog_15_method_21_code 1 = .ok (.istore_n 2, 1) by decide +kernel) ?_
  exact dc_sub [1, 2, 0] rfl (lab_2 S p1 1 h)
noncomputable def mm_begins_L93 (y0 : Int32) : Option (Int32) :=
  (dc_zb y0).bind fun _ => some y0
noncomputable def mm_begins_L92 : Option (Int32) :=
  mm_begins_L93 0
noncomputable def mm_begins (p0 : Int64) : Option (Int32) :=
  if (dc_cmp p0 26990) = 0 then (mm_begins_L92) else (if (dc_cmp p0 7304564) = 0 then (mm_begins_L92) else (if (dc_cmp p0 1952998766) = 0 then (mm_begins_L92) else (if (dc_cmp p0 1701606245) = 0 then (mm_begins_L92) else (if (dc_cmp p0 6647396) = 0 then (mm_begins_L92) else (if (dc_cmp p0 2003330414) = 0 then (mm_begins_L92) else (if (dc_cmp p0 1700881256) = 0 then (mm_begins_L92) else (if (dc_cmp p0 7237492) = 0 then (mm_begins_L92) else (if (dc_cmp p0 6385252) = 0 then (mm_begins_L92) else (if (dc_cmp p0 28530) = 0 then (mm_begins_L92) else (if (dc_cmp p0 25711) = 0 then (mm_begins_L92) else (mm_begins_L93 1)))))))))))
set_option maxHeartbeats 4000000 in
set_option maxRecDepth 100000 in
/-- begins(J)Z -/
theorem mm_begins_ok (l : Launch) (D : va_G) (ad : Nat → Nat) (de : Nat) (ws : va_W) (tys : List (ClassId × FieldType)) (p0 : Int64) (F : Int32 → Prop) (h : dc_wp (mm_begins p0) F) : dc_Ci l ⟨"SignalEngineModel", "begins", "(J)Z"⟩ prog_15_method_35_code 2 (some (.boolean)) 0 0 D tys ad de [.long p0] ws (fun r w => ∃ q, F q ∧ r = q ∧ w = ws) 0 0 := by
  refine dc_enteri (by decide +kernel) (Nat.le_of_ble_eq_true rfl) ?_
  intro X hC hR
  have lab_93 : ∀ (y0 : Int32), dc_wp (mm_begins_L93 y0) F → dc_G X l { frames := 0, cells := 0, slots := 0, locals := 0 } D 2 0 0 ws 93 [] [.int y0] := by
    intro y0 h
    delta mm_begins_L93 at h
    obtain ⟨hz1, h⟩ := dc_zb_wp (dc_bind h)
    exact dc_zret (pc := 93) hC hR hz1 ⟨_, dc_some h, rfl, rfl⟩ (show decode prog_15_method_35_code 93 = .ok (.ireturn, 1) by decide +kernel)
  have lab_92 : dc_wp (mm_begins_L92) F → dc_G X l { frames := 0, cells := 0, slots := 0, locals := 0 } D 2 0 0 ws 92 [] [] := by
    intro  h
    delta mm_begins_L92 at h
    refine dc_iconst (pc := 92) (v := 0) hC (show decode prog_15_method_35_code 92 = .ok (.iconst 0, 1) by decide +kernel) (by decide +kernel) ?_
    exact lab_93 0 h
  show dc_G X l { frames := 0, cells := 0, slots := 0, locals := 0 } D 2 0 0 ws 0 [(0, .long p0)] []
  delta mm_begins at h
  refine dc_lloadn (pc := 0) (j := 0) (i := 0) hC 0 rfl rfl (show decode prog_15_method_35_code 0 = .ok (.lload_n 0, 1) by decide +kernel) ?_
  refine dc_ldc2 (pc := 1) (v := 26990) hC w_1929 (show decode prog_15_method_35_code 1 = .ok (.ldc2_w 271, 3) by decide +kernel) ?_
  refine dc_lcmp (pc := 4) hC (show decode prog_15_method_35_code 4 = .ok (.lcmp, 1) by decide +kernel) ?_
  refine dc_if_eq (pc := 5) (tgt := 92) hC (show decode prog_15_method_35_code 5 = .ok (.ifCond .eq 87, 3) by decide +kernel) (by decide +kernel) h ?_ ?_
  · intro h
    exact dc_sub [] rfl (lab_92 h)
  · intro h
    refine dc_lloadn (pc := 8) (j := 0) (i := 0) hC 0 rfl rfl (show decode prog_15_method_35_code 8 = .ok (.lload_n 0, 1) by decide +kernel) ?_
    refine dc_ldc2 (pc := 9) (v := 7304564) hC w_1950 (show decode prog_15_method_35_code 9 = .ok (.ldc2_w 273, 3) by decide +kernel) ?_
    refine dc_lcmp (pc := 12) hC (show decode prog_15_method_35_code 12 = .ok (.lcmp, 1) by decide +kernel) ?_
    refine dc_if_eq (pc := 13) (tgt := 92) hC (show decode prog_15_method_35_code 13 = .ok (.ifCond .eq 79, 3) by decide +kernel) (by decide +kernel) h ?_ ?_
    · intro h
      exact dc_sub [] rfl (lab_92 h)
    · intro h
      refine dc_lloadn (pc := 16) (j := 0) (i := 0) hC 0 rfl rfl (show decode prog_15_method_35_code 16 = .ok (.lload_n 0, 1) by decide +kernel) ?_
      refine dc_ldc2 (pc := 17) (v := 1952998766) hC w_1958 (show decode prog_15_method_35_code 17 = .ok (.ldc2_w 289, 3) by decide +kernel) ?_
      refine dc_lcmp (pc := 20) hC (show decode prog_15_method_35_code 20 = .ok (.lcmp, 1) by decide +kernel) ?_
      refine dc_if_eq (pc := 21) (tgt := 92) hC (show decode prog_15_method_35_code 21 = .ok (.ifCond .eq 71, 3) by decide +kernel) (by decide +kernel) h ?_ ?_
      · intro h
        exact dc_sub [] rfl (lab_92 h)
      · intro h
        refine dc_lloadn (pc := 24) (j := 0) (i := 0) hC 0 rfl rfl (show decode prog_15_method_35_code 24 = .ok (.lload_n 0, 1) by decide +kernel) ?_
        refine dc_ldc2 (pc := 25) (v := 1701606245) hC w_1959 (show decode prog_15_method_35_code 25 = .ok (.ldc2_w 291, 3) by decide +kernel) ?_
        refine dc_lcmp (pc := 28) hC (show decode prog_15_method_35_code 28 = .ok (.lcmp, 1) by decide +kernel) ?_
        refine dc_if_eq (pc := 29) (tgt := 92) hC (show decode prog_15_method_35_code 29 = .ok (.ifCond .eq 63, 3) by decide +kernel) (by decide +kernel) h ?_ ?_
        · intro h
          exact dc_sub [] rfl (lab_92 h)
        · intro h
          refine dc_lloadn (pc := 32) (j := 0) (i := 0) hC 0 rfl rfl (show decode prog_15_method_35_code 32 = .ok (.lload_n 0, 1) by decide +kernel) ?_
          refine dc_ldc2 (pc := 33) (v := 6647396) hC w_1960 (show decode prog_15_method_35_code 33 = .ok (.ldc2_w 293, 3) by decide +kernel) ?_
          refine dc_lcmp (pc := 36) hC (show decode prog_15_method_35_code 36 = .ok (.lcmp, 1) by decide +kernel) ?_
          refine dc_if_eq (pc := 37) (tgt := 92) hC (show decode prog_15_method_35_code 37 = .ok (.ifCond .eq 55, 3) by decide +kernel) (by decide +kernel) h ?_ ?_
          · intro h
            exact dc_sub [] rfl (lab_92 h)
          · intro h
            refine dc_lloadn (pc := 40) (j := 0) (i := 0) hC 0 rfl rfl (show decode prog_15_method_35_code 40 = .ok (.lload_n 0, 1) by decide +kernel) ?_
            refine dc_ldc2 (pc := 41) (v := 2003330414) hC w_1962 (show decode prog_15_method_35_code 41 = .ok (.ldc2_w 297, 3) by decide +kernel) ?_
            refine dc_lcmp (pc := 44) hC (show decode prog_15_method_35_code 44 = .ok (.lcmp, 1) by decide +kernel) ?_
            refine dc_if_eq (pc := 45) (tgt := 92) hC (show decode prog_15_method_35_code 45 = .ok (.ifCond .eq 47, 3) by decide +kernel) (by decide +kernel) h ?_ ?_
            · intro h
              exact dc_sub [] rfl (lab_92 h)
            · intro h
              refine dc_lloadn (pc := 48) (j := 0) (i := 0) hC 0 rfl rfl (show decode prog_15_method_35_code 48 = .ok (.lload_n 0, 1) by decide +kernel) ?_
              refine dc_ldc2 (pc := 49) (v := 1700881256) hC w_1964 (show decode prog_15_method_35_code 49 = .ok (.ldc2_w 301, 3) by decide +kernel) ?_
              refine dc_lcmp (pc := 52) hC (show decode prog_15_method_35_code 52 = .ok (.lcmp, 1) by decide +kernel) ?_
              refine dc_if_eq (pc := 53) (tgt := 92) hC (show decode prog_15_method_35_code 53 = .ok (.ifCond .eq 39, 3) by decide +kernel) (by decide +kernel) h ?_ ?_
              · intro h
                exact dc_sub [] rfl (lab_92 h)
              · intro h
                refine dc_lloadn (pc := 56) (j := 0) (i := 0) hC 0 rfl rfl (show decode prog_15_method_35_code 56 = .ok (.lload_n 0, 1) by decide +kernel) ?_
                refine dc_ldc2 (pc := 57) (v := 7237492) hC w_1967 (show decode prog_15_method_35_code 57 = .ok (.ldc2_w 307, 3) by decide +kernel) ?_
                refine dc_lcmp (pc := 60) hC (show decode prog_15_method_35_code 60 = .ok (.lcmp, 1) by decide +kernel) ?_
                refine dc_if_eq (pc := 61) (tgt := 92) hC (show decode prog_15_method_35_code 61 = .ok (.ifCond .eq 31, 3) by decide +kernel) (by decide +kernel) h ?_ ?_
                · intro h
                  exact dc_sub [] rfl (lab_92 h)
                · intro h
                  refine dc_lloadn (pc := 64) (j := 0) (i := 0) hC 0 rfl rfl (show decode prog_15_method_35_code 64 = .ok (.lload_n 0, 1) by decide +kernel) ?_
                  refine dc_ldc2 (pc := 65) (v := 6385252) hC w_1968 (show decode prog_15_method_35_code 65 = .ok (.ldc2_w 309, 3) by decide +kernel) ?_
                  refine dc_lcmp (pc := 68) hC (show decode prog_15_method_35_code 68 = .ok (.lcmp, 1) by decide +kernel) ?_
                  refine dc_if_eq (pc := 69) (tgt := 92) hC (show decode prog_15_method_35_code 69 = .ok (.ifCond .eq 23, 3) by decide +kernel) (by decide +kernel) h ?_ ?_
                  · intro h
                    exact dc_sub [] rfl (lab_92 h)
                  · intro h
                    refine dc_lloadn (pc := 72) (j := 0) (i := 0) hC 0 rfl rfl (show decode prog_15_method_35_code 72 = .ok (.lload_n 0, 1) by decide +kernel) ?_
                    refine dc_ldc2 (pc := 73) (v := 28530) hC w_1969 (show decode prog_15_method_35_code 73 = .ok (.ldc2_w 311, 3) by decide +kernel) ?_
                    refine dc_lcmp (pc := 76) hC (show decode prog_15_method_35_code 76 = .ok (.lcmp, 1) by decide +kernel) ?_
                    refine dc_if_eq (pc := 77) (tgt := 92) hC (show decode prog_15_method_35_code 77 = .ok (.ifCond .eq 15, 3) by decide +kernel) (by decide +kernel) h ?_ ?_
                    · intro h
                      exact dc_sub [] rfl (lab_92 h)
                    · intro h
                      refine dc_lloadn (pc := 80) (j := 0) (i := 0) hC 0 rfl rfl (show decode prog_15_method_35_code 80 = .ok (.lload_n 0, 1) by decide +kernel) ?_
                      refine dc_ldc2 (pc := 81) (v := 25711) hC w_1974 (show decode prog_15_method_35_code 81 = .ok (.ldc2_w 321, 3) by decide +kernel) ?_
                      refine dc_lcmp (pc := 84) hC (show decode prog_15_method_35_code 84 = .ok (.lcmp, 1) by decide +kernel) ?_
                      refine dc_if_eq (pc := 85) (tgt := 92) hC (show decode prog_15_method_35_code 85 = .ok (.ifCond .eq 7, 3) by decide +kernel) (by decide +kernel) h ?_ ?_
                      · intro h
                        exact dc_sub [] rfl (lab_92 h)
                      · intro h
                        refine dc_iconst (pc := 88) (v := 1) hC (show decode prog_15_method_35_code 88 = .ok (.iconst 1, 1) by decide +kernel) (by decide +kernel) ?_
                        refine dc_goto (pc := 89) (tgt := 93) hC (show decode prog_15_method_35_code 89 = .ok (.goto 4, 3) by decide +kernel) (by decide +kernel) ?_
                        exact dc_sub [] rfl (lab_93 1 h)
noncomputable def mm_deeper_L18 (S : md_S) : Option (md_S) :=
  dc_let (md_i S 11 ((S.1 11) + 1)) fun S1 => some S1
noncomputable def mm_deeper (S : md_S) : Option (md_S) :=
  if (S.1 11) = 24 then ((mm_fail S 5 (S.1 8)).bind fun q2 => mm_deeper_L18 q2) else (mm_deeper_L18 S)
set_option maxHeartbeats 4000000 in
set_option maxRecDepth 100000 in
/-- deeper()V -/
theorem mm_deeper_ok (l : Launch) (D : va_G) (ad : Nat → Nat) (de : Nat) (o : Nat) (a : Nat → Nat) (ca : Nat → ClassId) (S : md_S) (F : md_S → Prop) (h : dc_wp (mm_deeper S) F) : dc_Cv l ⟨"SignalEngineModel", "deeper", "()V"⟩ prog_15_method_20_code 1 none 1 22 D (md_T ca) ad de [.ref o] (md_W o a ca S) (fun w => ∃ q, F q ∧ w = md_W o a ca q) 0 0 := by
  refine dc_enterv (by decide +kernel) (Nat.le_of_ble_eq_true rfl) ?_
  intro X hC hR
  have lab_18 : ∀ (S : md_S), dc_wp (mm_deeper_L18 S) F → dc_G X l { frames := 1, cells := 0, slots := 0, locals := 22 } D 1 0 0 (md_W o a ca S) 18 [(0, .ref o)] [] := by
    intro S  h
    delta mm_deeper_L18 at h
    refine dc_aloadn (pc := 18) (j := 0) (i := 0) hC 0 rfl rfl (show decode prog_15_method_20_code 18 = .ok (.aload_n 0, 1) by decide +kernel) ?_
    refine dc_dup (pc := 19) hC (show decode prog_15_method_20_code 19 = .ok (.dup, 1) by decide +kernel) rfl ?_
    refine md_g11 (pc := 20) hC (show decode prog_15_method_20_code 20 = .ok (.getfield 334, 3) by decide +kernel) ?_
    refine dc_iconst (pc := 23) (v := 1) hC (show decode prog_15_method_20_code 23 = .ok (.iconst 1, 1) by decide +kernel) (by decide +kernel) ?_
    refine dc_iadd (pc := 24) hC (show decode prog_15_method_20_code 24 = .ok (.iadd, 1) by decide +kernel) ?_
    refine md_p11 (pc := 25) hC (show decode prog_15_method_20_code 25 = .ok (.putfield 334, 3) by decide +kernel) ?_
    refine dc_letS h ?_
    intro S1 h
    exact dc_vret (pc := 28) hC hR ⟨_, dc_some h, rfl⟩ (show decode prog_15_method_20_code 28 = .ok (.return_, 1) by decide +kernel)
  show dc_G X l { frames := 1, cells := 0, slots := 0, locals := 22 } D 1 0 0 (md_W o a ca S) 0 [(0, .ref o)] []
  delta mm_deeper at h
  refine dc_aloadn (pc := 0) (j := 0) (i := 0) hC 0 rfl rfl (show decode prog_15_method_20_code 0 = .ok (.aload_n 0, 1) by decide +kernel) ?_
  refine md_g11 (pc := 1) hC (show decode prog_15_method_20_code 1 = .ok (.getfield 334, 3) by decide +kernel) ?_
  refine dc_bipush (pc := 4) (v := 24) hC (show decode prog_15_method_20_code 4 = .ok (.bipush 24, 2) by decide +kernel) (by decide +kernel) ?_
  refine dc_icmp_ne (pc := 6) (tgt := 18) hC (show decode prog_15_method_20_code 6 = .ok (.if_icmp .ne 12, 3) by decide +kernel) (by decide +kernel) h ?_ ?_
  · intro h
    refine dc_aloadn (pc := 9) (j := 0) (i := 0) hC 0 rfl rfl (show decode prog_15_method_20_code 9 = .ok (.aload_n 0, 1) by decide +kernel) ?_
    refine dc_iconst (pc := 10) (v := 5) hC (show decode prog_15_method_20_code 10 = .ok (.iconst 5, 1) by decide +kernel) (by decide +kernel) ?_
    refine dc_aloadn (pc := 11) (j := 0) (i := 0) hC 0 rfl rfl (show decode prog_15_method_20_code 11 = .ok (.aload_n 0, 1) by decide +kernel) ?_
    refine md_g8 (pc := 12) hC (show decode prog_15_method_20_code 12 = .ok (.getfield 237, 3) by decide +kernel) ?_
    refine mc_Vmv (pc := 15) (As := [.int 5, .int (S.1 8)]) (rest := []) hC vw_fail_267 (mm_fail_ok l D ad de o a ca S 5 (S.1 8)) (Nat.le_of_ble_eq_true rfl) (Nat.le_of_ble_eq_true rfl) rfl (Nat.le_of_ble_eq_true rfl) (show decode prog_15_method_20_code 15 = .ok (.invokevirtual 267, 3) by decide +kernel) h ?_
    intro q2 h
    exact lab_18 q2 h
  · intro h
    exact lab_18 S h
noncomputable def mm_named_L57 (S : md_S) (x2 : Int32) : Option (md_S × Int32) :=
  if (0 : Int32) < (S.1 10) then (some (S, 0)) else ((mm_advance S).bind fun q1 => some (q1, x2))
noncomputable def mm_named_L48 (S : md_S) (x2 : Int32) : Option (md_S × Int32) :=
  (mm_fail S 2 (S.1 8)).bind fun q2 => mm_named_L57 q2 x2
noncomputable def mm_named_L16 (S : md_S) (x1 : Int32) : Option (md_S × Int32) :=
  if (0 : Int32) < (S.1 10) then (some (S, 0)) else ((mm_signal S 0).bind fun q3 => if q3 = (-1) then (mm_named_L48 S q3) else (if x1 = 0 then (mm_named_L57 S q3) else (if q3 < (S.1 16) then (mm_named_L48 S q3) else (mm_named_L57 S q3))))
noncomputable def mm_named (S : md_S) (p1 : Int32) : Option (md_S × Int32) :=
  (mm_isName S).bind fun q4 => if q4 = 0 then ((mm_fail S 1 (S.1 8)).bind fun q5 => mm_named_L16 q5 p1) else (mm_named_L16 S p1)
set_option maxHeartbeats 4000000 in
set_option maxRecDepth 100000 in
/-- named(Z)I -/
theorem mm_named_ok (l : Launch) (D : va_G) (ad : Nat → Nat) (de : Nat) (o : Nat) (a : Nat → Nat) (ca : Nat → ClassId) (S : md_S) (p1 : Int32) (F : (md_S × Int32) → Prop) (h : dc_wp (mm_named S p1) F) : dc_Ci l ⟨"SignalEngineModel", "named", "(Z)I"⟩ prog_15_method_26_code 3 (some (.int)) 3 62 D (md_T ca) ad de [.ref o, .int p1] (md_W o a ca S) (fun r w => ∃ q, F q ∧ r = q.2 ∧ w = md_W o a ca q.1) 0 0 := by
  refine dc_enteri (by decide +kernel) (Nat.le_of_ble_eq_true rfl) ?_
  intro X hC hR
  have lab_57 : ∀ (S : md_S) (x2 : Int32), dc_wp (mm_named_L57 S x2) F → dc_G X l { frames := 3, cells := 0, slots := 0, locals := 62 } D 3 0 0 (md_W o a ca S) 57 [(0, .ref o), (2, .int x2)] [] := by
    intro S x2 h
    delta mm_named_L57 at h
    refine dc_aloadn (pc := 57) (j := 0) (i := 0) hC 0 rfl rfl (show decode prog_15_method_26_code 57 = .ok (.aload_n 0, 1) by decide +kernel) ?_
    refine md_g10 (pc := 58) hC (show decode prog_15_method_26_code 58 = .ok (.getfield 221, 3) by decide +kernel) ?_
    refine dc_if_le (pc := 61) (tgt := 66) hC (show decode prog_15_method_26_code 61 = .ok (.ifCond .le 5, 3) by decide +kernel) (by decide +kernel) h ?_ ?_
    · intro h
      refine dc_iconst (pc := 64) (v := 0) hC (show decode prog_15_method_26_code 64 = .ok (.iconst 0, 1) by decide +kernel) (by decide +kernel) ?_
      exact dc_iret (pc := 65) hC hR ⟨_, dc_some h, rfl, rfl⟩ (show decode prog_15_method_26_code 65 = .ok (.ireturn, 1) by decide +kernel)
    · intro h
      refine dc_aloadn (pc := 66) (j := 0) (i := 0) hC 0 rfl rfl (show decode prog_15_method_26_code 66 = .ok (.aload_n 0, 1) by decide +kernel) ?_
      refine mc_Vmv (pc := 67) (As := []) (rest := []) hC vw_advance_258 (mm_advance_ok l D ad de o a ca S) (Nat.le_of_ble_eq_true rfl) (Nat.le_of_ble_eq_true rfl) rfl (Nat.le_of_ble_eq_true rfl) (show decode prog_15_method_26_code 67 = .ok (.invokevirtual 258, 3) by decide +kernel) h ?_
      intro q1 h
      refine dc_iloadn (pc := 70) (j := 2) (i := 2) hC 1 rfl rfl (show decode prog_15_method_26_code 70 = .ok (.iload_n 2, 1) by decide +kernel) ?_
      exact dc_iret (pc := 71) hC hR ⟨_, dc_some h, rfl, rfl⟩ (show decode prog_15_method_26_code 71 = .ok (.ireturn, 1) by decide +kernel)
  have lab_48 : ∀ (S : md_S) (x2 : Int32), dc_wp (mm_named_L48 S x2) F → dc_G X l { frames := 3, cells := 0, slots := 0, locals := 62 } D 3 0 0 (md_W o a ca S) 48 [(0, .ref o), (2, .int x2)] [] := by
    intro S x2 h
    delta mm_named_L48 at h
    refine dc_aloadn (pc := 48) (j := 0) (i := 0) hC 0 rfl rfl (show decode prog_15_method_26_code 48 = .ok (.aload_n 0, 1) by decide +kernel) ?_
    refine dc_iconst (pc := 49) (v := 2) hC (show decode prog_15_method_26_code 49 = .ok (.iconst 2, 1) by decide +kernel) (by decide +kernel) ?_
    refine dc_aloadn (pc := 50) (j := 0) (i := 0) hC 0 rfl rfl (show decode prog_15_method_26_code 50 = .ok (.aload_n 0, 1) by decide +kernel) ?_
    refine md_g8 (pc := 51) hC (show decode prog_15_method_26_code 51 = .ok (.getfield 237, 3) by decide +kernel) ?_
    refine mc_Vmv (pc := 54) (As := [.int 2, .int (S.1 8)]) (rest := []) hC vw_fail_267 (mm_fail_ok l D ad de o a ca S 2 (S.1 8)) (Nat.le_of_ble_eq_true rfl) (Nat.le_of_ble_eq_true rfl) rfl (Nat.le_of_ble_eq_true rfl) (show decode prog_15_method_26_code 54 = .ok (.invokevirtual 267, 3) by decide +kernel) h ?_
    intro q2 h
    exact lab_57 q2 x2 h
  have lab_16 : ∀ (S : md_S) (x1 : Int32), dc_wp (mm_named_L16 S x1) F → dc_G X l { frames := 3, cells := 0, slots := 0, locals := 62 } D 3 0 0 (md_W o a ca S) 16 [(0, .ref o), (1, .int x1)] [] := by
    intro S x1 h
    delta mm_named_L16 at h
    refine dc_aloadn (pc := 16) (j := 0) (i := 0) hC 0 rfl rfl (show decode prog_15_method_26_code 16 = .ok (.aload_n 0, 1) by decide +kernel) ?_
    refine md_g10 (pc := 17) hC (show decode prog_15_method_26_code 17 = .ok (.getfield 221, 3) by decide +kernel) ?_
    refine dc_if_le (pc := 20) (tgt := 25) hC (show decode prog_15_method_26_code 20 = .ok (.ifCond .le 5, 3) by decide +kernel) (by decide +kernel) h ?_ ?_
    · intro h
      refine dc_iconst (pc := 23) (v := 0) hC (show decode prog_15_method_26_code 23 = .ok (.iconst 0, 1) by decide +kernel) (by decide +kernel) ?_
      exact dc_iret (pc := 24) hC hR ⟨_, dc_some h, rfl, rfl⟩ (show decode prog_15_method_26_code 24 = .ok (.ireturn, 1) by decide +kernel)
    · intro h
      refine dc_aloadn (pc := 25) (j := 0) (i := 0) hC 0 rfl rfl (show decode prog_15_method_26_code 25 = .ok (.aload_n 0, 1) by decide +kernel) ?_
      refine dc_iconst (pc := 26) (v := 0) hC (show decode prog_15_method_26_code 26 = .ok (.iconst 0, 1) by decide +kernel) (by decide +kernel) ?_
      refine mc_Vpi (pc := 27) (As := [.int 0]) (rest := []) hC vw_signal_340 (mm_signal_ok l D ad de o a ca S 0) (Nat.le_of_ble_eq_true rfl) (Nat.le_of_ble_eq_true rfl) rfl (Nat.le_of_ble_eq_true rfl) (show decode prog_15_method_26_code 27 = .ok (.invokevirtual 340, 3) by decide +kernel) h ?_
      intro q3 h
      refine dc_istoren (pc := 30) (j := 2) (i := 2) (lv' := [(2, .int q3), (0, .ref o), (1, .int x1)]) hC rfl (Nat.le_of_ble_eq_true rfl) rfl (show decode prog_15_method_26_code 30 = .ok (.istore_n 2, 1) by decide +kernel) ?_
      refine dc_iloadn (pc := 31) (j := 2) (i := 2) hC 0 rfl rfl (show decode prog_15_method_26_code 31 = .ok (.iload_n 2, 1) by decide +kernel) ?_
      refine dc_iconst (pc := 32) (v := (-1)) hC (show decode prog_15_method_26_code 32 = .ok (.iconst (-1), 1) by decide +kernel) (by decide +kernel) ?_
      refine dc_icmp_eq (pc := 33) (tgt := 48) hC (show decode prog_15_method_26_code 33 = .ok (.if_icmp .eq 15, 3) by decide +kernel) (by decide +kernel) h ?_ ?_
      · intro h
        exact dc_sub [1, 0] rfl (lab_48 S q3 h)
      · intro h
        refine dc_iloadn (pc := 36) (j := 1) (i := 1) hC 2 rfl rfl (show decode prog_15_method_26_code 36 = .ok (.iload_n 1, 1) by decide +kernel) ?_
        refine dc_if_eq (pc := 37) (tgt := 57) hC (show decode prog_15_method_26_code 37 = .ok (.ifCond .eq 20, 3) by decide +kernel) (by decide +kernel) h ?_ ?_
        · intro h
          exact dc_sub [1, 0] rfl (lab_57 S q3 h)
        · intro h
          refine dc_iloadn (pc := 40) (j := 2) (i := 2) hC 0 rfl rfl (show decode prog_15_method_26_code 40 = .ok (.iload_n 2, 1) by decide +kernel) ?_
          refine dc_aloadn (pc := 41) (j := 0) (i := 0) hC 1 rfl rfl (show decode prog_15_method_26_code 41 = .ok (.aload_n 0, 1) by decide +kernel) ?_
          refine md_g16 (pc := 42) hC (show decode prog_15_method_26_code 42 = .ok (.getfield 376, 3) by decide +kernel) ?_
          refine dc_icmp_ge (pc := 45) (tgt := 57) hC (show decode prog_15_method_26_code 45 = .ok (.if_icmp .ge 12, 3) by decide +kernel) (by decide +kernel) h ?_ ?_
          · intro h
            exact dc_sub [1, 0] rfl (lab_48 S q3 h)
          · intro h
            exact dc_sub [1, 0] rfl (lab_57 S q3 h)
  show dc_G X l { frames := 3, cells := 0, slots := 0, locals := 62 } D 3 0 0 (md_W o a ca S) 0 [(0, .ref o), (1, .int p1)] []
  delta mm_named at h
  refine dc_aloadn (pc := 0) (j := 0) (i := 0) hC 0 rfl rfl (show decode prog_15_method_26_code 0 = .ok (.aload_n 0, 1) by decide +kernel) ?_
  refine mc_Vpi (pc := 1) (As := []) (rest := []) hC vw_isName_337 (mm_isName_ok l D ad de o a ca S) (Nat.le_of_ble_eq_true rfl) (Nat.le_of_ble_eq_true rfl) rfl (Nat.le_of_ble_eq_true rfl) (show decode prog_15_method_26_code 1 = .ok (.invokevirtual 337, 3) by decide +kernel) h ?_
  intro q4 h
  refine dc_if_ne (pc := 4) (tgt := 16) hC (show decode prog_15_method_26_code 4 = .ok (.ifCond .ne 12, 3) by decide +kernel) (by decide +kernel) h ?_ ?_
  · intro h
    refine dc_aloadn (pc := 7) (j := 0) (i := 0) hC 0 rfl rfl (show decode prog_15_method_26_code 7 = .ok (.aload_n 0, 1) by decide +kernel) ?_
    refine dc_iconst (pc := 8) (v := 1) hC (show decode prog_15_method_26_code 8 = .ok (.iconst 1, 1) by decide +kernel) (by decide +kernel) ?_
    refine dc_aloadn (pc := 9) (j := 0) (i := 0) hC 0 rfl rfl (show decode prog_15_method_26_code 9 = .ok (.aload_n 0, 1) by decide +kernel) ?_
    refine md_g8 (pc := 10) hC (show decode prog_15_method_26_code 10 = .ok (.getfield 237, 3) by decide +kernel) ?_
    refine mc_Vmv (pc := 13) (As := [.int 1, .int (S.1 8)]) (rest := []) hC vw_fail_267 (mm_fail_ok l D ad de o a ca S 1 (S.1 8)) (Nat.le_of_ble_eq_true rfl) (Nat.le_of_ble_eq_true rfl) rfl (Nat.le_of_ble_eq_true rfl) (show decode prog_15_method_26_code 13 = .ok (.invokevirtual 267, 3) by decide +kernel) h ?_
    intro q5 h
    exact lab_16 q5 p1 h
  · intro h
    exact lab_16 S p1 h
noncomputable def mm_piece_III (S : md_S) (p1 : Int32) (p2 : Int32) (p3 : Int32) : Option (md_S × Int32) :=
  if (S.1 28) = 1000 then (dc_let (md_i S 12 1) fun S1 => some (S1, 0)) else ((dc_ix (S.1 28) 1000).bind fun j2 => dc_let (md_a S 36 j2 p1) fun S3 => (dc_ix (S3.1 28) 1000).bind fun j4 => dc_let (md_a S3 37 j4 p2) fun S5 => (dc_ix (S5.1 28) 1000).bind fun j6 => dc_let (md_a S5 38 j6 p3) fun S7 => dc_let (md_i S7 28 ((S7.1 28) + 1)) fun S8 => some (S8, ((S8.1 28) - 1)))
set_option maxHeartbeats 4000000 in
set_option maxRecDepth 100000 in
/-- piece(III)I -/
theorem mm_piece_III_ok (l : Launch) (D : va_G) (ad : Nat → Nat) (de : Nat) (o : Nat) (a : Nat → Nat) (ca : Nat → ClassId) (S : md_S) (p1 : Int32) (p2 : Int32) (p3 : Int32) (F : (md_S × Int32) → Prop) (h : dc_wp (mm_piece_III S p1 p2 p3) F) : dc_Ci l ⟨"SignalEngineModel", "piece", "(III)I"⟩ prog_15_method_22_code 4 (some (.int)) 0 0 D (md_T ca) ad de [.ref o, .int p1, .int p2, .int p3] (md_W o a ca S) (fun r w => ∃ q, F q ∧ r = q.2 ∧ w = md_W o a ca q.1) 0 0 := by
  refine dc_enteri (by decide +kernel) (Nat.le_of_ble_eq_true rfl) ?_
  intro X hC hR
  show dc_G X l { frames := 0, cells := 0, slots := 0, locals := 0 } D 4 0 0 (md_W o a ca S) 0 [(0, .ref o), (1, .int p1), (2, .int p2), (3, .int p3)] []
  delta mm_piece_III at h
  refine dc_aloadn (pc := 0) (j := 0) (i := 0) hC 0 rfl rfl (show decode prog_15_method_22_code 0 = .ok (.aload_n 0, 1) by decide +kernel) ?_
  refine md_g28 (pc := 1) hC (show decode prog_15_method_22_code 1 = .ok (.getfield 349, 3) by decide +kernel) ?_
  refine dc_sipush (pc := 4) (v := 1000) hC (show decode prog_15_method_22_code 4 = .ok (.sipush 1000, 3) by decide +kernel) (by decide +kernel) ?_
  refine dc_icmp_ne (pc := 7) (tgt := 17) hC (show decode prog_15_method_22_code 7 = .ok (.if_icmp .ne 10, 3) by decide +kernel) (by decide +kernel) h ?_ ?_
  · intro h
    refine dc_aloadn (pc := 10) (j := 0) (i := 0) hC 0 rfl rfl (show decode prog_15_method_22_code 10 = .ok (.aload_n 0, 1) by decide +kernel) ?_
    refine dc_iconst (pc := 11) (v := 1) hC (show decode prog_15_method_22_code 11 = .ok (.iconst 1, 1) by decide +kernel) (by decide +kernel) ?_
    refine md_p12 (pc := 12) hC (Or.inr rfl) (show decode prog_15_method_22_code 12 = .ok (.putfield 352, 3) by decide +kernel) ?_
    refine dc_letS h ?_
    intro S1 h
    refine dc_iconst (pc := 15) (v := 0) hC (show decode prog_15_method_22_code 15 = .ok (.iconst 0, 1) by decide +kernel) (by decide +kernel) ?_
    exact dc_iret (pc := 16) hC hR ⟨_, dc_some h, rfl, rfl⟩ (show decode prog_15_method_22_code 16 = .ok (.ireturn, 1) by decide +kernel)
  · intro h
    refine dc_aloadn (pc := 17) (j := 0) (i := 0) hC 0 rfl rfl (show decode prog_15_method_22_code 17 = .ok (.aload_n 0, 1) by decide +kernel) ?_
    refine md_g36 (pc := 18) hC (show decode prog_15_method_22_code 18 = .ok (.getfield 51, 3) by decide +kernel) ?_
    refine dc_aloadn (pc := 21) (j := 0) (i := 0) hC 0 rfl rfl (show decode prog_15_method_22_code 21 = .ok (.aload_n 0, 1) by decide +kernel) ?_
    refine md_g28 (pc := 22) hC (show decode prog_15_method_22_code 22 = .ok (.getfield 349, 3) by decide +kernel) ?_
    refine dc_iloadn (pc := 25) (j := 1) (i := 1) hC 1 rfl rfl (show decode prog_15_method_22_code 25 = .ok (.iload_n 1, 1) by decide +kernel) ?_
    refine md_s36 (pc := 26) hC (show decode prog_15_method_22_code 26 = .ok (.iastore, 1) by decide +kernel) h ?_
    intro j2 h
    refine dc_letS h ?_
    intro S3 h
    refine dc_aloadn (pc := 27) (j := 0) (i := 0) hC 0 rfl rfl (show decode prog_15_method_22_code 27 = .ok (.aload_n 0, 1) by decide +kernel) ?_
    refine md_g37 (pc := 28) hC (show decode prog_15_method_22_code 28 = .ok (.getfield 54, 3) by decide +kernel) ?_
    refine dc_aloadn (pc := 31) (j := 0) (i := 0) hC 0 rfl rfl (show decode prog_15_method_22_code 31 = .ok (.aload_n 0, 1) by decide +kernel) ?_
    refine md_g28 (pc := 32) hC (show decode prog_15_method_22_code 32 = .ok (.getfield 349, 3) by decide +kernel) ?_
    refine dc_iloadn (pc := 35) (j := 2) (i := 2) hC 2 rfl rfl (show decode prog_15_method_22_code 35 = .ok (.iload_n 2, 1) by decide +kernel) ?_
    refine md_s37 (pc := 36) hC (show decode prog_15_method_22_code 36 = .ok (.iastore, 1) by decide +kernel) h ?_
    intro j4 h
    refine dc_letS h ?_
    intro S5 h
    refine dc_aloadn (pc := 37) (j := 0) (i := 0) hC 0 rfl rfl (show decode prog_15_method_22_code 37 = .ok (.aload_n 0, 1) by decide +kernel) ?_
    refine md_g38 (pc := 38) hC (show decode prog_15_method_22_code 38 = .ok (.getfield 57, 3) by decide +kernel) ?_
    refine dc_aloadn (pc := 41) (j := 0) (i := 0) hC 0 rfl rfl (show decode prog_15_method_22_code 41 = .ok (.aload_n 0, 1) by decide +kernel) ?_
    refine md_g28 (pc := 42) hC (show decode prog_15_method_22_code 42 = .ok (.getfield 349, 3) by decide +kernel) ?_
    refine dc_iloadn (pc := 45) (j := 3) (i := 3) hC 3 rfl rfl (show decode prog_15_method_22_code 45 = .ok (.iload_n 3, 1) by decide +kernel) ?_
    refine md_s38 (pc := 46) hC (show decode prog_15_method_22_code 46 = .ok (.iastore, 1) by decide +kernel) h ?_
    intro j6 h
    refine dc_letS h ?_
    intro S7 h
    refine dc_aloadn (pc := 47) (j := 0) (i := 0) hC 0 rfl rfl (show decode prog_15_method_22_code 47 = .ok (.aload_n 0, 1) by decide +kernel) ?_
    refine dc_dup (pc := 48) hC (show decode prog_15_method_22_code 48 = .ok (.dup, 1) by decide +kernel) rfl ?_
    refine md_g28 (pc := 49) hC (show decode prog_15_method_22_code 49 = .ok (.getfield 349, 3) by decide +kernel) ?_
    refine dc_iconst (pc := 52) (v := 1) hC (show decode prog_15_method_22_code 52 = .ok (.iconst 1, 1) by decide +kernel) (by decide +kernel) ?_
    refine dc_iadd (pc := 53) hC (show decode prog_15_method_22_code 53 = .ok (.iadd, 1) by decide +kernel) ?_
    refine md_p28 (pc := 54) hC (show decode prog_15_method_22_code 54 = .ok (.putfield 349, 3) by decide +kernel) ?_
    refine dc_letS h ?_
    intro S8 h
    refine dc_aloadn (pc := 57) (j := 0) (i := 0) hC 0 rfl rfl (show decode prog_15_method_22_code 57 = .ok (.aload_n 0, 1) by decide +kernel) ?_
    refine md_g28 (pc := 58) hC (show decode prog_15_method_22_code 58 = .ok (.getfield 349, 3) by decide +kernel) ?_
    refine dc_iconst (pc := 61) (v := 1) hC (show decode prog_15_method_22_code 61 = .ok (.iconst 1, 1) by decide +kernel) (by decide +kernel) ?_
    refine dc_isub (pc := 62) hC (show decode prog_15_method_22_code 62 = .ok (.isub, 1) by decide +kernel) ?_
    exact dc_iret (pc := 63) hC hR ⟨_, dc_some h, rfl, rfl⟩ (show decode prog_15_method_22_code 63 = .ok (.ireturn, 1) by decide +kernel)
abbrev mm_T1 : Type := (md_S → Option (md_S × Int32)) × (md_S → Option (md_S × Int32)) × (md_S → Option (md_S × Int32))
def mm_OK1 (l : Launch) (D : va_G) (ad : Nat → Nat) (de : Nat) (o : Nat) (a : Nat → Nat) (ca : Nat → ClassId) (T : mm_T1) (d : Nat) : Prop :=
  (∀ (S : md_S) (F : (md_S × Int32) → Prop), dc_wp (T.1 S) F → dc_Ci l ⟨"SignalEngineModel", "asked", "()I"⟩ prog_15_method_23_code 2 (some (.int)) (d + 4) (22 * d + 84) D (md_T ca) ad de [.ref o] (md_W o a ca S) (fun r w => ∃ q, F q ∧ r = q.2 ∧ w = md_W o a ca q.1) 0 0) ∧
  (∀ (S : md_S) (F : (md_S × Int32) → Prop), dc_wp (T.2.1 S) F → dc_Ci l ⟨"SignalEngineModel", "clause", "()I"⟩ prog_15_method_24_code 2 (some (.int)) (d + 4) (22 * d + 84) D (md_T ca) ad de [.ref o] (md_W o a ca S) (fun r w => ∃ q, F q ∧ r = q.2 ∧ w = md_W o a ca q.1) 0 0) ∧
  (∀ (S : md_S) (F : (md_S × Int32) → Prop), dc_wp (T.2.2 S) F → dc_Ci l ⟨"SignalEngineModel", "part", "()I"⟩ prog_15_method_25_code 3 (some (.int)) (d + 4) (22 * d + 84) D (md_T ca) ad de [.ref o] (md_W o a ca S) (fun r w => ∃ q, F q ∧ r = q.2 ∧ w = md_W o a ca q.1) 0 0)
noncomputable def mm_asked_L29 (T : mm_T1) (S : md_S) (x1 : Int32) : Option (md_S × Int32) :=
  some (S, x1)
noncomputable def mm_asked_b5 (T : mm_T1) (S : md_S) (x1 : Int32) : Option ((md_S × Int32) ⊕ ((md_S × Int32))) :=
  (mm_meetsWord S 28530).bind fun q1 => if q1.2 = 0 then (some (.inr (q1.1, x1))) else ((T.2.1 q1.1).bind fun q2 => (mm_piece_III q2.1 3 x1 q2.2).bind fun q3 => some (.inl (q3.1, q3.2)))
noncomputable def mm_asked_s5 (T : mm_T1) (q : md_S × Int32) : Option ((md_S × Int32) ⊕ ((md_S × Int32))) :=
  mm_asked_b5 T q.1 q.2
noncomputable def mm_asked_L5 (T : mm_T1) (S : md_S) (x1 : Int32) : Option (md_S × Int32) :=
  (dc_it (mm_asked_s5 T) (S, x1)).bind (fun (z : md_S × Int32) => mm_asked_L29 T z.1 z.2)
noncomputable def mm_asked (T : mm_T1) (S : md_S) : Option (md_S × Int32) :=
  (T.2.1 S).bind fun q4 => mm_asked_L5 T q4.1 q4.2
set_option maxHeartbeats 4000000 in
set_option maxRecDepth 100000 in
/-- asked()I -/
theorem mm_asked_ok (l : Launch) (D : va_G) (ad : Nat → Nat) (de : Nat) (o : Nat) (a : Nat → Nat) (ca : Nat → ClassId) (T : mm_T1) (d : Nat) (hT : mm_OK1 l D ad de o a ca T d) (S : md_S) (F : (md_S × Int32) → Prop) (h : dc_wp (mm_asked T S) F) : dc_Ci l ⟨"SignalEngineModel", "asked", "()I"⟩ prog_15_method_23_code 2 (some (.int)) (d + 1 + 4) (22 * (d + 1) + 84) D (md_T ca) ad de [.ref o] (md_W o a ca S) (fun r w => ∃ q, F q ∧ r = q.2 ∧ w = md_W o a ca q.1) 0 0 := by
  refine dc_enteri (by decide +kernel) (Nat.le_of_ble_eq_true rfl) ?_
  intro X hC hR
  have lab_29 : ∀ (S : md_S) (x1 : Int32), dc_wp (mm_asked_L29 T S x1) F → dc_G X l { frames := d + 1 + 4, cells := 0, slots := 0, locals := 22 * (d + 1) + 84 } D 2 0 0 (md_W o a ca S) 29 [(0, .ref o), (1, .int x1)] [] := by
    intro S x1 h
    delta mm_asked_L29 at h
    refine dc_iloadn (pc := 29) (j := 1) (i := 1) hC 1 rfl rfl (show decode prog_15_method_23_code 29 = .ok (.iload_n 1, 1) by decide +kernel) ?_
    exact dc_iret (pc := 30) hC hR ⟨_, dc_some h, rfl, rfl⟩ (show decode prog_15_method_23_code 30 = .ok (.ireturn, 1) by decide +kernel)
  have loop_5 : ∀ (q : md_S × Int32), dc_wp (dc_it (mm_asked_s5 T) q) (fun z => dc_wp ((fun (z : md_S × Int32) => mm_asked_L29 T z.1 z.2) z) F) → dc_G X l { frames := d + 1 + 4, cells := 0, slots := 0, locals := 22 * (d + 1) + 84 } D 2 0 0 (md_W o a ca q.1) 5 [(0, .ref o), (1, .int q.2)] [] := by
    refine dc_loopF ?_
    intro F_5 hl_5 hr_5
    rintro ⟨S, x1⟩ h
    have h : dc_wp (mm_asked_b5 T S x1) F_5 := h
    delta mm_asked_b5 at h
    refine dc_aloadn (pc := 5) (j := 0) (i := 0) hC 0 rfl rfl (show decode prog_15_method_23_code 5 = .ok (.aload_n 0, 1) by decide +kernel) ?_
    refine dc_ldc2 (pc := 6) (v := 28530) hC w_1969 (show decode prog_15_method_23_code 6 = .ok (.ldc2_w 311, 3) by decide +kernel) ?_
    refine mc_Vmi (pc := 9) (As := [.long 28530]) (rest := []) hC vw_meetsWord_264 (mm_meetsWord_ok l D ad de o a ca S 28530) (by omega) (by omega) rfl (Nat.le_of_ble_eq_true rfl) (show decode prog_15_method_23_code 9 = .ok (.invokevirtual 264, 3) by decide +kernel) h ?_
    intro q1 h
    refine dc_if_eq (pc := 12) (tgt := 29) hC (show decode prog_15_method_23_code 12 = .ok (.ifCond .eq 17, 3) by decide +kernel) (by decide +kernel) h ?_ ?_
    · intro h
      have h : dc_wp (mm_asked_L29 T q1.1 x1) F := hr_5 (q1.1, x1) (dc_some h)
      exact lab_29 q1.1 x1 h
    · intro h
      refine dc_aloadn (pc := 15) (j := 0) (i := 0) hC 0 rfl rfl (show decode prog_15_method_23_code 15 = .ok (.aload_n 0, 1) by decide +kernel) ?_
      refine dc_iconst (pc := 16) (v := 3) hC (show decode prog_15_method_23_code 16 = .ok (.iconst 3, 1) by decide +kernel) (by decide +kernel) ?_
      refine dc_iloadn (pc := 17) (j := 1) (i := 1) hC 1 rfl rfl (show decode prog_15_method_23_code 17 = .ok (.iload_n 1, 1) by decide +kernel) ?_
      refine dc_aloadn (pc := 18) (j := 0) (i := 0) hC 0 rfl rfl (show decode prog_15_method_23_code 18 = .ok (.aload_n 0, 1) by decide +kernel) ?_
      refine mc_Vmi (pc := 19) (As := []) (rest := [.int x1, .int 3, .ref o]) hC vw_clause_355 (hT.2.1 q1.1) (by omega) (by omega) rfl (Nat.le_of_ble_eq_true rfl) (show decode prog_15_method_23_code 19 = .ok (.invokevirtual 355, 3) by decide +kernel) h ?_
      intro q2 h
      refine mc_Vmi (pc := 22) (As := [.int 3, .int x1, .int q2.2]) (rest := []) hC vw_piece_III_359 (mm_piece_III_ok l D ad de o a ca q2.1 3 x1 q2.2) (by omega) (by omega) rfl (Nat.le_of_ble_eq_true rfl) (show decode prog_15_method_23_code 22 = .ok (.invokevirtual 359, 3) by decide +kernel) h ?_
      intro q3 h
      refine dc_istoren (pc := 25) (j := 1) (i := 1) (lv' := [(1, .int q3.2), (0, .ref o)]) hC rfl (Nat.le_of_ble_eq_true rfl) rfl (show decode prog_15_method_23_code 25 = .ok (.istore_n 1, 1) by decide +kernel) ?_
      refine dc_goto (pc := 26) (tgt := 5) hC (show decode prog_15_method_23_code 26 = .ok (.goto (-21), 3) by decide +kernel) (by decide +kernel) ?_
      exact dc_sub [1, 0] rfl (hl_5 (q3.1, q3.2) (dc_some h))
  have lab_5 : ∀ (S : md_S) (x1 : Int32), dc_wp (mm_asked_L5 T S x1) F → dc_G X l { frames := d + 1 + 4, cells := 0, slots := 0, locals := 22 * (d + 1) + 84 } D 2 0 0 (md_W o a ca S) 5 [(0, .ref o), (1, .int x1)] [] := fun S x1 h => loop_5  (S, x1) (dc_bind h)
  show dc_G X l { frames := d + 1 + 4, cells := 0, slots := 0, locals := 22 * (d + 1) + 84 } D 2 0 0 (md_W o a ca S) 0 [(0, .ref o)] []
  delta mm_asked at h
  refine dc_aloadn (pc := 0) (j := 0) (i := 0) hC 0 rfl rfl (show decode prog_15_method_23_code 0 = .ok (.aload_n 0, 1) by decide +kernel) ?_
  refine mc_Vmi (pc := 1) (As := []) (rest := []) hC vw_clause_355 (hT.2.1 S) (by omega) (by omega) rfl (Nat.le_of_ble_eq_true rfl) (show decode prog_15_method_23_code 1 = .ok (.invokevirtual 355, 3) by decide +kernel) h ?_
  intro q4 h
  refine dc_istoren (pc := 4) (j := 1) (i := 1) (lv' := [(1, .int q4.2), (0, .ref o)]) hC rfl (Nat.le_of_ble_eq_true rfl) rfl (show decode prog_15_method_23_code 4 = .ok (.istore_n 1, 1) by decide +kernel) ?_
  exact dc_sub [1, 0] rfl (lab_5 q4.1 q4.2 h)
noncomputable def mm_clause_L29 (T : mm_T1) (S : md_S) (x1 : Int32) : Option (md_S × Int32) :=
  some (S, x1)
noncomputable def mm_clause_b5 (T : mm_T1) (S : md_S) (x1 : Int32) : Option ((md_S × Int32) ⊕ ((md_S × Int32))) :=
  (mm_meetsWord S 6385252).bind fun q1 => if q1.2 = 0 then (some (.inr (q1.1, x1))) else ((T.2.2 q1.1).bind fun q2 => (mm_piece_III q2.1 2 x1 q2.2).bind fun q3 => some (.inl (q3.1, q3.2)))
noncomputable def mm_clause_s5 (T : mm_T1) (q : md_S × Int32) : Option ((md_S × Int32) ⊕ ((md_S × Int32))) :=
  mm_clause_b5 T q.1 q.2
noncomputable def mm_clause_L5 (T : mm_T1) (S : md_S) (x1 : Int32) : Option (md_S × Int32) :=
  (dc_it (mm_clause_s5 T) (S, x1)).bind (fun (z : md_S × Int32) => mm_clause_L29 T z.1 z.2)
noncomputable def mm_clause (T : mm_T1) (S : md_S) : Option (md_S × Int32) :=
  (T.2.2 S).bind fun q4 => mm_clause_L5 T q4.1 q4.2
set_option maxHeartbeats 4000000 in
set_option maxRecDepth 100000 in
/-- clause()I -/
theorem mm_clause_ok (l : Launch) (D : va_G) (ad : Nat → Nat) (de : Nat) (o : Nat) (a : Nat → Nat) (ca : Nat → ClassId) (T : mm_T1) (d : Nat) (hT : mm_OK1 l D ad de o a ca T d) (S : md_S) (F : (md_S × Int32) → Prop) (h : dc_wp (mm_clause T S) F) : dc_Ci l ⟨"SignalEngineModel", "clause", "()I"⟩ prog_15_method_24_code 2 (some (.int)) (d + 1 + 4) (22 * (d + 1) + 84) D (md_T ca) ad de [.ref o] (md_W o a ca S) (fun r w => ∃ q, F q ∧ r = q.2 ∧ w = md_W o a ca q.1) 0 0 := by
  refine dc_enteri (by decide +kernel) (Nat.le_of_ble_eq_true rfl) ?_
  intro X hC hR
  have lab_29 : ∀ (S : md_S) (x1 : Int32), dc_wp (mm_clause_L29 T S x1) F → dc_G X l { frames := d + 1 + 4, cells := 0, slots := 0, locals := 22 * (d + 1) + 84 } D 2 0 0 (md_W o a ca S) 29 [(0, .ref o), (1, .int x1)] [] := by
    intro S x1 h
    delta mm_clause_L29 at h
    refine dc_iloadn (pc := 29) (j := 1) (i := 1) hC 1 rfl rfl (show decode prog_15_method_24_code 29 = .ok (.iload_n 1, 1) by decide +kernel) ?_
    exact dc_iret (pc := 30) hC hR ⟨_, dc_some h, rfl, rfl⟩ (show decode prog_15_method_24_code 30 = .ok (.ireturn, 1) by decide +kernel)
  have loop_5 : ∀ (q : md_S × Int32), dc_wp (dc_it (mm_clause_s5 T) q) (fun z => dc_wp ((fun (z : md_S × Int32) => mm_clause_L29 T z.1 z.2) z) F) → dc_G X l { frames := d + 1 + 4, cells := 0, slots := 0, locals := 22 * (d + 1) + 84 } D 2 0 0 (md_W o a ca q.1) 5 [(0, .ref o), (1, .int q.2)] [] := by
    refine dc_loopF ?_
    intro F_5 hl_5 hr_5
    rintro ⟨S, x1⟩ h
    have h : dc_wp (mm_clause_b5 T S x1) F_5 := h
    delta mm_clause_b5 at h
    refine dc_aloadn (pc := 5) (j := 0) (i := 0) hC 0 rfl rfl (show decode prog_15_method_24_code 5 = .ok (.aload_n 0, 1) by decide +kernel) ?_
    refine dc_ldc2 (pc := 6) (v := 6385252) hC w_1968 (show decode prog_15_method_24_code 6 = .ok (.ldc2_w 309, 3) by decide +kernel) ?_
    refine mc_Vmi (pc := 9) (As := [.long 6385252]) (rest := []) hC vw_meetsWord_264 (mm_meetsWord_ok l D ad de o a ca S 6385252) (by omega) (by omega) rfl (Nat.le_of_ble_eq_true rfl) (show decode prog_15_method_24_code 9 = .ok (.invokevirtual 264, 3) by decide +kernel) h ?_
    intro q1 h
    refine dc_if_eq (pc := 12) (tgt := 29) hC (show decode prog_15_method_24_code 12 = .ok (.ifCond .eq 17, 3) by decide +kernel) (by decide +kernel) h ?_ ?_
    · intro h
      have h : dc_wp (mm_clause_L29 T q1.1 x1) F := hr_5 (q1.1, x1) (dc_some h)
      exact lab_29 q1.1 x1 h
    · intro h
      refine dc_aloadn (pc := 15) (j := 0) (i := 0) hC 0 rfl rfl (show decode prog_15_method_24_code 15 = .ok (.aload_n 0, 1) by decide +kernel) ?_
      refine dc_iconst (pc := 16) (v := 2) hC (show decode prog_15_method_24_code 16 = .ok (.iconst 2, 1) by decide +kernel) (by decide +kernel) ?_
      refine dc_iloadn (pc := 17) (j := 1) (i := 1) hC 1 rfl rfl (show decode prog_15_method_24_code 17 = .ok (.iload_n 1, 1) by decide +kernel) ?_
      refine dc_aloadn (pc := 18) (j := 0) (i := 0) hC 0 rfl rfl (show decode prog_15_method_24_code 18 = .ok (.aload_n 0, 1) by decide +kernel) ?_
      refine mc_Vmi (pc := 19) (As := []) (rest := [.int x1, .int 2, .ref o]) hC vw_part_363 (hT.2.2 q1.1) (by omega) (by omega) rfl (Nat.le_of_ble_eq_true rfl) (show decode prog_15_method_24_code 19 = .ok (.invokevirtual 363, 3) by decide +kernel) h ?_
      intro q2 h
      refine mc_Vmi (pc := 22) (As := [.int 2, .int x1, .int q2.2]) (rest := []) hC vw_piece_III_359 (mm_piece_III_ok l D ad de o a ca q2.1 2 x1 q2.2) (by omega) (by omega) rfl (Nat.le_of_ble_eq_true rfl) (show decode prog_15_method_24_code 22 = .ok (.invokevirtual 359, 3) by decide +kernel) h ?_
      intro q3 h
      refine dc_istoren (pc := 25) (j := 1) (i := 1) (lv' := [(1, .int q3.2), (0, .ref o)]) hC rfl (Nat.le_of_ble_eq_true rfl) rfl (show decode prog_15_method_24_code 25 = .ok (.istore_n 1, 1) by decide +kernel) ?_
      refine dc_goto (pc := 26) (tgt := 5) hC (show decode prog_15_method_24_code 26 = .ok (.goto (-21), 3) by decide +kernel) (by decide +kernel) ?_
      exact dc_sub [1, 0] rfl (hl_5 (q3.1, q3.2) (dc_some h))
  have lab_5 : ∀ (S : md_S) (x1 : Int32), dc_wp (mm_clause_L5 T S x1) F → dc_G X l { frames := d + 1 + 4, cells := 0, slots := 0, locals := 22 * (d + 1) + 84 } D 2 0 0 (md_W o a ca S) 5 [(0, .ref o), (1, .int x1)] [] := fun S x1 h => loop_5  (S, x1) (dc_bind h)
  show dc_G X l { frames := d + 1 + 4, cells := 0, slots := 0, locals := 22 * (d + 1) + 84 } D 2 0 0 (md_W o a ca S) 0 [(0, .ref o)] []
  delta mm_clause at h
  refine dc_aloadn (pc := 0) (j := 0) (i := 0) hC 0 rfl rfl (show decode prog_15_method_24_code 0 = .ok (.aload_n 0, 1) by decide +kernel) ?_
  refine mc_Vmi (pc := 1) (As := []) (rest := []) hC vw_part_363 (hT.2.2 S) (by omega) (by omega) rfl (Nat.le_of_ble_eq_true rfl) (show decode prog_15_method_24_code 1 = .ok (.invokevirtual 363, 3) by decide +kernel) h ?_
  intro q4 h
  refine dc_istoren (pc := 4) (j := 1) (i := 1) (lv' := [(1, .int q4.2), (0, .ref o)]) hC rfl (Nat.le_of_ble_eq_true rfl) rfl (show decode prog_15_method_24_code 4 = .ok (.istore_n 1, 1) by decide +kernel) ?_
  exact dc_sub [1, 0] rfl (lab_5 q4.1 q4.2 h)
noncomputable def mm_part_L94 (T : mm_T1) (S : md_S) (x2 : Int32) : Option (md_S × Int32) :=
  dc_let (md_i S 11 ((S.1 11) - 1)) fun S1 => some (S1, x2)
noncomputable def mm_part_L71 (T : mm_T1) (S : md_S) (x1 : Int32) (y0 : Int32) : Option (md_S × Int32) :=
  if x1 = 0 then ((mm_meetsSign S 41).bind fun q2 => if q2.2 = 0 then ((mm_fail q2.1 1 (q2.1.1 8)).bind fun q3 => mm_part_L94 T q3 y0) else (mm_part_L94 T q2.1 y0)) else (mm_part_L94 T S y0)
noncomputable def mm_part_L33 (T : mm_T1) (S : md_S) (x1 : Int32) : Option (md_S × Int32) :=
  (mm_deeper S).bind fun q4 => if (0 : Int32) < (q4.1 10) then (some (q4, 0)) else ((mm_advance q4).bind fun q5 => if x1 = 0 then ((T.1 q5).bind fun q6 => mm_part_L71 T q6.1 x1 q6.2) else ((T.2.2 q5).bind fun q7 => (mm_piece_III q7.1 1 q7.2 (-1)).bind fun q8 => mm_part_L71 T q8.1 x1 q8.2))
noncomputable def mm_part (T : mm_T1) (S : md_S) : Option (md_S × Int32) :=
  (mm_isWord S 7237492).bind fun q9 => if q9 = 0 then ((mm_isSign S 40).bind fun q10 => if q10 = 0 then ((mm_named S 0).bind fun q11 => (mm_piece_III q11.1 0 q11.2 (-1)).bind fun q12 => some (q12.1, q12.2)) else (mm_part_L33 T S q9)) else (mm_part_L33 T S q9)
set_option maxHeartbeats 4000000 in
set_option maxRecDepth 100000 in
/-- part()I -/
theorem mm_part_ok (l : Launch) (D : va_G) (ad : Nat → Nat) (de : Nat) (o : Nat) (a : Nat → Nat) (ca : Nat → ClassId) (T : mm_T1) (d : Nat) (hT : mm_OK1 l D ad de o a ca T d) (S : md_S) (F : (md_S × Int32) → Prop) (h : dc_wp (mm_part T S) F) : dc_Ci l ⟨"SignalEngineModel", "part", "()I"⟩ prog_15_method_25_code 3 (some (.int)) (d + 1 + 4) (22 * (d + 1) + 84) D (md_T ca) ad de [.ref o] (md_W o a ca S) (fun r w => ∃ q, F q ∧ r = q.2 ∧ w = md_W o a ca q.1) 0 0 := by
  refine dc_enteri (by decide +kernel) (Nat.le_of_ble_eq_true rfl) ?_
  intro X hC hR
  have lab_94 : ∀ (S : md_S) (x2 : Int32), dc_wp (mm_part_L94 T S x2) F → dc_G X l { frames := d + 1 + 4, cells := 0, slots := 0, locals := 22 * (d + 1) + 84 } D 3 0 0 (md_W o a ca S) 94 [(0, .ref o), (2, .int x2)] [] := by
    intro S x2 h
    delta mm_part_L94 at h
    refine dc_aloadn (pc := 94) (j := 0) (i := 0) hC 0 rfl rfl (show decode prog_15_method_25_code 94 = .ok (.aload_n 0, 1) by decide +kernel) ?_
    refine dc_dup (pc := 95) hC (show decode prog_15_method_25_code 95 = .ok (.dup, 1) by decide +kernel) rfl ?_
    refine md_g11 (pc := 96) hC (show decode prog_15_method_25_code 96 = .ok (.getfield 334, 3) by decide +kernel) ?_
    refine dc_iconst (pc := 99) (v := 1) hC (show decode prog_15_method_25_code 99 = .ok (.iconst 1, 1) by decide +kernel) (by decide +kernel) ?_
    refine dc_isub (pc := 100) hC (show decode prog_15_method_25_code 100 = .ok (.isub, 1) by decide +kernel) ?_
    refine md_p11 (pc := 101) hC (show decode prog_15_method_25_code 101 = .ok (.putfield 334, 3) by decide +kernel) ?_
    refine dc_letS h ?_
    intro S1 h
    refine dc_iloadn (pc := 104) (j := 2) (i := 2) hC 1 rfl rfl (show decode prog_15_method_25_code 104 = .ok (.iload_n 2, 1) by decide +kernel) ?_
    exact dc_iret (pc := 105) hC hR ⟨_, dc_some h, rfl, rfl⟩ (show decode prog_15_method_25_code 105 = .ok (.ireturn, 1) by decide +kernel)
  have lab_71 : ∀ (S : md_S) (x1 : Int32) (y0 : Int32), dc_wp (mm_part_L71 T S x1 y0) F → dc_G X l { frames := d + 1 + 4, cells := 0, slots := 0, locals := 22 * (d + 1) + 84 } D 3 0 0 (md_W o a ca S) 71 [(0, .ref o), (1, .int x1)] [.int y0] := by
    intro S x1 y0 h
    delta mm_part_L71 at h
    refine dc_istoren (pc := 71) (j := 2) (i := 2) (lv' := [(2, .int y0), (0, .ref o), (1, .int x1)]) hC rfl (Nat.le_of_ble_eq_true rfl) rfl (show decode prog_15_method_25_code 71 = .ok (.istore_n 2, 1) by decide +kernel) ?_
    refine dc_iloadn (pc := 72) (j := 1) (i := 1) hC 2 rfl rfl (show decode prog_15_method_25_code 72 = .ok (.iload_n 1, 1) by decide +kernel) ?_
    refine dc_if_ne (pc := 73) (tgt := 94) hC (show decode prog_15_method_25_code 73 = .ok (.ifCond .ne 21, 3) by decide +kernel) (by decide +kernel) h ?_ ?_
    · intro h
      refine dc_aloadn (pc := 76) (j := 0) (i := 0) hC 1 rfl rfl (show decode prog_15_method_25_code 76 = .ok (.aload_n 0, 1) by decide +kernel) ?_
      refine dc_bipush (pc := 77) (v := 41) hC (show decode prog_15_method_25_code 77 = .ok (.bipush 41, 2) by decide +kernel) (by decide +kernel) ?_
      refine mc_Vmi (pc := 79) (As := [.int 41]) (rest := []) hC vw_meetsSign_346 (mm_meetsSign_ok l D ad de o a ca S 41) (by omega) (by omega) rfl (Nat.le_of_ble_eq_true rfl) (show decode prog_15_method_25_code 79 = .ok (.invokevirtual 346, 3) by decide +kernel) h ?_
      intro q2 h
      refine dc_if_ne (pc := 82) (tgt := 94) hC (show decode prog_15_method_25_code 82 = .ok (.ifCond .ne 12, 3) by decide +kernel) (by decide +kernel) h ?_ ?_
      · intro h
        refine dc_aloadn (pc := 85) (j := 0) (i := 0) hC 1 rfl rfl (show decode prog_15_method_25_code 85 = .ok (.aload_n 0, 1) by decide +kernel) ?_
        refine dc_iconst (pc := 86) (v := 1) hC (show decode prog_15_method_25_code 86 = .ok (.iconst 1, 1) by decide +kernel) (by decide +kernel) ?_
        refine dc_aloadn (pc := 87) (j := 0) (i := 0) hC 1 rfl rfl (show decode prog_15_method_25_code 87 = .ok (.aload_n 0, 1) by decide +kernel) ?_
        refine md_g8 (pc := 88) hC (show decode prog_15_method_25_code 88 = .ok (.getfield 237, 3) by decide +kernel) ?_
        refine mc_Vmv (pc := 91) (As := [.int 1, .int (q2.1.1 8)]) (rest := []) hC vw_fail_267 (mm_fail_ok l D ad de o a ca q2.1 1 (q2.1.1 8)) (by omega) (by omega) rfl (Nat.le_of_ble_eq_true rfl) (show decode prog_15_method_25_code 91 = .ok (.invokevirtual 267, 3) by decide +kernel) h ?_
        intro q3 h
        exact dc_sub [1, 0] rfl (lab_94 q3 y0 h)
      · intro h
        exact dc_sub [1, 0] rfl (lab_94 q2.1 y0 h)
    · intro h
      exact dc_sub [1, 0] rfl (lab_94 S y0 h)
  have lab_33 : ∀ (S : md_S) (x1 : Int32), dc_wp (mm_part_L33 T S x1) F → dc_G X l { frames := d + 1 + 4, cells := 0, slots := 0, locals := 22 * (d + 1) + 84 } D 3 0 0 (md_W o a ca S) 33 [(0, .ref o), (1, .int x1)] [] := by
    intro S x1 h
    delta mm_part_L33 at h
    refine dc_aloadn (pc := 33) (j := 0) (i := 0) hC 0 rfl rfl (show decode prog_15_method_25_code 33 = .ok (.aload_n 0, 1) by decide +kernel) ?_
    refine mc_Vmv (pc := 34) (As := []) (rest := []) hC vw_deeper_370 (mm_deeper_ok l D ad de o a ca S) (by omega) (by omega) rfl (Nat.le_of_ble_eq_true rfl) (show decode prog_15_method_25_code 34 = .ok (.invokevirtual 370, 3) by decide +kernel) h ?_
    intro q4 h
    refine dc_aloadn (pc := 37) (j := 0) (i := 0) hC 0 rfl rfl (show decode prog_15_method_25_code 37 = .ok (.aload_n 0, 1) by decide +kernel) ?_
    refine md_g10 (pc := 38) hC (show decode prog_15_method_25_code 38 = .ok (.getfield 221, 3) by decide +kernel) ?_
    refine dc_if_le (pc := 41) (tgt := 46) hC (show decode prog_15_method_25_code 41 = .ok (.ifCond .le 5, 3) by decide +kernel) (by decide +kernel) h ?_ ?_
    · intro h
      refine dc_iconst (pc := 44) (v := 0) hC (show decode prog_15_method_25_code 44 = .ok (.iconst 0, 1) by decide +kernel) (by decide +kernel) ?_
      exact dc_iret (pc := 45) hC hR ⟨_, dc_some h, rfl, rfl⟩ (show decode prog_15_method_25_code 45 = .ok (.ireturn, 1) by decide +kernel)
    · intro h
      refine dc_aloadn (pc := 46) (j := 0) (i := 0) hC 0 rfl rfl (show decode prog_15_method_25_code 46 = .ok (.aload_n 0, 1) by decide +kernel) ?_
      refine mc_Vmv (pc := 47) (As := []) (rest := []) hC vw_advance_258 (mm_advance_ok l D ad de o a ca q4) (by omega) (by omega) rfl (Nat.le_of_ble_eq_true rfl) (show decode prog_15_method_25_code 47 = .ok (.invokevirtual 258, 3) by decide +kernel) h ?_
      intro q5 h
      refine dc_iloadn (pc := 50) (j := 1) (i := 1) hC 1 rfl rfl (show decode prog_15_method_25_code 50 = .ok (.iload_n 1, 1) by decide +kernel) ?_
      refine dc_if_eq (pc := 51) (tgt := 67) hC (show decode prog_15_method_25_code 51 = .ok (.ifCond .eq 16, 3) by decide +kernel) (by decide +kernel) h ?_ ?_
      · intro h
        refine dc_aloadn (pc := 67) (j := 0) (i := 0) hC 0 rfl rfl (show decode prog_15_method_25_code 67 = .ok (.aload_n 0, 1) by decide +kernel) ?_
        refine mc_Vmi (pc := 68) (As := []) (rest := []) hC vw_asked_373 (hT.1 q5) (by omega) (by omega) rfl (Nat.le_of_ble_eq_true rfl) (show decode prog_15_method_25_code 68 = .ok (.invokevirtual 373, 3) by decide +kernel) h ?_
        intro q6 h
        exact lab_71 q6.1 x1 q6.2 h
      · intro h
        refine dc_aloadn (pc := 54) (j := 0) (i := 0) hC 0 rfl rfl (show decode prog_15_method_25_code 54 = .ok (.aload_n 0, 1) by decide +kernel) ?_
        refine dc_iconst (pc := 55) (v := 1) hC (show decode prog_15_method_25_code 55 = .ok (.iconst 1, 1) by decide +kernel) (by decide +kernel) ?_
        refine dc_aloadn (pc := 56) (j := 0) (i := 0) hC 0 rfl rfl (show decode prog_15_method_25_code 56 = .ok (.aload_n 0, 1) by decide +kernel) ?_
        refine mc_Vmi (pc := 57) (As := []) (rest := [.int 1, .ref o]) hC vw_part_363 (hT.2.2 q5) (by omega) (by omega) rfl (Nat.le_of_ble_eq_true rfl) (show decode prog_15_method_25_code 57 = .ok (.invokevirtual 363, 3) by decide +kernel) h ?_
        intro q7 h
        refine dc_iconst (pc := 60) (v := (-1)) hC (show decode prog_15_method_25_code 60 = .ok (.iconst (-1), 1) by decide +kernel) (by decide +kernel) ?_
        refine mc_Vmi (pc := 61) (As := [.int 1, .int q7.2, .int (-1)]) (rest := []) hC vw_piece_III_359 (mm_piece_III_ok l D ad de o a ca q7.1 1 q7.2 (-1)) (by omega) (by omega) rfl (Nat.le_of_ble_eq_true rfl) (show decode prog_15_method_25_code 61 = .ok (.invokevirtual 359, 3) by decide +kernel) h ?_
        intro q8 h
        refine dc_goto (pc := 64) (tgt := 71) hC (show decode prog_15_method_25_code 64 = .ok (.goto 7, 3) by decide +kernel) (by decide +kernel) ?_
        exact lab_71 q8.1 x1 q8.2 h
  show dc_G X l { frames := d + 1 + 4, cells := 0, slots := 0, locals := 22 * (d + 1) + 84 } D 3 0 0 (md_W o a ca S) 0 [(0, .ref o)] []
  delta mm_part at h
  refine dc_aloadn (pc := 0) (j := 0) (i := 0) hC 0 rfl rfl (show decode prog_15_method_25_code 0 = .ok (.aload_n 0, 1) by decide +kernel) ?_
  refine dc_ldc2 (pc := 1) (v := 7237492) hC w_1967 (show decode prog_15_method_25_code 1 = .ok (.ldc2_w 307, 3) by decide +kernel) ?_
  refine mc_Vpi (pc := 4) (As := [.long 7237492]) (rest := []) hC vw_isWord_254 (mm_isWord_ok l D ad de o a ca S 7237492) (by omega) (by omega) rfl (Nat.le_of_ble_eq_true rfl) (show decode prog_15_method_25_code 4 = .ok (.invokevirtual 254, 3) by decide +kernel) h ?_
  intro q9 h
  refine dc_istoren (pc := 7) (j := 1) (i := 1) (lv' := [(1, .int q9), (0, .ref o)]) hC rfl (Nat.le_of_ble_eq_true rfl) rfl (show decode prog_15_method_25_code 7 = .ok (.istore_n 1, 1) by decide +kernel) ?_
  refine dc_iloadn (pc := 8) (j := 1) (i := 1) hC 0 rfl rfl (show decode prog_15_method_25_code 8 = .ok (.iload_n 1, 1) by decide +kernel) ?_
  refine dc_if_ne (pc := 9) (tgt := 33) hC (show decode prog_15_method_25_code 9 = .ok (.ifCond .ne 24, 3) by decide +kernel) (by decide +kernel) h ?_ ?_
  · intro h
    refine dc_aloadn (pc := 12) (j := 0) (i := 0) hC 1 rfl rfl (show decode prog_15_method_25_code 12 = .ok (.aload_n 0, 1) by decide +kernel) ?_
    refine dc_bipush (pc := 13) (v := 40) hC (show decode prog_15_method_25_code 13 = .ok (.bipush 40, 2) by decide +kernel) (by decide +kernel) ?_
    refine mc_Vpi (pc := 15) (As := [.int 40]) (rest := []) hC vw_isSign_261 (mm_isSign_ok l D ad de o a ca S 40) (by omega) (by omega) rfl (Nat.le_of_ble_eq_true rfl) (show decode prog_15_method_25_code 15 = .ok (.invokevirtual 261, 3) by decide +kernel) h ?_
    intro q10 h
    refine dc_if_ne (pc := 18) (tgt := 33) hC (show decode prog_15_method_25_code 18 = .ok (.ifCond .ne 15, 3) by decide +kernel) (by decide +kernel) h ?_ ?_
    · intro h
      refine dc_aloadn (pc := 21) (j := 0) (i := 0) hC 1 rfl rfl (show decode prog_15_method_25_code 21 = .ok (.aload_n 0, 1) by decide +kernel) ?_
      refine dc_iconst (pc := 22) (v := 0) hC (show decode prog_15_method_25_code 22 = .ok (.iconst 0, 1) by decide +kernel) (by decide +kernel) ?_
      refine dc_aloadn (pc := 23) (j := 0) (i := 0) hC 1 rfl rfl (show decode prog_15_method_25_code 23 = .ok (.aload_n 0, 1) by decide +kernel) ?_
      refine dc_iconst (pc := 24) (v := 0) hC (show decode prog_15_method_25_code 24 = .ok (.iconst 0, 1) by decide +kernel) (by decide +kernel) ?_
      refine mc_Vmi (pc := 25) (As := [.int 0]) (rest := [.int 0, .ref o]) hC vw_named_366 (mm_named_ok l D ad de o a ca S 0) (by omega) (by omega) rfl (Nat.le_of_ble_eq_true rfl) (show decode prog_15_method_25_code 25 = .ok (.invokevirtual 366, 3) by decide +kernel) h ?_
      intro q11 h
      refine dc_iconst (pc := 28) (v := (-1)) hC (show decode prog_15_method_25_code 28 = .ok (.iconst (-1), 1) by decide +kernel) (by decide +kernel) ?_
      refine mc_Vmi (pc := 29) (As := [.int 0, .int q11.2, .int (-1)]) (rest := []) hC vw_piece_III_359 (mm_piece_III_ok l D ad de o a ca q11.1 0 q11.2 (-1)) (by omega) (by omega) rfl (Nat.le_of_ble_eq_true rfl) (show decode prog_15_method_25_code 29 = .ok (.invokevirtual 359, 3) by decide +kernel) h ?_
      intro q12 h
      exact dc_iret (pc := 32) hC hR ⟨_, dc_some h, rfl, rfl⟩ (show decode prog_15_method_25_code 32 = .ok (.ireturn, 1) by decide +kernel)
    · intro h
      exact dc_sub [1, 0] rfl (lab_33 S q9 h)
  · intro h
    exact dc_sub [1, 0] rfl (lab_33 S q9 h)
noncomputable def mm_P1 : Nat → mm_T1
  | 0 => (fun _ => none, fun _ => none, fun _ => none)
  | d + 1 => (mm_asked (mm_P1 d), mm_clause (mm_P1 d), mm_part (mm_P1 d))
theorem mm_P1_ok (l : Launch) (D : va_G) (ad : Nat → Nat) (de : Nat) (o : Nat) (a : Nat → Nat) (ca : Nat → ClassId) : ∀ d : Nat, mm_OK1 l D ad de o a ca (mm_P1 d) d
  | 0 => ⟨fun _ _ h => (dc_not h).elim, fun _ _ h => (dc_not h).elim, fun _ _ h => (dc_not h).elim⟩
  | d + 1 => ⟨mm_asked_ok l D ad de o a ca (mm_P1 d) d (mm_P1_ok l D ad de o a ca d), mm_clause_ok l D ad de o a ca (mm_P1 d) d (mm_P1_ok l D ad de o a ca d), mm_part_ok l D ad de o a ca (mm_P1 d) d (mm_P1_ok l D ad de o a ca d)⟩
def mm_d1 : Nat := 300
noncomputable def mm_asked_r (S : md_S) : Option (md_S × Int32) := (mm_P1 mm_d1).1 S
theorem mm_asked_r_ok (l : Launch) (D : va_G) (ad : Nat → Nat) (de : Nat) (o : Nat) (a : Nat → Nat) (ca : Nat → ClassId) (S : md_S) (F : (md_S × Int32) → Prop) (h : dc_wp (mm_asked_r S) F) : dc_Ci l ⟨"SignalEngineModel", "asked", "()I"⟩ prog_15_method_23_code 2 (some (.int)) 304 6684 D (md_T ca) ad de [.ref o] (md_W o a ca S) (fun r w => ∃ q, F q ∧ r = q.2 ∧ w = md_W o a ca q.1) 0 0 :=
  (mm_P1_ok l D ad de o a ca mm_d1).1 S F h
noncomputable def mm_clause_r (S : md_S) : Option (md_S × Int32) := (mm_P1 mm_d1).2.1 S
theorem mm_clause_r_ok (l : Launch) (D : va_G) (ad : Nat → Nat) (de : Nat) (o : Nat) (a : Nat → Nat) (ca : Nat → ClassId) (S : md_S) (F : (md_S × Int32) → Prop) (h : dc_wp (mm_clause_r S) F) : dc_Ci l ⟨"SignalEngineModel", "clause", "()I"⟩ prog_15_method_24_code 2 (some (.int)) 304 6684 D (md_T ca) ad de [.ref o] (md_W o a ca S) (fun r w => ∃ q, F q ∧ r = q.2 ∧ w = md_W o a ca q.1) 0 0 :=
  (mm_P1_ok l D ad de o a ca mm_d1).2.1 S F h
noncomputable def mm_part_r (S : md_S) : Option (md_S × Int32) := (mm_P1 mm_d1).2.2 S
theorem mm_part_r_ok (l : Launch) (D : va_G) (ad : Nat → Nat) (de : Nat) (o : Nat) (a : Nat → Nat) (ca : Nat → ClassId) (S : md_S) (F : (md_S × Int32) → Prop) (h : dc_wp (mm_part_r S) F) : dc_Ci l ⟨"SignalEngineModel", "part", "()I"⟩ prog_15_method_25_code 3 (some (.int)) 304 6684 D (md_T ca) ad de [.ref o] (md_W o a ca S) (fun r w => ∃ q, F q ∧ r = q.2 ∧ w = md_W o a ca q.1) 0 0 :=
  (mm_P1_ok l D ad de o a ca mm_d1).2.2 S F h
noncomputable def mm_mustWord_L17 (S : md_S) : Option (md_S) :=
  some S
noncomputable def mm_mustWord (S : md_S) (p1 : Int64) : Option (md_S) :=
  (mm_meetsWord S p1).bind fun q1 => if q1.2 = 0 then ((mm_fail q1.1 1 (q1.1.1 8)).bind fun q2 => mm_mustWord_L17 q2) else (mm_mustWord_L17 q1.1)
set_option maxHeartbeats 4000000 in
set_option maxRecDepth 100000 in
/-- mustWord(J)V -/
theorem mm_mustWord_ok (l : Launch) (D : va_G) (ad : Nat → Nat) (de : Nat) (o : Nat) (a : Nat → Nat) (ca : Nat → ClassId) (S : md_S) (p1 : Int64) (F : md_S → Prop) (h : dc_wp (mm_mustWord S p1) F) : dc_Cv l ⟨"SignalEngineModel", "mustWord", "(J)V"⟩ prog_15_method_15_code 3 none 4 84 D (md_T ca) ad de [.ref o, .long p1] (md_W o a ca S) (fun w => ∃ q, F q ∧ w = md_W o a ca q) 0 0 := by
  refine dc_enterv (by decide +kernel) (Nat.le_of_ble_eq_true rfl) ?_
  intro X hC hR
  have lab_17 : ∀ (S : md_S), dc_wp (mm_mustWord_L17 S) F → dc_G X l { frames := 4, cells := 0, slots := 0, locals := 84 } D 3 0 0 (md_W o a ca S) 17 [(0, .ref o)] [] := by
    intro S  h
    delta mm_mustWord_L17 at h
    exact dc_vret (pc := 17) hC hR ⟨_, dc_some h, rfl⟩ (show decode prog_15_method_15_code 17 = .ok (.return_, 1) by decide +kernel)
  show dc_G X l { frames := 4, cells := 0, slots := 0, locals := 84 } D 3 0 0 (md_W o a ca S) 0 [(0, .ref o), (1, .long p1)] []
  delta mm_mustWord at h
  refine dc_aloadn (pc := 0) (j := 0) (i := 0) hC 0 rfl rfl (show decode prog_15_method_15_code 0 = .ok (.aload_n 0, 1) by decide +kernel) ?_
  refine dc_lloadn (pc := 1) (j := 1) (i := 1) hC 1 rfl rfl (show decode prog_15_method_15_code 1 = .ok (.lload_n 1, 1) by decide +kernel) ?_
  refine mc_Vmi (pc := 2) (As := [.long p1]) (rest := []) hC vw_meetsWord_264 (mm_meetsWord_ok l D ad de o a ca S p1) (Nat.le_of_ble_eq_true rfl) (Nat.le_of_ble_eq_true rfl) rfl (Nat.le_of_ble_eq_true rfl) (show decode prog_15_method_15_code 2 = .ok (.invokevirtual 264, 3) by decide +kernel) h ?_
  intro q1 h
  refine dc_if_ne (pc := 5) (tgt := 17) hC (show decode prog_15_method_15_code 5 = .ok (.ifCond .ne 12, 3) by decide +kernel) (by decide +kernel) h ?_ ?_
  · intro h
    refine dc_aloadn (pc := 8) (j := 0) (i := 0) hC 0 rfl rfl (show decode prog_15_method_15_code 8 = .ok (.aload_n 0, 1) by decide +kernel) ?_
    refine dc_iconst (pc := 9) (v := 1) hC (show decode prog_15_method_15_code 9 = .ok (.iconst 1, 1) by decide +kernel) (by decide +kernel) ?_
    refine dc_aloadn (pc := 10) (j := 0) (i := 0) hC 0 rfl rfl (show decode prog_15_method_15_code 10 = .ok (.aload_n 0, 1) by decide +kernel) ?_
    refine md_g8 (pc := 11) hC (show decode prog_15_method_15_code 11 = .ok (.getfield 237, 3) by decide +kernel) ?_
    refine mc_Vmv (pc := 14) (As := [.int 1, .int (q1.1.1 8)]) (rest := []) hC vw_fail_267 (mm_fail_ok l D ad de o a ca q1.1 1 (q1.1.1 8)) (Nat.le_of_ble_eq_true rfl) (Nat.le_of_ble_eq_true rfl) rfl (Nat.le_of_ble_eq_true rfl) (show decode prog_15_method_15_code 14 = .ok (.invokevirtual 267, 3) by decide +kernel) h ?_
    intro q2 h
    exact dc_sub [0] rfl (lab_17 q2 h)
  · intro h
    exact dc_sub [0] rfl (lab_17 q1.1 h)
noncomputable def mm_node_IIIIII (S : md_S) (p1 : Int32) (p2 : Int32) (p3 : Int32) (p4 : Int32) (p5 : Int32) (p6 : Int32) : Option (md_S × Int32) :=
  if (S.1 27) = 1200 then (dc_let (md_i S 12 1) fun S1 => some (S1, 0)) else ((dc_ix (S.1 27) 1200).bind fun j2 => dc_let (md_a S 30 j2 p1) fun S3 => (dc_ix (S3.1 27) 1200).bind fun j4 => dc_let (md_a S3 31 j4 p2) fun S5 => (dc_ix (S5.1 27) 1200).bind fun j6 => dc_let (md_a S5 32 j6 p3) fun S7 => (dc_ix (S7.1 27) 1200).bind fun j8 => dc_let (md_a S7 33 j8 p4) fun S9 => (dc_ix (S9.1 27) 1200).bind fun j10 => dc_let (md_a S9 34 j10 p5) fun S11 => (dc_ix (S11.1 27) 1200).bind fun j12 => dc_let (md_a S11 35 j12 p6) fun S13 => dc_let (md_i S13 27 ((S13.1 27) + 1)) fun S14 => some (S14, ((S14.1 27) - 1)))
set_option maxHeartbeats 4000000 in
set_option maxRecDepth 100000 in
/-- node(IIIIII)I -/
theorem mm_node_IIIIII_ok (l : Launch) (D : va_G) (ad : Nat → Nat) (de : Nat) (o : Nat) (a : Nat → Nat) (ca : Nat → ClassId) (S : md_S) (p1 : Int32) (p2 : Int32) (p3 : Int32) (p4 : Int32) (p5 : Int32) (p6 : Int32) (F : (md_S × Int32) → Prop) (h : dc_wp (mm_node_IIIIII S p1 p2 p3 p4 p5 p6) F) : dc_Ci l ⟨"SignalEngineModel", "node", "(IIIIII)I"⟩ prog_15_method_27_code 7 (some (.int)) 0 0 D (md_T ca) ad de [.ref o, .int p1, .int p2, .int p3, .int p4, .int p5, .int p6] (md_W o a ca S) (fun r w => ∃ q, F q ∧ r = q.2 ∧ w = md_W o a ca q.1) 0 0 := by
  refine dc_enteri (by decide +kernel) (Nat.le_of_ble_eq_true rfl) ?_
  intro X hC hR
  show dc_G X l { frames := 0, cells := 0, slots := 0, locals := 0 } D 7 0 0 (md_W o a ca S) 0 [(0, .ref o), (1, .int p1), (2, .int p2), (3, .int p3), (4, .int p4), (5, .int p5), (6, .int p6)] []
  delta mm_node_IIIIII at h
  refine dc_aloadn (pc := 0) (j := 0) (i := 0) hC 0 rfl rfl (show decode prog_15_method_27_code 0 = .ok (.aload_n 0, 1) by decide +kernel) ?_
  refine md_g27 (pc := 1) hC (show decode prog_15_method_27_code 1 = .ok (.getfield 379, 3) by decide +kernel) ?_
  refine dc_sipush (pc := 4) (v := 1200) hC (show decode prog_15_method_27_code 4 = .ok (.sipush 1200, 3) by decide +kernel) (by decide +kernel) ?_
  refine dc_icmp_ne (pc := 7) (tgt := 17) hC (show decode prog_15_method_27_code 7 = .ok (.if_icmp .ne 10, 3) by decide +kernel) (by decide +kernel) h ?_ ?_
  · intro h
    refine dc_aloadn (pc := 10) (j := 0) (i := 0) hC 0 rfl rfl (show decode prog_15_method_27_code 10 = .ok (.aload_n 0, 1) by decide +kernel) ?_
    refine dc_iconst (pc := 11) (v := 1) hC (show decode prog_15_method_27_code 11 = .ok (.iconst 1, 1) by decide +kernel) (by decide +kernel) ?_
    refine md_p12 (pc := 12) hC (Or.inr rfl) (show decode prog_15_method_27_code 12 = .ok (.putfield 352, 3) by decide +kernel) ?_
    refine dc_letS h ?_
    intro S1 h
    refine dc_iconst (pc := 15) (v := 0) hC (show decode prog_15_method_27_code 15 = .ok (.iconst 0, 1) by decide +kernel) (by decide +kernel) ?_
    exact dc_iret (pc := 16) hC hR ⟨_, dc_some h, rfl, rfl⟩ (show decode prog_15_method_27_code 16 = .ok (.ireturn, 1) by decide +kernel)
  · intro h
    refine dc_aloadn (pc := 17) (j := 0) (i := 0) hC 0 rfl rfl (show decode prog_15_method_27_code 17 = .ok (.aload_n 0, 1) by decide +kernel) ?_
    refine md_g30 (pc := 18) hC (show decode prog_15_method_27_code 18 = .ok (.getfield 33, 3) by decide +kernel) ?_
    refine dc_aloadn (pc := 21) (j := 0) (i := 0) hC 0 rfl rfl (show decode prog_15_method_27_code 21 = .ok (.aload_n 0, 1) by decide +kernel) ?_
    refine md_g27 (pc := 22) hC (show decode prog_15_method_27_code 22 = .ok (.getfield 379, 3) by decide +kernel) ?_
    refine dc_iloadn (pc := 25) (j := 1) (i := 1) hC 1 rfl rfl (show decode prog_15_method_27_code 25 = .ok (.iload_n 1, 1) by decide +kernel) ?_
    refine md_s30 (pc := 26) hC (show decode prog_15_method_27_code 26 = .ok (.iastore, 1) by decide +kernel) h ?_
    intro j2 h
    refine dc_letS h ?_
    intro S3 h
    refine dc_aloadn (pc := 27) (j := 0) (i := 0) hC 0 rfl rfl (show decode prog_15_method_27_code 27 = .ok (.aload_n 0, 1) by decide +kernel) ?_
    refine md_g31 (pc := 28) hC (show decode prog_15_method_27_code 28 = .ok (.getfield 36, 3) by decide +kernel) ?_
    refine dc_aloadn (pc := 31) (j := 0) (i := 0) hC 0 rfl rfl (show decode prog_15_method_27_code 31 = .ok (.aload_n 0, 1) by decide +kernel) ?_
    refine md_g27 (pc := 32) hC (show decode prog_15_method_27_code 32 = .ok (.getfield 379, 3) by decide +kernel) ?_
    refine dc_iloadn (pc := 35) (j := 2) (i := 2) hC 2 rfl rfl (show decode prog_15_method_27_code 35 = .ok (.iload_n 2, 1) by decide +kernel) ?_
    refine md_s31 (pc := 36) hC (show decode prog_15_method_27_code 36 = .ok (.iastore, 1) by decide +kernel) h ?_
    intro j4 h
    refine dc_letS h ?_
    intro S5 h
    refine dc_aloadn (pc := 37) (j := 0) (i := 0) hC 0 rfl rfl (show decode prog_15_method_27_code 37 = .ok (.aload_n 0, 1) by decide +kernel) ?_
    refine md_g32 (pc := 38) hC (show decode prog_15_method_27_code 38 = .ok (.getfield 39, 3) by decide +kernel) ?_
    refine dc_aloadn (pc := 41) (j := 0) (i := 0) hC 0 rfl rfl (show decode prog_15_method_27_code 41 = .ok (.aload_n 0, 1) by decide +kernel) ?_
    refine md_g27 (pc := 42) hC (show decode prog_15_method_27_code 42 = .ok (.getfield 379, 3) by decide +kernel) ?_
    refine dc_iloadn (pc := 45) (j := 3) (i := 3) hC 3 rfl rfl (show decode prog_15_method_27_code 45 = .ok (.iload_n 3, 1) by decide +kernel) ?_
    refine md_s32 (pc := 46) hC (show decode prog_15_method_27_code 46 = .ok (.iastore, 1) by decide +kernel) h ?_
    intro j6 h
    refine dc_letS h ?_
    intro S7 h
    refine dc_aloadn (pc := 47) (j := 0) (i := 0) hC 0 rfl rfl (show decode prog_15_method_27_code 47 = .ok (.aload_n 0, 1) by decide +kernel) ?_
    refine md_g33 (pc := 48) hC (show decode prog_15_method_27_code 48 = .ok (.getfield 42, 3) by decide +kernel) ?_
    refine dc_aloadn (pc := 51) (j := 0) (i := 0) hC 0 rfl rfl (show decode prog_15_method_27_code 51 = .ok (.aload_n 0, 1) by decide +kernel) ?_
    refine md_g27 (pc := 52) hC (show decode prog_15_method_27_code 52 = .ok (.getfield 379, 3) by decide +kernel) ?_
    refine dc_iload (pc := 55) (i := 4) hC 4 rfl (show decode prog_15_method_27_code 55 = .ok (.iload 4, 2) by decide +kernel) ?_
    refine md_s33 (pc := 57) hC (show decode prog_15_method_27_code 57 = .ok (.iastore, 1) by decide +kernel) h ?_
    intro j8 h
    refine dc_letS h ?_
    intro S9 h
    refine dc_aloadn (pc := 58) (j := 0) (i := 0) hC 0 rfl rfl (show decode prog_15_method_27_code 58 = .ok (.aload_n 0, 1) by decide +kernel) ?_
    refine md_g34 (pc := 59) hC (show decode prog_15_method_27_code 59 = .ok (.getfield 45, 3) by decide +kernel) ?_
    refine dc_aloadn (pc := 62) (j := 0) (i := 0) hC 0 rfl rfl (show decode prog_15_method_27_code 62 = .ok (.aload_n 0, 1) by decide +kernel) ?_
    refine md_g27 (pc := 63) hC (show decode prog_15_method_27_code 63 = .ok (.getfield 379, 3) by decide +kernel) ?_
    refine dc_iload (pc := 66) (i := 5) hC 5 rfl (show decode prog_15_method_27_code 66 = .ok (.iload 5, 2) by decide +kernel) ?_
    refine md_s34 (pc := 68) hC (show decode prog_15_method_27_code 68 = .ok (.iastore, 1) by decide +kernel) h ?_
    intro j10 h
    refine dc_letS h ?_
    intro S11 h
    refine dc_aloadn (pc := 69) (j := 0) (i := 0) hC 0 rfl rfl (show decode prog_15_method_27_code 69 = .ok (.aload_n 0, 1) by decide +kernel) ?_
    refine md_g35 (pc := 70) hC (show decode prog_15_method_27_code 70 = .ok (.getfield 48, 3) by decide +kernel) ?_
    refine dc_aloadn (pc := 73) (j := 0) (i := 0) hC 0 rfl rfl (show decode prog_15_method_27_code 73 = .ok (.aload_n 0, 1) by decide +kernel) ?_
    refine md_g27 (pc := 74) hC (show decode prog_15_method_27_code 74 = .ok (.getfield 379, 3) by decide +kernel) ?_
    refine dc_iload (pc := 77) (i := 6) hC 6 rfl (show decode prog_15_method_27_code 77 = .ok (.iload 6, 2) by decide +kernel) ?_
    refine md_s35 (pc := 79) hC (show decode prog_15_method_27_code 79 = .ok (.iastore, 1) by decide +kernel) h ?_
    intro j12 h
    refine dc_letS h ?_
    intro S13 h
    refine dc_aloadn (pc := 80) (j := 0) (i := 0) hC 0 rfl rfl (show decode prog_15_method_27_code 80 = .ok (.aload_n 0, 1) by decide +kernel) ?_
    refine dc_dup (pc := 81) hC (show decode prog_15_method_27_code 81 = .ok (.dup, 1) by decide +kernel) rfl ?_
    refine md_g27 (pc := 82) hC (show decode prog_15_method_27_code 82 = .ok (.getfield 379, 3) by decide +kernel) ?_
    refine dc_iconst (pc := 85) (v := 1) hC (show decode prog_15_method_27_code 85 = .ok (.iconst 1, 1) by decide +kernel) (by decide +kernel) ?_
    refine dc_iadd (pc := 86) hC (show decode prog_15_method_27_code 86 = .ok (.iadd, 1) by decide +kernel) ?_
    refine md_p27 (pc := 87) hC (show decode prog_15_method_27_code 87 = .ok (.putfield 379, 3) by decide +kernel) ?_
    refine dc_letS h ?_
    intro S14 h
    refine dc_aloadn (pc := 90) (j := 0) (i := 0) hC 0 rfl rfl (show decode prog_15_method_27_code 90 = .ok (.aload_n 0, 1) by decide +kernel) ?_
    refine md_g27 (pc := 91) hC (show decode prog_15_method_27_code 91 = .ok (.getfield 379, 3) by decide +kernel) ?_
    refine dc_iconst (pc := 94) (v := 1) hC (show decode prog_15_method_27_code 94 = .ok (.iconst 1, 1) by decide +kernel) (by decide +kernel) ?_
    refine dc_isub (pc := 95) hC (show decode prog_15_method_27_code 95 = .ok (.isub, 1) by decide +kernel) ?_
    exact dc_iret (pc := 96) hC hR ⟨_, dc_some h, rfl, rfl⟩ (show decode prog_15_method_27_code 96 = .ok (.ireturn, 1) by decide +kernel)
noncomputable def mm_leaf (S : md_S) (p1 : Int32) (p2 : Int32) (p3 : Int32) : Option (md_S × Int32) :=
  (mm_node_IIIIII S p1 (-1) (-1) p2 p3 (-1)).bind fun q1 => some (q1.1, q1.2)
set_option maxHeartbeats 4000000 in
set_option maxRecDepth 100000 in
/-- leaf(III)I -/
theorem mm_leaf_ok (l : Launch) (D : va_G) (ad : Nat → Nat) (de : Nat) (o : Nat) (a : Nat → Nat) (ca : Nat → ClassId) (S : md_S) (p1 : Int32) (p2 : Int32) (p3 : Int32) (F : (md_S × Int32) → Prop) (h : dc_wp (mm_leaf S p1 p2 p3) F) : dc_Ci l ⟨"SignalEngineModel", "leaf", "(III)I"⟩ prog_15_method_28_code 4 (some (.int)) 1 26 D (md_T ca) ad de [.ref o, .int p1, .int p2, .int p3] (md_W o a ca S) (fun r w => ∃ q, F q ∧ r = q.2 ∧ w = md_W o a ca q.1) 0 0 := by
  refine dc_enteri (by decide +kernel) (Nat.le_of_ble_eq_true rfl) ?_
  intro X hC hR
  show dc_G X l { frames := 1, cells := 0, slots := 0, locals := 26 } D 4 0 0 (md_W o a ca S) 0 [(0, .ref o), (1, .int p1), (2, .int p2), (3, .int p3)] []
  delta mm_leaf at h
  refine dc_aloadn (pc := 0) (j := 0) (i := 0) hC 0 rfl rfl (show decode prog_15_method_28_code 0 = .ok (.aload_n 0, 1) by decide +kernel) ?_
  refine dc_iloadn (pc := 1) (j := 1) (i := 1) hC 1 rfl rfl (show decode prog_15_method_28_code 1 = .ok (.iload_n 1, 1) by decide +kernel) ?_
  refine dc_iconst (pc := 2) (v := (-1)) hC (show decode prog_15_method_28_code 2 = .ok (.iconst (-1), 1) by decide +kernel) (by decide +kernel) ?_
  refine dc_iconst (pc := 3) (v := (-1)) hC (show decode prog_15_method_28_code 3 = .ok (.iconst (-1), 1) by decide +kernel) (by decide +kernel) ?_
  refine dc_iloadn (pc := 4) (j := 2) (i := 2) hC 2 rfl rfl (show decode prog_15_method_28_code 4 = .ok (.iload_n 2, 1) by decide +kernel) ?_
  refine dc_iloadn (pc := 5) (j := 3) (i := 3) hC 3 rfl rfl (show decode prog_15_method_28_code 5 = .ok (.iload_n 3, 1) by decide +kernel) ?_
  refine dc_iconst (pc := 6) (v := (-1)) hC (show decode prog_15_method_28_code 6 = .ok (.iconst (-1), 1) by decide +kernel) (by decide +kernel) ?_
  refine mc_Vmi (pc := 7) (As := [.int p1, .int (-1), .int (-1), .int p2, .int p3, .int (-1)]) (rest := []) hC vw_node_IIIIII_382 (mm_node_IIIIII_ok l D ad de o a ca S p1 (-1) (-1) p2 p3 (-1)) (Nat.le_of_ble_eq_true rfl) (Nat.le_of_ble_eq_true rfl) rfl (Nat.le_of_ble_eq_true rfl) (show decode prog_15_method_28_code 7 = .ok (.invokevirtual 382, 3) by decide +kernel) h ?_
  intro q1 h
  exact dc_iret (pc := 10) hC hR ⟨_, dc_some h, rfl, rfl⟩ (show decode prog_15_method_28_code 10 = .ok (.ireturn, 1) by decide +kernel)
noncomputable def mm_halt (S : md_S) (p1 : Int32) : Option (md_S × Int32) :=
  (mm_leaf S 1 (-1) p1).bind fun q1 => (mm_node_IIIIII q1.1 6 q1.2 (-1) (-1) p1 (-1)).bind fun q2 => some (q2.1, q2.2)
set_option maxHeartbeats 4000000 in
set_option maxRecDepth 100000 in
/-- halt(I)I -/
theorem mm_halt_ok (l : Launch) (D : va_G) (ad : Nat → Nat) (de : Nat) (o : Nat) (a : Nat → Nat) (ca : Nat → ClassId) (S : md_S) (p1 : Int32) (F : (md_S × Int32) → Prop) (h : dc_wp (mm_halt S p1) F) : dc_Ci l ⟨"SignalEngineModel", "halt", "(I)I"⟩ prog_15_method_38_code 2 (some (.int)) 2 49 D (md_T ca) ad de [.ref o, .int p1] (md_W o a ca S) (fun r w => ∃ q, F q ∧ r = q.2 ∧ w = md_W o a ca q.1) 0 0 := by
  refine dc_enteri (by decide +kernel) (Nat.le_of_ble_eq_true rfl) ?_
  intro X hC hR
  show dc_G X l { frames := 2, cells := 0, slots := 0, locals := 49 } D 2 0 0 (md_W o a ca S) 0 [(0, .ref o), (1, .int p1)] []
  delta mm_halt at h
  refine dc_aloadn (pc := 0) (j := 0) (i := 0) hC 0 rfl rfl (show decode prog_15_method_38_code 0 = .ok (.aload_n 0, 1) by decide +kernel) ?_
  refine dc_bipush (pc := 1) (v := 6) hC (show decode prog_15_method_38_code 1 = .ok (.bipush 6, 2) by decide +kernel) (by decide +kernel) ?_
  refine dc_aloadn (pc := 3) (j := 0) (i := 0) hC 0 rfl rfl (show decode prog_15_method_38_code 3 = .ok (.aload_n 0, 1) by decide +kernel) ?_
  refine dc_iconst (pc := 4) (v := 1) hC (show decode prog_15_method_38_code 4 = .ok (.iconst 1, 1) by decide +kernel) (by decide +kernel) ?_
  refine dc_iconst (pc := 5) (v := (-1)) hC (show decode prog_15_method_38_code 5 = .ok (.iconst (-1), 1) by decide +kernel) (by decide +kernel) ?_
  refine dc_iloadn (pc := 6) (j := 1) (i := 1) hC 1 rfl rfl (show decode prog_15_method_38_code 6 = .ok (.iload_n 1, 1) by decide +kernel) ?_
  refine mc_Vmi (pc := 7) (As := [.int 1, .int (-1), .int p1]) (rest := [.int 6, .ref o]) hC vw_leaf_437 (mm_leaf_ok l D ad de o a ca S 1 (-1) p1) (Nat.le_of_ble_eq_true rfl) (Nat.le_of_ble_eq_true rfl) rfl (Nat.le_of_ble_eq_true rfl) (show decode prog_15_method_38_code 7 = .ok (.invokevirtual 437, 3) by decide +kernel) h ?_
  intro q1 h
  refine dc_iconst (pc := 10) (v := (-1)) hC (show decode prog_15_method_38_code 10 = .ok (.iconst (-1), 1) by decide +kernel) (by decide +kernel) ?_
  refine dc_iconst (pc := 11) (v := (-1)) hC (show decode prog_15_method_38_code 11 = .ok (.iconst (-1), 1) by decide +kernel) (by decide +kernel) ?_
  refine dc_iloadn (pc := 12) (j := 1) (i := 1) hC 1 rfl rfl (show decode prog_15_method_38_code 12 = .ok (.iload_n 1, 1) by decide +kernel) ?_
  refine dc_iconst (pc := 13) (v := (-1)) hC (show decode prog_15_method_38_code 13 = .ok (.iconst (-1), 1) by decide +kernel) (by decide +kernel) ?_
  refine mc_Vmi (pc := 14) (As := [.int 6, .int q1.2, .int (-1), .int (-1), .int p1, .int (-1)]) (rest := []) hC vw_node_IIIIII_382 (mm_node_IIIIII_ok l D ad de o a ca q1.1 6 q1.2 (-1) (-1) p1 (-1)) (Nat.le_of_ble_eq_true rfl) (Nat.le_of_ble_eq_true rfl) rfl (Nat.le_of_ble_eq_true rfl) (show decode prog_15_method_38_code 14 = .ok (.invokevirtual 382, 3) by decide +kernel) h ?_
  intro q2 h
  exact dc_iret (pc := 17) hC hR ⟨_, dc_some h, rfl, rfl⟩ (show decode prog_15_method_38_code 17 = .ok (.ireturn, 1) by decide +kernel)
noncomputable def mm_then_L16 (y0 : Int32) : Option (Int32) :=
  some y0
noncomputable def mm_then (p0 : Int32) (p1 : Int32) : Option (Int32) :=
  if (p0 &&& 1) = 0 then (mm_then_L16 p0) else (mm_then_L16 ((p0 &&& (-2)) ||| p1))
set_option maxHeartbeats 4000000 in
set_option maxRecDepth 100000 in
/-- then(II)I -/
theorem mm_then_ok (l : Launch) (D : va_G) (ad : Nat → Nat) (de : Nat) (ws : va_W) (tys : List (ClassId × FieldType)) (p0 : Int32) (p1 : Int32) (F : Int32 → Prop) (h : dc_wp (mm_then p0 p1) F) : dc_Ci l ⟨"SignalEngineModel", "then", "(II)I"⟩ prog_15_method_30_code 2 (some (.int)) 0 0 D tys ad de [.int p0, .int p1] ws (fun r w => ∃ q, F q ∧ r = q ∧ w = ws) 0 0 := by
  refine dc_enteri (by decide +kernel) (Nat.le_of_ble_eq_true rfl) ?_
  intro X hC hR
  have lab_16 : ∀ (y0 : Int32), dc_wp (mm_then_L16 y0) F → dc_G X l { frames := 0, cells := 0, slots := 0, locals := 0 } D 2 0 0 ws 16 [] [.int y0] := by
    intro y0 h
    delta mm_then_L16 at h
    exact dc_iret (pc := 16) hC hR ⟨_, dc_some h, rfl, rfl⟩ (show decode prog_15_method_30_code 16 = .ok (.ireturn, 1) by decide +kernel)
  show dc_G X l { frames := 0, cells := 0, slots := 0, locals := 0 } D 2 0 0 ws 0 [(0, .int p0), (1, .int p1)] []
  delta mm_then at h
  refine dc_iloadn (pc := 0) (j := 0) (i := 0) hC 0 rfl rfl (show decode prog_15_method_30_code 0 = .ok (.iload_n 0, 1) by decide +kernel) ?_
  refine dc_iconst (pc := 1) (v := 1) hC (show decode prog_15_method_30_code 1 = .ok (.iconst 1, 1) by decide +kernel) (by decide +kernel) ?_
  refine dc_iand (pc := 2) hC (show decode prog_15_method_30_code 2 = .ok (.iand, 1) by decide +kernel) ?_
  refine dc_if_ne (pc := 3) (tgt := 10) hC (show decode prog_15_method_30_code 3 = .ok (.ifCond .ne 7, 3) by decide +kernel) (by decide +kernel) h ?_ ?_
  · intro h
    refine dc_iloadn (pc := 6) (j := 0) (i := 0) hC 0 rfl rfl (show decode prog_15_method_30_code 6 = .ok (.iload_n 0, 1) by decide +kernel) ?_
    refine dc_goto (pc := 7) (tgt := 16) hC (show decode prog_15_method_30_code 7 = .ok (.goto 9, 3) by decide +kernel) (by decide +kernel) ?_
    exact dc_sub [] rfl (lab_16 p0 h)
  · intro h
    refine dc_iloadn (pc := 10) (j := 0) (i := 0) hC 0 rfl rfl (show decode prog_15_method_30_code 10 = .ok (.iload_n 0, 1) by decide +kernel) ?_
    refine dc_bipush (pc := 11) (v := (-2)) hC (show decode prog_15_method_30_code 11 = .ok (.bipush (-2), 2) by decide +kernel) (by decide +kernel) ?_
    refine dc_iand (pc := 13) hC (show decode prog_15_method_30_code 13 = .ok (.iand, 1) by decide +kernel) ?_
    refine dc_iloadn (pc := 14) (j := 1) (i := 1) hC 1 rfl rfl (show decode prog_15_method_30_code 14 = .ok (.iload_n 1, 1) by decide +kernel) ?_
    refine dc_ior (pc := 15) hC (show decode prog_15_method_30_code 15 = .ok (.ior, 1) by decide +kernel) ?_
    exact dc_sub [] rfl (lab_16 ((p0 &&& (-2)) ||| p1) h)
noncomputable def mm_pairs_L76 (x2 : Int32) : Option (Int32) :=
  some x2
noncomputable def mm_pairs_L69 (x0 : Int32) (x1 : Int32) (x3 : Int32) (y0 : Int32) : Option ((Int32 × Int32) ⊕ ((Int32))) :=
  some (.inl (y0, (x3 + 1)))
noncomputable def mm_pairs_L68 (x0 : Int32) (x1 : Int32) (x2 : Int32) (x3 : Int32) : Option ((Int32 × Int32) ⊕ ((Int32))) :=
  mm_pairs_L69 x0 x1 x3 x2
noncomputable def mm_pairs_L60 (x0 : Int32) (x1 : Int32) (x2 : Int32) (x3 : Int32) : Option ((Int32 × Int32) ⊕ ((Int32))) :=
  mm_pairs_L69 x0 x1 x3 (x2 ||| ((1 : Int32) <<< (x3 &&& (31 : Int32))))
noncomputable def mm_pairs_L34 (x0 : Int32) (x1 : Int32) (x2 : Int32) (x3 : Int32) (y0 : Int32) : Option ((Int32 × Int32) ⊕ ((Int32))) :=
  if y0 = 0 then (if ((x1 >>> (x3 &&& (31 : Int32))) &&& 1) = 1 then (if (x0 &&& (((2 : Int32) <<< (x3 &&& (31 : Int32))) - 1)) = 0 then (mm_pairs_L68 x0 x1 x2 x3) else (mm_pairs_L60 x0 x1 x2 x3)) else (mm_pairs_L68 x0 x1 x2 x3)) else (mm_pairs_L60 x0 x1 x2 x3)
noncomputable def mm_pairs_L33 (x0 : Int32) (x1 : Int32) (x2 : Int32) (x3 : Int32) : Option ((Int32 × Int32) ⊕ ((Int32))) :=
  mm_pairs_L34 x0 x1 x2 x3 0
noncomputable def mm_pairs_b4 (x0 : Int32) (x1 : Int32) (x2 : Int32) (x3 : Int32) : Option ((Int32 × Int32) ⊕ ((Int32))) :=
  if x3 < 30 then (if ((x0 >>> (x3 &&& (31 : Int32))) &&& 1) = 1 then (if (x1 &&& (((2 : Int32) <<< (x3 &&& (31 : Int32))) - 1)) = 0 then (mm_pairs_L33 x0 x1 x2 x3) else (mm_pairs_L34 x0 x1 x2 x3 1)) else (mm_pairs_L33 x0 x1 x2 x3)) else (some (.inr x2))
noncomputable def mm_pairs_s4 (x0 : Int32) (x1 : Int32) (q : Int32 × Int32) : Option ((Int32 × Int32) ⊕ ((Int32))) :=
  mm_pairs_b4 x0 x1 q.1 q.2
noncomputable def mm_pairs_L4 (x0 : Int32) (x1 : Int32) (x2 : Int32) (x3 : Int32) : Option (Int32) :=
  (dc_it (mm_pairs_s4 x0 x1) (x2, x3)).bind (fun (z : Int32) => mm_pairs_L76 z)
noncomputable def mm_pairs (p0 : Int32) (p1 : Int32) : Option (Int32) :=
  mm_pairs_L4 p0 p1 0 0
set_option maxHeartbeats 4000000 in
set_option maxRecDepth 100000 in
/-- pairs(II)I -/
theorem mm_pairs_ok (l : Launch) (D : va_G) (ad : Nat → Nat) (de : Nat) (ws : va_W) (tys : List (ClassId × FieldType)) (p0 : Int32) (p1 : Int32) (F : Int32 → Prop) (h : dc_wp (mm_pairs p0 p1) F) : dc_Ci l ⟨"SignalEngineModel", "pairs", "(II)I"⟩ prog_15_method_29_code 5 (some (.int)) 0 0 D tys ad de [.int p0, .int p1] ws (fun r w => ∃ q, F q ∧ r = q ∧ w = ws) 0 0 := by
  refine dc_enteri (by decide +kernel) (Nat.le_of_ble_eq_true rfl) ?_
  intro X hC hR
  have lab_76 : ∀ (x2 : Int32), dc_wp (mm_pairs_L76 x2) F → dc_G X l { frames := 0, cells := 0, slots := 0, locals := 0 } D 5 0 0 ws 76 [(2, .int x2)] [] := by
    intro x2 h
    delta mm_pairs_L76 at h
    refine dc_iloadn (pc := 76) (j := 2) (i := 2) hC 0 rfl rfl (show decode prog_15_method_29_code 76 = .ok (.iload_n 2, 1) by decide +kernel) ?_
    exact dc_iret (pc := 77) hC hR ⟨_, dc_some h, rfl, rfl⟩ (show decode prog_15_method_29_code 77 = .ok (.ireturn, 1) by decide +kernel)
  have loop_4 : ∀ (x0 : Int32) (x1 : Int32) (q : Int32 × Int32), dc_wp (dc_it (mm_pairs_s4 x0 x1) q) (fun z => dc_wp ((fun (z : Int32) => mm_pairs_L76 z) z) F) → dc_G X l { frames := 0, cells := 0, slots := 0, locals := 0 } D 5 0 0 ws 4 [(0, .int x0), (1, .int x1), (2, .int q.1), (3, .int q.2)] [] := by
    intro x0 x1
    refine dc_loopF ?_
    intro F_4 hl_4 hr_4
    have lab_69 : ∀ (x3 : Int32) (y0 : Int32), dc_wp (mm_pairs_L69 x0 x1 x3 y0) F_4 → dc_G X l { frames := 0, cells := 0, slots := 0, locals := 0 } D 5 0 0 ws 69 [(0, .int x0), (1, .int x1), (3, .int x3)] [.int y0] := by
      intro x3 y0 h
      delta mm_pairs_L69 at h
      refine dc_istoren (pc := 69) (j := 2) (i := 2) (lv' := [(2, .int y0), (0, .int x0), (1, .int x1), (3, .int x3)]) hC rfl (Nat.le_of_ble_eq_true rfl) rfl (show decode prog_15_method_29_code 69 = .ok (.istore_n 2, 1) by decide +kernel) ?_
      refine dc_iinc (pc := 70) (i := 3) (v := (x3 + 1)) (lv' := [(3, .int (x3 + 1)), (2, .int y0), (0, .int x0), (1, .int x1)]) hC 3 rfl rfl (Nat.le_of_ble_eq_true rfl) rfl (show decode prog_15_method_29_code 70 = .ok (.iinc 3 1, 3) by decide +kernel) ?_
      refine dc_goto (pc := 73) (tgt := 4) hC (show decode prog_15_method_29_code 73 = .ok (.goto (-69), 3) by decide +kernel) (by decide +kernel) ?_
      exact dc_sub [2, 3, 1, 0] rfl (hl_4 (y0, (x3 + 1)) (dc_some h))
    have lab_68 : ∀ (x2 : Int32) (x3 : Int32), dc_wp (mm_pairs_L68 x0 x1 x2 x3) F_4 → dc_G X l { frames := 0, cells := 0, slots := 0, locals := 0 } D 5 0 0 ws 68 [(0, .int x0), (1, .int x1), (2, .int x2), (3, .int x3)] [] := by
      intro x2 x3 h
      delta mm_pairs_L68 at h
      refine dc_iloadn (pc := 68) (j := 2) (i := 2) hC 2 rfl rfl (show decode prog_15_method_29_code 68 = .ok (.iload_n 2, 1) by decide +kernel) ?_
      exact dc_sub [0, 1, 3] rfl (lab_69 x3 x2 h)
    have lab_60 : ∀ (x2 : Int32) (x3 : Int32), dc_wp (mm_pairs_L60 x0 x1 x2 x3) F_4 → dc_G X l { frames := 0, cells := 0, slots := 0, locals := 0 } D 5 0 0 ws 60 [(0, .int x0), (1, .int x1), (2, .int x2), (3, .int x3)] [] := by
      intro x2 x3 h
      delta mm_pairs_L60 at h
      refine dc_iloadn (pc := 60) (j := 2) (i := 2) hC 2 rfl rfl (show decode prog_15_method_29_code 60 = .ok (.iload_n 2, 1) by decide +kernel) ?_
      refine dc_iconst (pc := 61) (v := 1) hC (show decode prog_15_method_29_code 61 = .ok (.iconst 1, 1) by decide +kernel) (by decide +kernel) ?_
      refine dc_iloadn (pc := 62) (j := 3) (i := 3) hC 3 rfl rfl (show decode prog_15_method_29_code 62 = .ok (.iload_n 3, 1) by decide +kernel) ?_
      refine dc_ishl (pc := 63) hC (show decode prog_15_method_29_code 63 = .ok (.ishl, 1) by decide +kernel) ?_
      refine dc_ior (pc := 64) hC (show decode prog_15_method_29_code 64 = .ok (.ior, 1) by decide +kernel) ?_
      refine dc_goto (pc := 65) (tgt := 69) hC (show decode prog_15_method_29_code 65 = .ok (.goto 4, 3) by decide +kernel) (by decide +kernel) ?_
      exact dc_sub [0, 1, 3] rfl (lab_69 x3 (x2 ||| ((1 : Int32) <<< (x3 &&& (31 : Int32)))) h)
    have lab_34 : ∀ (x2 : Int32) (x3 : Int32) (y0 : Int32), dc_wp (mm_pairs_L34 x0 x1 x2 x3 y0) F_4 → dc_G X l { frames := 0, cells := 0, slots := 0, locals := 0 } D 5 0 0 ws 34 [(0, .int x0), (1, .int x1), (2, .int x2), (3, .int x3)] [.int y0] := by
      intro x2 x3 y0 h
      delta mm_pairs_L34 at h
      refine dc_istore (pc := 34) (i := 4) (lv' := [(4, .int y0), (0, .int x0), (1, .int x1), (2, .int x2), (3, .int x3)]) hC (Nat.le_of_ble_eq_true rfl) rfl (show decode prog_15_method_29_code 34 = .ok (.istore 4, 2) by decide +kernel) ?_
      refine dc_iload (pc := 36) (i := 4) hC 0 rfl (show decode prog_15_method_29_code 36 = .ok (.iload 4, 2) by decide +kernel) ?_
      refine dc_if_ne (pc := 38) (tgt := 60) hC (show decode prog_15_method_29_code 38 = .ok (.ifCond .ne 22, 3) by decide +kernel) (by decide +kernel) h ?_ ?_
      · intro h
        refine dc_iloadn (pc := 41) (j := 1) (i := 1) hC 2 rfl rfl (show decode prog_15_method_29_code 41 = .ok (.iload_n 1, 1) by decide +kernel) ?_
        refine dc_iloadn (pc := 42) (j := 3) (i := 3) hC 4 rfl rfl (show decode prog_15_method_29_code 42 = .ok (.iload_n 3, 1) by decide +kernel) ?_
        refine dc_ishr (pc := 43) hC (show decode prog_15_method_29_code 43 = .ok (.ishr, 1) by decide +kernel) ?_
        refine dc_iconst (pc := 44) (v := 1) hC (show decode prog_15_method_29_code 44 = .ok (.iconst 1, 1) by decide +kernel) (by decide +kernel) ?_
        refine dc_iand (pc := 45) hC (show decode prog_15_method_29_code 45 = .ok (.iand, 1) by decide +kernel) ?_
        refine dc_iconst (pc := 46) (v := 1) hC (show decode prog_15_method_29_code 46 = .ok (.iconst 1, 1) by decide +kernel) (by decide +kernel) ?_
        refine dc_icmp_ne (pc := 47) (tgt := 68) hC (show decode prog_15_method_29_code 47 = .ok (.if_icmp .ne 21, 3) by decide +kernel) (by decide +kernel) h ?_ ?_
        · intro h
          refine dc_iloadn (pc := 50) (j := 0) (i := 0) hC 1 rfl rfl (show decode prog_15_method_29_code 50 = .ok (.iload_n 0, 1) by decide +kernel) ?_
          refine dc_iconst (pc := 51) (v := 2) hC (show decode prog_15_method_29_code 51 = .ok (.iconst 2, 1) by decide +kernel) (by decide +kernel) ?_
          refine dc_iloadn (pc := 52) (j := 3) (i := 3) hC 4 rfl rfl (show decode prog_15_method_29_code 52 = .ok (.iload_n 3, 1) by decide +kernel) ?_
          refine dc_ishl (pc := 53) hC (show decode prog_15_method_29_code 53 = .ok (.ishl, 1) by decide +kernel) ?_
          refine dc_iconst (pc := 54) (v := 1) hC (show decode prog_15_method_29_code 54 = .ok (.iconst 1, 1) by decide +kernel) (by decide +kernel) ?_
          refine dc_isub (pc := 55) hC (show decode prog_15_method_29_code 55 = .ok (.isub, 1) by decide +kernel) ?_
          refine dc_iand (pc := 56) hC (show decode prog_15_method_29_code 56 = .ok (.iand, 1) by decide +kernel) ?_
          refine dc_if_eq (pc := 57) (tgt := 68) hC (show decode prog_15_method_29_code 57 = .ok (.ifCond .eq 11, 3) by decide +kernel) (by decide +kernel) h ?_ ?_
          · intro h
            exact dc_sub [1, 2, 3, 4] rfl (lab_68 x2 x3 h)
          · intro h
            exact dc_sub [1, 2, 3, 4] rfl (lab_60 x2 x3 h)
        · intro h
          exact dc_sub [1, 2, 3, 4] rfl (lab_68 x2 x3 h)
      · intro h
        exact dc_sub [1, 2, 3, 4] rfl (lab_60 x2 x3 h)
    have lab_33 : ∀ (x2 : Int32) (x3 : Int32), dc_wp (mm_pairs_L33 x0 x1 x2 x3) F_4 → dc_G X l { frames := 0, cells := 0, slots := 0, locals := 0 } D 5 0 0 ws 33 [(0, .int x0), (1, .int x1), (2, .int x2), (3, .int x3)] [] := by
      intro x2 x3 h
      delta mm_pairs_L33 at h
      refine dc_iconst (pc := 33) (v := 0) hC (show decode prog_15_method_29_code 33 = .ok (.iconst 0, 1) by decide +kernel) (by decide +kernel) ?_
      exact lab_34 x2 x3 0 h
    rintro ⟨x2, x3⟩ h
    have h : dc_wp (mm_pairs_b4 x0 x1 x2 x3) F_4 := h
    delta mm_pairs_b4 at h
    refine dc_iloadn (pc := 4) (j := 3) (i := 3) hC 3 rfl rfl (show decode prog_15_method_29_code 4 = .ok (.iload_n 3, 1) by decide +kernel) ?_
    refine dc_bipush (pc := 5) (v := 30) hC (show decode prog_15_method_29_code 5 = .ok (.bipush 30, 2) by decide +kernel) (by decide +kernel) ?_
    refine dc_icmp_ge (pc := 7) (tgt := 76) hC (show decode prog_15_method_29_code 7 = .ok (.if_icmp .ge 69, 3) by decide +kernel) (by decide +kernel) h ?_ ?_
    · intro h
      refine dc_iloadn (pc := 10) (j := 0) (i := 0) hC 0 rfl rfl (show decode prog_15_method_29_code 10 = .ok (.iload_n 0, 1) by decide +kernel) ?_
      refine dc_iloadn (pc := 11) (j := 3) (i := 3) hC 3 rfl rfl (show decode prog_15_method_29_code 11 = .ok (.iload_n 3, 1) by decide +kernel) ?_
      refine dc_ishr (pc := 12) hC (show decode prog_15_method_29_code 12 = .ok (.ishr, 1) by decide +kernel) ?_
      refine dc_iconst (pc := 13) (v := 1) hC (show decode prog_15_method_29_code 13 = .ok (.iconst 1, 1) by decide +kernel) (by decide +kernel) ?_
      refine dc_iand (pc := 14) hC (show decode prog_15_method_29_code 14 = .ok (.iand, 1) by decide +kernel) ?_
      refine dc_iconst (pc := 15) (v := 1) hC (show decode prog_15_method_29_code 15 = .ok (.iconst 1, 1) by decide +kernel) (by decide +kernel) ?_
      refine dc_icmp_ne (pc := 16) (tgt := 33) hC (show decode prog_15_method_29_code 16 = .ok (.if_icmp .ne 17, 3) by decide +kernel) (by decide +kernel) h ?_ ?_
      · intro h
        refine dc_iloadn (pc := 19) (j := 1) (i := 1) hC 1 rfl rfl (show decode prog_15_method_29_code 19 = .ok (.iload_n 1, 1) by decide +kernel) ?_
        refine dc_iconst (pc := 20) (v := 2) hC (show decode prog_15_method_29_code 20 = .ok (.iconst 2, 1) by decide +kernel) (by decide +kernel) ?_
        refine dc_iloadn (pc := 21) (j := 3) (i := 3) hC 3 rfl rfl (show decode prog_15_method_29_code 21 = .ok (.iload_n 3, 1) by decide +kernel) ?_
        refine dc_ishl (pc := 22) hC (show decode prog_15_method_29_code 22 = .ok (.ishl, 1) by decide +kernel) ?_
        refine dc_iconst (pc := 23) (v := 1) hC (show decode prog_15_method_29_code 23 = .ok (.iconst 1, 1) by decide +kernel) (by decide +kernel) ?_
        refine dc_isub (pc := 24) hC (show decode prog_15_method_29_code 24 = .ok (.isub, 1) by decide +kernel) ?_
        refine dc_iand (pc := 25) hC (show decode prog_15_method_29_code 25 = .ok (.iand, 1) by decide +kernel) ?_
        refine dc_if_eq (pc := 26) (tgt := 33) hC (show decode prog_15_method_29_code 26 = .ok (.ifCond .eq 7, 3) by decide +kernel) (by decide +kernel) h ?_ ?_
        · intro h
          exact lab_33 x2 x3 h
        · intro h
          refine dc_iconst (pc := 29) (v := 1) hC (show decode prog_15_method_29_code 29 = .ok (.iconst 1, 1) by decide +kernel) (by decide +kernel) ?_
          refine dc_goto (pc := 30) (tgt := 34) hC (show decode prog_15_method_29_code 30 = .ok (.goto 4, 3) by decide +kernel) (by decide +kernel) ?_
          exact lab_34 x2 x3 1 h
      · intro h
        exact lab_33 x2 x3 h
    · intro h
      have h : dc_wp (mm_pairs_L76 x2) F := hr_4 x2 (dc_some h)
      exact dc_sub [2] rfl (lab_76 x2 h)
  have lab_4 : ∀ (x0 : Int32) (x1 : Int32) (x2 : Int32) (x3 : Int32), dc_wp (mm_pairs_L4 x0 x1 x2 x3) F → dc_G X l { frames := 0, cells := 0, slots := 0, locals := 0 } D 5 0 0 ws 4 [(0, .int x0), (1, .int x1), (2, .int x2), (3, .int x3)] [] := fun x0 x1 x2 x3 h => loop_4 x0 x1 (x2, x3) (dc_bind h)
  show dc_G X l { frames := 0, cells := 0, slots := 0, locals := 0 } D 5 0 0 ws 0 [(0, .int p0), (1, .int p1)] []
  delta mm_pairs at h
  refine dc_iconst (pc := 0) (v := 0) hC (show decode prog_15_method_29_code 0 = .ok (.iconst 0, 1) by decide +kernel) (by decide +kernel) ?_
  refine dc_istoren (pc := 1) (j := 2) (i := 2) (lv' := [(2, .int 0), (0, .int p0), (1, .int p1)]) hC rfl (Nat.le_of_ble_eq_true rfl) rfl (show decode prog_15_method_29_code 1 = .ok (.istore_n 2, 1) by decide +kernel) ?_
  refine dc_iconst (pc := 2) (v := 0) hC (show decode prog_15_method_29_code 2 = .ok (.iconst 0, 1) by decide +kernel) (by decide +kernel) ?_
  refine dc_istoren (pc := 3) (j := 3) (i := 3) (lv' := [(3, .int 0), (2, .int 0), (0, .int p0), (1, .int p1)]) hC rfl (Nat.le_of_ble_eq_true rfl) rfl (show decode prog_15_method_29_code 3 = .ok (.istore_n 3, 1) by decide +kernel) ?_
  exact dc_sub [2, 3, 1, 0] rfl (lab_4 p0 p1 0 0 h)
noncomputable def mm_caught (p0 : Int32) : Option (Int32) :=
  some (((p0 &&& 3) ||| ((p0 >>> (2 &&& (31 : Int32))) &&& 1)) ||| ((p0 >>> (3 &&& (31 : Int32))) <<< (2 &&& (31 : Int32))))
set_option maxHeartbeats 4000000 in
set_option maxRecDepth 100000 in
/-- caught(I)I -/
theorem mm_caught_ok (l : Launch) (D : va_G) (ad : Nat → Nat) (de : Nat) (ws : va_W) (tys : List (ClassId × FieldType)) (p0 : Int32) (F : Int32 → Prop) (h : dc_wp (mm_caught p0) F) : dc_Ci l ⟨"SignalEngineModel", "caught", "(I)I"⟩ prog_15_method_31_code 1 (some (.int)) 0 0 D tys ad de [.int p0] ws (fun r w => ∃ q, F q ∧ r = q ∧ w = ws) 0 0 := by
  refine dc_enteri (by decide +kernel) (Nat.le_of_ble_eq_true rfl) ?_
  intro X hC hR
  show dc_G X l { frames := 0, cells := 0, slots := 0, locals := 0 } D 1 0 0 ws 0 [(0, .int p0)] []
  delta mm_caught at h
  refine dc_iloadn (pc := 0) (j := 0) (i := 0) hC 0 rfl rfl (show decode prog_15_method_31_code 0 = .ok (.iload_n 0, 1) by decide +kernel) ?_
  refine dc_iconst (pc := 1) (v := 3) hC (show decode prog_15_method_31_code 1 = .ok (.iconst 3, 1) by decide +kernel) (by decide +kernel) ?_
  refine dc_iand (pc := 2) hC (show decode prog_15_method_31_code 2 = .ok (.iand, 1) by decide +kernel) ?_
  refine dc_iloadn (pc := 3) (j := 0) (i := 0) hC 0 rfl rfl (show decode prog_15_method_31_code 3 = .ok (.iload_n 0, 1) by decide +kernel) ?_
  refine dc_iconst (pc := 4) (v := 2) hC (show decode prog_15_method_31_code 4 = .ok (.iconst 2, 1) by decide +kernel) (by decide +kernel) ?_
  refine dc_ishr (pc := 5) hC (show decode prog_15_method_31_code 5 = .ok (.ishr, 1) by decide +kernel) ?_
  refine dc_iconst (pc := 6) (v := 1) hC (show decode prog_15_method_31_code 6 = .ok (.iconst 1, 1) by decide +kernel) (by decide +kernel) ?_
  refine dc_iand (pc := 7) hC (show decode prog_15_method_31_code 7 = .ok (.iand, 1) by decide +kernel) ?_
  refine dc_ior (pc := 8) hC (show decode prog_15_method_31_code 8 = .ok (.ior, 1) by decide +kernel) ?_
  refine dc_iloadn (pc := 9) (j := 0) (i := 0) hC 0 rfl rfl (show decode prog_15_method_31_code 9 = .ok (.iload_n 0, 1) by decide +kernel) ?_
  refine dc_iconst (pc := 10) (v := 3) hC (show decode prog_15_method_31_code 10 = .ok (.iconst 3, 1) by decide +kernel) (by decide +kernel) ?_
  refine dc_ishr (pc := 11) hC (show decode prog_15_method_31_code 11 = .ok (.ishr, 1) by decide +kernel) ?_
  refine dc_iconst (pc := 12) (v := 2) hC (show decode prog_15_method_31_code 12 = .ok (.iconst 2, 1) by decide +kernel) (by decide +kernel) ?_
  refine dc_ishl (pc := 13) hC (show decode prog_15_method_31_code 13 = .ok (.ishl, 1) by decide +kernel) ?_
  refine dc_ior (pc := 14) hC (show decode prog_15_method_31_code 14 = .ok (.ior, 1) by decide +kernel) ?_
  exact dc_iret (pc := 15) hC hR ⟨_, dc_some h, rfl, rfl⟩ (show decode prog_15_method_31_code 15 = .ok (.ireturn, 1) by decide +kernel)
noncomputable def mm_waiting (S : md_S) (p1 : Int32) (p2 : Int32) (p3 : Int32) : Option (md_S × Int32) :=
  (mm_leaf S 1 (-1) p1).bind fun q1 => (mm_leaf q1.1 9 p3 p1).bind fun q2 => (mm_leaf q2.1 0 (-1) p1).bind fun q3 => (mm_node_IIIIII q3.1 3 q2.2 q3.2 (-1) p1 p2).bind fun q4 => (mm_node_IIIIII q4.1 5 q1.2 q4.2 (-1) p1 (-1)).bind fun q5 => (mm_node_IIIIII q5.1 6 q5.2 (-1) (-1) p1 (-1)).bind fun q6 => some (q6.1, q6.2)
set_option maxHeartbeats 4000000 in
set_option maxRecDepth 100000 in
/-- waiting(III)I -/
theorem mm_waiting_ok (l : Launch) (D : va_G) (ad : Nat → Nat) (de : Nat) (o : Nat) (a : Nat → Nat) (ca : Nat → ClassId) (S : md_S) (p1 : Int32) (p2 : Int32) (p3 : Int32) (F : (md_S × Int32) → Prop) (h : dc_wp (mm_waiting S p1 p2 p3) F) : dc_Ci l ⟨"SignalEngineModel", "waiting", "(III)I"⟩ prog_15_method_39_code 7 (some (.int)) 2 49 D (md_T ca) ad de [.ref o, .int p1, .int p2, .int p3] (md_W o a ca S) (fun r w => ∃ q, F q ∧ r = q.2 ∧ w = md_W o a ca q.1) 0 0 := by
  refine dc_enteri (by decide +kernel) (Nat.le_of_ble_eq_true rfl) ?_
  intro X hC hR
  show dc_G X l { frames := 2, cells := 0, slots := 0, locals := 49 } D 7 0 0 (md_W o a ca S) 0 [(0, .ref o), (1, .int p1), (2, .int p2), (3, .int p3)] []
  delta mm_waiting at h
  refine dc_aloadn (pc := 0) (j := 0) (i := 0) hC 0 rfl rfl (show decode prog_15_method_39_code 0 = .ok (.aload_n 0, 1) by decide +kernel) ?_
  refine dc_iconst (pc := 1) (v := 1) hC (show decode prog_15_method_39_code 1 = .ok (.iconst 1, 1) by decide +kernel) (by decide +kernel) ?_
  refine dc_iconst (pc := 2) (v := (-1)) hC (show decode prog_15_method_39_code 2 = .ok (.iconst (-1), 1) by decide +kernel) (by decide +kernel) ?_
  refine dc_iloadn (pc := 3) (j := 1) (i := 1) hC 1 rfl rfl (show decode prog_15_method_39_code 3 = .ok (.iload_n 1, 1) by decide +kernel) ?_
  refine mc_Vmi (pc := 4) (As := [.int 1, .int (-1), .int p1]) (rest := []) hC vw_leaf_437 (mm_leaf_ok l D ad de o a ca S 1 (-1) p1) (Nat.le_of_ble_eq_true rfl) (Nat.le_of_ble_eq_true rfl) rfl (Nat.le_of_ble_eq_true rfl) (show decode prog_15_method_39_code 4 = .ok (.invokevirtual 437, 3) by decide +kernel) h ?_
  intro q1 h
  refine dc_istore (pc := 7) (i := 4) (lv' := [(4, .int q1.2), (0, .ref o), (1, .int p1), (2, .int p2), (3, .int p3)]) hC (Nat.le_of_ble_eq_true rfl) rfl (show decode prog_15_method_39_code 7 = .ok (.istore 4, 2) by decide +kernel) ?_
  refine dc_aloadn (pc := 9) (j := 0) (i := 0) hC 1 rfl rfl (show decode prog_15_method_39_code 9 = .ok (.aload_n 0, 1) by decide +kernel) ?_
  refine dc_bipush (pc := 10) (v := 9) hC (show decode prog_15_method_39_code 10 = .ok (.bipush 9, 2) by decide +kernel) (by decide +kernel) ?_
  refine dc_iloadn (pc := 12) (j := 3) (i := 3) hC 4 rfl rfl (show decode prog_15_method_39_code 12 = .ok (.iload_n 3, 1) by decide +kernel) ?_
  refine dc_iloadn (pc := 13) (j := 1) (i := 1) hC 2 rfl rfl (show decode prog_15_method_39_code 13 = .ok (.iload_n 1, 1) by decide +kernel) ?_
  refine mc_Vmi (pc := 14) (As := [.int 9, .int p3, .int p1]) (rest := []) hC vw_leaf_437 (mm_leaf_ok l D ad de o a ca q1.1 9 p3 p1) (Nat.le_of_ble_eq_true rfl) (Nat.le_of_ble_eq_true rfl) rfl (Nat.le_of_ble_eq_true rfl) (show decode prog_15_method_39_code 14 = .ok (.invokevirtual 437, 3) by decide +kernel) h ?_
  intro q2 h
  refine dc_istore (pc := 17) (i := 5) (lv' := [(5, .int q2.2), (4, .int q1.2), (0, .ref o), (1, .int p1), (2, .int p2), (3, .int p3)]) hC (Nat.le_of_ble_eq_true rfl) rfl (show decode prog_15_method_39_code 17 = .ok (.istore 5, 2) by decide +kernel) ?_
  refine dc_aloadn (pc := 19) (j := 0) (i := 0) hC 2 rfl rfl (show decode prog_15_method_39_code 19 = .ok (.aload_n 0, 1) by decide +kernel) ?_
  refine dc_iconst (pc := 20) (v := 0) hC (show decode prog_15_method_39_code 20 = .ok (.iconst 0, 1) by decide +kernel) (by decide +kernel) ?_
  refine dc_iconst (pc := 21) (v := (-1)) hC (show decode prog_15_method_39_code 21 = .ok (.iconst (-1), 1) by decide +kernel) (by decide +kernel) ?_
  refine dc_iloadn (pc := 22) (j := 1) (i := 1) hC 3 rfl rfl (show decode prog_15_method_39_code 22 = .ok (.iload_n 1, 1) by decide +kernel) ?_
  refine mc_Vmi (pc := 23) (As := [.int 0, .int (-1), .int p1]) (rest := []) hC vw_leaf_437 (mm_leaf_ok l D ad de o a ca q2.1 0 (-1) p1) (Nat.le_of_ble_eq_true rfl) (Nat.le_of_ble_eq_true rfl) rfl (Nat.le_of_ble_eq_true rfl) (show decode prog_15_method_39_code 23 = .ok (.invokevirtual 437, 3) by decide +kernel) h ?_
  intro q3 h
  refine dc_istore (pc := 26) (i := 6) (lv' := [(6, .int q3.2), (5, .int q2.2), (4, .int q1.2), (0, .ref o), (1, .int p1), (2, .int p2), (3, .int p3)]) hC (Nat.le_of_ble_eq_true rfl) rfl (show decode prog_15_method_39_code 26 = .ok (.istore 6, 2) by decide +kernel) ?_
  refine dc_aloadn (pc := 28) (j := 0) (i := 0) hC 3 rfl rfl (show decode prog_15_method_39_code 28 = .ok (.aload_n 0, 1) by decide +kernel) ?_
  refine dc_bipush (pc := 29) (v := 6) hC (show decode prog_15_method_39_code 29 = .ok (.bipush 6, 2) by decide +kernel) (by decide +kernel) ?_
  refine dc_aloadn (pc := 31) (j := 0) (i := 0) hC 3 rfl rfl (show decode prog_15_method_39_code 31 = .ok (.aload_n 0, 1) by decide +kernel) ?_
  refine dc_iconst (pc := 32) (v := 5) hC (show decode prog_15_method_39_code 32 = .ok (.iconst 5, 1) by decide +kernel) (by decide +kernel) ?_
  refine dc_iload (pc := 33) (i := 4) hC 2 rfl (show decode prog_15_method_39_code 33 = .ok (.iload 4, 2) by decide +kernel) ?_
  refine dc_aloadn (pc := 35) (j := 0) (i := 0) hC 3 rfl rfl (show decode prog_15_method_39_code 35 = .ok (.aload_n 0, 1) by decide +kernel) ?_
  refine dc_iconst (pc := 36) (v := 3) hC (show decode prog_15_method_39_code 36 = .ok (.iconst 3, 1) by decide +kernel) (by decide +kernel) ?_
  refine dc_iload (pc := 37) (i := 5) hC 1 rfl (show decode prog_15_method_39_code 37 = .ok (.iload 5, 2) by decide +kernel) ?_
  refine dc_iload (pc := 39) (i := 6) hC 0 rfl (show decode prog_15_method_39_code 39 = .ok (.iload 6, 2) by decide +kernel) ?_
  refine dc_iconst (pc := 41) (v := (-1)) hC (show decode prog_15_method_39_code 41 = .ok (.iconst (-1), 1) by decide +kernel) (by decide +kernel) ?_
  refine dc_iloadn (pc := 42) (j := 1) (i := 1) hC 4 rfl rfl (show decode prog_15_method_39_code 42 = .ok (.iload_n 1, 1) by decide +kernel) ?_
  refine dc_iloadn (pc := 43) (j := 2) (i := 2) hC 5 rfl rfl (show decode prog_15_method_39_code 43 = .ok (.iload_n 2, 1) by decide +kernel) ?_
  refine mc_Vmi (pc := 44) (As := [.int 3, .int q2.2, .int q3.2, .int (-1), .int p1, .int p2]) (rest := [.int q1.2, .int 5, .ref o, .int 6, .ref o]) hC vw_node_IIIIII_382 (mm_node_IIIIII_ok l D ad de o a ca q3.1 3 q2.2 q3.2 (-1) p1 p2) (Nat.le_of_ble_eq_true rfl) (Nat.le_of_ble_eq_true rfl) rfl (Nat.le_of_ble_eq_true rfl) (show decode prog_15_method_39_code 44 = .ok (.invokevirtual 382, 3) by decide +kernel) h ?_
  intro q4 h
  refine dc_iconst (pc := 47) (v := (-1)) hC (show decode prog_15_method_39_code 47 = .ok (.iconst (-1), 1) by decide +kernel) (by decide +kernel) ?_
  refine dc_iloadn (pc := 48) (j := 1) (i := 1) hC 4 rfl rfl (show decode prog_15_method_39_code 48 = .ok (.iload_n 1, 1) by decide +kernel) ?_
  refine dc_iconst (pc := 49) (v := (-1)) hC (show decode prog_15_method_39_code 49 = .ok (.iconst (-1), 1) by decide +kernel) (by decide +kernel) ?_
  refine mc_Vmi (pc := 50) (As := [.int 5, .int q1.2, .int q4.2, .int (-1), .int p1, .int (-1)]) (rest := [.int 6, .ref o]) hC vw_node_IIIIII_382 (mm_node_IIIIII_ok l D ad de o a ca q4.1 5 q1.2 q4.2 (-1) p1 (-1)) (Nat.le_of_ble_eq_true rfl) (Nat.le_of_ble_eq_true rfl) rfl (Nat.le_of_ble_eq_true rfl) (show decode prog_15_method_39_code 50 = .ok (.invokevirtual 382, 3) by decide +kernel) h ?_
  intro q5 h
  refine dc_iconst (pc := 53) (v := (-1)) hC (show decode prog_15_method_39_code 53 = .ok (.iconst (-1), 1) by decide +kernel) (by decide +kernel) ?_
  refine dc_iconst (pc := 54) (v := (-1)) hC (show decode prog_15_method_39_code 54 = .ok (.iconst (-1), 1) by decide +kernel) (by decide +kernel) ?_
  refine dc_iloadn (pc := 55) (j := 1) (i := 1) hC 4 rfl rfl (show decode prog_15_method_39_code 55 = .ok (.iload_n 1, 1) by decide +kernel) ?_
  refine dc_iconst (pc := 56) (v := (-1)) hC (show decode prog_15_method_39_code 56 = .ok (.iconst (-1), 1) by decide +kernel) (by decide +kernel) ?_
  refine mc_Vmi (pc := 57) (As := [.int 6, .int q5.2, .int (-1), .int (-1), .int p1, .int (-1)]) (rest := []) hC vw_node_IIIIII_382 (mm_node_IIIIII_ok l D ad de o a ca q5.1 6 q5.2 (-1) (-1) p1 (-1)) (Nat.le_of_ble_eq_true rfl) (Nat.le_of_ble_eq_true rfl) rfl (Nat.le_of_ble_eq_true rfl) (show decode prog_15_method_39_code 57 = .ok (.invokevirtual 382, 3) by decide +kernel) h ?_
  intro q6 h
  exact dc_iret (pc := 60) hC hR ⟨_, dc_some h, rfl, rfl⟩ (show decode prog_15_method_39_code 60 = .ok (.ireturn, 1) by decide +kernel)
noncomputable def mm_aborted_L78 (S : md_S) (x1 : Int32) (x3 : Int32) (x6 : Int32) (y0 : Int32) : Option (md_S × Int32) :=
  (mm_leaf S 9 x6 x1).bind fun q1 => (mm_node_IIIIII q1.1 5 y0 q1.2 (-1) x1 (-1)).bind fun q2 => (mm_waiting q2.1 x1 x3 x6).bind fun q3 => (mm_node_IIIIII q3.1 7 q2.2 q3.2 (-1) x1 (-1)).bind fun q4 => (mm_node_IIIIII q4.1 8 q4.2 (-1) x6 x1 (-1)).bind fun q5 => some (q5.1, q5.2)
noncomputable def mm_aborted_L49 (S : md_S) (x1 : Int32) (x2 : Int32) (x3 : Int32) (x4 : Int32) (x6 : Int32) (y0 : Int32) : Option (md_S × Int32) :=
  (mm_pairs y0 2).bind fun q6 => (mm_caught q6).bind fun q7 => dc_let (md_i S 29 q7) fun S8 => if x4 = 0 then ((mm_node_IIIIII S8 4 x2 (-1) (-1) x1 x3).bind fun q9 => mm_aborted_L78 q9.1 x1 x3 x6 q9.2) else (mm_aborted_L78 S8 x1 x3 x6 x2)
noncomputable def mm_aborted (S : md_S) (p1 : Int32) (p2 : Int32) (p3 : Int32) (p4 : Int32) (p5 : Int32) : Option (md_S × Int32) :=
  dc_let (md_i S 20 ((S.1 20) + 1)) fun S10 => dc_let ((S10.1 20) : Int32) fun v11 => dc_let (((p5 &&& 3) ||| ((p5 >>> (2 &&& (31 : Int32))) <<< (3 &&& (31 : Int32)))) : Int32) fun v12 => if (v12 &&& 1) = 0 then (mm_aborted_L49 S10 p1 p2 p3 p4 v11 v12) else (mm_aborted_L49 S10 p1 p2 p3 p4 v11 ((v12 &&& (-2)) ||| 4))
set_option maxHeartbeats 4000000 in
set_option maxRecDepth 100000 in
/-- aborted(IIIZI)I -/
theorem mm_aborted_ok (l : Launch) (D : va_G) (ad : Nat → Nat) (de : Nat) (o : Nat) (a : Nat → Nat) (ca : Nat → ClassId) (S : md_S) (p1 : Int32) (p2 : Int32) (p3 : Int32) (p4 : Int32) (p5 : Int32) (F : (md_S × Int32) → Prop) (h : dc_wp (mm_aborted S p1 p2 p3 p4 p5) F) : dc_Ci l ⟨"SignalEngineModel", "aborted", "(IIIZI)I"⟩ prog_15_method_41_code 9 (some (.int)) 3 75 D (md_T ca) ad de [.ref o, .int p1, .int p2, .int p3, .int p4, .int p5] (md_W o a ca S) (fun r w => ∃ q, F q ∧ r = q.2 ∧ w = md_W o a ca q.1) 0 0 := by
  refine dc_enteri (by decide +kernel) (Nat.le_of_ble_eq_true rfl) ?_
  intro X hC hR
  have lab_78 : ∀ (S : md_S) (x1 : Int32) (x3 : Int32) (x6 : Int32) (y0 : Int32), dc_wp (mm_aborted_L78 S x1 x3 x6 y0) F → dc_G X l { frames := 3, cells := 0, slots := 0, locals := 75 } D 9 0 0 (md_W o a ca S) 78 [(0, .ref o), (1, .int x1), (3, .int x3), (6, .int x6)] [.int y0] := by
    intro S x1 x3 x6 y0 h
    delta mm_aborted_L78 at h
    refine dc_istore (pc := 78) (i := 8) (lv' := [(8, .int y0), (0, .ref o), (1, .int x1), (3, .int x3), (6, .int x6)]) hC (Nat.le_of_ble_eq_true rfl) rfl (show decode prog_15_method_41_code 78 = .ok (.istore 8, 2) by decide +kernel) ?_
    refine dc_aloadn (pc := 80) (j := 0) (i := 0) hC 1 rfl rfl (show decode prog_15_method_41_code 80 = .ok (.aload_n 0, 1) by decide +kernel) ?_
    refine dc_iconst (pc := 81) (v := 5) hC (show decode prog_15_method_41_code 81 = .ok (.iconst 5, 1) by decide +kernel) (by decide +kernel) ?_
    refine dc_iload (pc := 82) (i := 8) hC 0 rfl (show decode prog_15_method_41_code 82 = .ok (.iload 8, 2) by decide +kernel) ?_
    refine dc_aloadn (pc := 84) (j := 0) (i := 0) hC 1 rfl rfl (show decode prog_15_method_41_code 84 = .ok (.aload_n 0, 1) by decide +kernel) ?_
    refine dc_bipush (pc := 85) (v := 9) hC (show decode prog_15_method_41_code 85 = .ok (.bipush 9, 2) by decide +kernel) (by decide +kernel) ?_
    refine dc_iload (pc := 87) (i := 6) hC 4 rfl (show decode prog_15_method_41_code 87 = .ok (.iload 6, 2) by decide +kernel) ?_
    refine dc_iloadn (pc := 89) (j := 1) (i := 1) hC 2 rfl rfl (show decode prog_15_method_41_code 89 = .ok (.iload_n 1, 1) by decide +kernel) ?_
    refine mc_Vmi (pc := 90) (As := [.int 9, .int x6, .int x1]) (rest := [.int y0, .int 5, .ref o]) hC vw_leaf_437 (mm_leaf_ok l D ad de o a ca S 9 x6 x1) (Nat.le_of_ble_eq_true rfl) (Nat.le_of_ble_eq_true rfl) rfl (Nat.le_of_ble_eq_true rfl) (show decode prog_15_method_41_code 90 = .ok (.invokevirtual 437, 3) by decide +kernel) h ?_
    intro q1 h
    refine dc_iconst (pc := 93) (v := (-1)) hC (show decode prog_15_method_41_code 93 = .ok (.iconst (-1), 1) by decide +kernel) (by decide +kernel) ?_
    refine dc_iloadn (pc := 94) (j := 1) (i := 1) hC 2 rfl rfl (show decode prog_15_method_41_code 94 = .ok (.iload_n 1, 1) by decide +kernel) ?_
    refine dc_iconst (pc := 95) (v := (-1)) hC (show decode prog_15_method_41_code 95 = .ok (.iconst (-1), 1) by decide +kernel) (by decide +kernel) ?_
    refine mc_Vmi (pc := 96) (As := [.int 5, .int y0, .int q1.2, .int (-1), .int x1, .int (-1)]) (rest := []) hC vw_node_IIIIII_382 (mm_node_IIIIII_ok l D ad de o a ca q1.1 5 y0 q1.2 (-1) x1 (-1)) (Nat.le_of_ble_eq_true rfl) (Nat.le_of_ble_eq_true rfl) rfl (Nat.le_of_ble_eq_true rfl) (show decode prog_15_method_41_code 96 = .ok (.invokevirtual 382, 3) by decide +kernel) h ?_
    intro q2 h
    refine dc_istore (pc := 99) (i := 8) (lv' := [(8, .int q2.2), (0, .ref o), (1, .int x1), (3, .int x3), (6, .int x6)]) hC (Nat.le_of_ble_eq_true rfl) rfl (show decode prog_15_method_41_code 99 = .ok (.istore 8, 2) by decide +kernel) ?_
    refine dc_aloadn (pc := 101) (j := 0) (i := 0) hC 1 rfl rfl (show decode prog_15_method_41_code 101 = .ok (.aload_n 0, 1) by decide +kernel) ?_
    refine dc_bipush (pc := 102) (v := 7) hC (show decode prog_15_method_41_code 102 = .ok (.bipush 7, 2) by decide +kernel) (by decide +kernel) ?_
    refine dc_iload (pc := 104) (i := 8) hC 0 rfl (show decode prog_15_method_41_code 104 = .ok (.iload 8, 2) by decide +kernel) ?_
    refine dc_aloadn (pc := 106) (j := 0) (i := 0) hC 1 rfl rfl (show decode prog_15_method_41_code 106 = .ok (.aload_n 0, 1) by decide +kernel) ?_
    refine dc_iloadn (pc := 107) (j := 1) (i := 1) hC 2 rfl rfl (show decode prog_15_method_41_code 107 = .ok (.iload_n 1, 1) by decide +kernel) ?_
    refine dc_iloadn (pc := 108) (j := 3) (i := 3) hC 3 rfl rfl (show decode prog_15_method_41_code 108 = .ok (.iload_n 3, 1) by decide +kernel) ?_
    refine dc_iload (pc := 109) (i := 6) hC 4 rfl (show decode prog_15_method_41_code 109 = .ok (.iload 6, 2) by decide +kernel) ?_
    refine mc_Vmi (pc := 111) (As := [.int x1, .int x3, .int x6]) (rest := [.int q2.2, .int 7, .ref o]) hC vw_waiting_455 (mm_waiting_ok l D ad de o a ca q2.1 x1 x3 x6) (Nat.le_of_ble_eq_true rfl) (Nat.le_of_ble_eq_true rfl) rfl (Nat.le_of_ble_eq_true rfl) (show decode prog_15_method_41_code 111 = .ok (.invokevirtual 455, 3) by decide +kernel) h ?_
    intro q3 h
    refine dc_iconst (pc := 114) (v := (-1)) hC (show decode prog_15_method_41_code 114 = .ok (.iconst (-1), 1) by decide +kernel) (by decide +kernel) ?_
    refine dc_iloadn (pc := 115) (j := 1) (i := 1) hC 2 rfl rfl (show decode prog_15_method_41_code 115 = .ok (.iload_n 1, 1) by decide +kernel) ?_
    refine dc_iconst (pc := 116) (v := (-1)) hC (show decode prog_15_method_41_code 116 = .ok (.iconst (-1), 1) by decide +kernel) (by decide +kernel) ?_
    refine mc_Vmi (pc := 117) (As := [.int 7, .int q2.2, .int q3.2, .int (-1), .int x1, .int (-1)]) (rest := []) hC vw_node_IIIIII_382 (mm_node_IIIIII_ok l D ad de o a ca q3.1 7 q2.2 q3.2 (-1) x1 (-1)) (Nat.le_of_ble_eq_true rfl) (Nat.le_of_ble_eq_true rfl) rfl (Nat.le_of_ble_eq_true rfl) (show decode prog_15_method_41_code 117 = .ok (.invokevirtual 382, 3) by decide +kernel) h ?_
    intro q4 h
    refine dc_istore (pc := 120) (i := 8) (lv' := [(8, .int q4.2), (0, .ref o), (1, .int x1), (3, .int x3), (6, .int x6)]) hC (Nat.le_of_ble_eq_true rfl) rfl (show decode prog_15_method_41_code 120 = .ok (.istore 8, 2) by decide +kernel) ?_
    refine dc_aloadn (pc := 122) (j := 0) (i := 0) hC 1 rfl rfl (show decode prog_15_method_41_code 122 = .ok (.aload_n 0, 1) by decide +kernel) ?_
    refine dc_bipush (pc := 123) (v := 8) hC (show decode prog_15_method_41_code 123 = .ok (.bipush 8, 2) by decide +kernel) (by decide +kernel) ?_
    refine dc_iload (pc := 125) (i := 8) hC 0 rfl (show decode prog_15_method_41_code 125 = .ok (.iload 8, 2) by decide +kernel) ?_
    refine dc_iconst (pc := 127) (v := (-1)) hC (show decode prog_15_method_41_code 127 = .ok (.iconst (-1), 1) by decide +kernel) (by decide +kernel) ?_
    refine dc_iload (pc := 128) (i := 6) hC 4 rfl (show decode prog_15_method_41_code 128 = .ok (.iload 6, 2) by decide +kernel) ?_
    refine dc_iloadn (pc := 130) (j := 1) (i := 1) hC 2 rfl rfl (show decode prog_15_method_41_code 130 = .ok (.iload_n 1, 1) by decide +kernel) ?_
    refine dc_iconst (pc := 131) (v := (-1)) hC (show decode prog_15_method_41_code 131 = .ok (.iconst (-1), 1) by decide +kernel) (by decide +kernel) ?_
    refine mc_Vmi (pc := 132) (As := [.int 8, .int q4.2, .int (-1), .int x6, .int x1, .int (-1)]) (rest := []) hC vw_node_IIIIII_382 (mm_node_IIIIII_ok l D ad de o a ca q4.1 8 q4.2 (-1) x6 x1 (-1)) (Nat.le_of_ble_eq_true rfl) (Nat.le_of_ble_eq_true rfl) rfl (Nat.le_of_ble_eq_true rfl) (show decode prog_15_method_41_code 132 = .ok (.invokevirtual 382, 3) by decide +kernel) h ?_
    intro q5 h
    exact dc_iret (pc := 135) hC hR ⟨_, dc_some h, rfl, rfl⟩ (show decode prog_15_method_41_code 135 = .ok (.ireturn, 1) by decide +kernel)
  have lab_49 : ∀ (S : md_S) (x1 : Int32) (x2 : Int32) (x3 : Int32) (x4 : Int32) (x6 : Int32) (y0 : Int32), dc_wp (mm_aborted_L49 S x1 x2 x3 x4 x6 y0) F → dc_G X l { frames := 3, cells := 0, slots := 0, locals := 75 } D 9 0 0 (md_W o a ca S) 49 [(0, .ref o), (1, .int x1), (2, .int x2), (3, .int x3), (4, .int x4), (6, .int x6)] [.int y0, .ref o] := by
    intro S x1 x2 x3 x4 x6 y0 h
    delta mm_aborted_L49 at h
    refine dc_iconst (pc := 49) (v := 2) hC (show decode prog_15_method_41_code 49 = .ok (.iconst 2, 1) by decide +kernel) (by decide +kernel) ?_
    refine mc_Spi (pc := 50) (As := [.int y0, .int 2]) (rest := [.ref o]) hC vs_pairs_392 (mm_pairs_ok l D ad de (md_W o a ca S) (md_T ca) y0 2) (Nat.le_of_ble_eq_true rfl) (Nat.le_of_ble_eq_true rfl) rfl (Nat.le_of_ble_eq_true rfl) (show decode prog_15_method_41_code 50 = .ok (.invokestatic 392, 3) by decide +kernel) h ?_
    intro q6 h
    refine mc_Spi (pc := 53) (As := [.int q6]) (rest := [.ref o]) hC vs_caught_458 (mm_caught_ok l D ad de (md_W o a ca S) (md_T ca) q6) (Nat.le_of_ble_eq_true rfl) (Nat.le_of_ble_eq_true rfl) rfl (Nat.le_of_ble_eq_true rfl) (show decode prog_15_method_41_code 53 = .ok (.invokestatic 458, 3) by decide +kernel) h ?_
    intro q7 h
    refine md_p29 (pc := 56) hC (show decode prog_15_method_41_code 56 = .ok (.putfield 389, 3) by decide +kernel) ?_
    refine dc_letS h ?_
    intro S8 h
    refine dc_iload (pc := 59) (i := 4) hC 4 rfl (show decode prog_15_method_41_code 59 = .ok (.iload 4, 2) by decide +kernel) ?_
    refine dc_if_eq (pc := 61) (tgt := 68) hC (show decode prog_15_method_41_code 61 = .ok (.ifCond .eq 7, 3) by decide +kernel) (by decide +kernel) h ?_ ?_
    · intro h
      refine dc_aloadn (pc := 68) (j := 0) (i := 0) hC 0 rfl rfl (show decode prog_15_method_41_code 68 = .ok (.aload_n 0, 1) by decide +kernel) ?_
      refine dc_iconst (pc := 69) (v := 4) hC (show decode prog_15_method_41_code 69 = .ok (.iconst 4, 1) by decide +kernel) (by decide +kernel) ?_
      refine dc_iloadn (pc := 70) (j := 2) (i := 2) hC 2 rfl rfl (show decode prog_15_method_41_code 70 = .ok (.iload_n 2, 1) by decide +kernel) ?_
      refine dc_iconst (pc := 71) (v := (-1)) hC (show decode prog_15_method_41_code 71 = .ok (.iconst (-1), 1) by decide +kernel) (by decide +kernel) ?_
      refine dc_iconst (pc := 72) (v := (-1)) hC (show decode prog_15_method_41_code 72 = .ok (.iconst (-1), 1) by decide +kernel) (by decide +kernel) ?_
      refine dc_iloadn (pc := 73) (j := 1) (i := 1) hC 1 rfl rfl (show decode prog_15_method_41_code 73 = .ok (.iload_n 1, 1) by decide +kernel) ?_
      refine dc_iloadn (pc := 74) (j := 3) (i := 3) hC 3 rfl rfl (show decode prog_15_method_41_code 74 = .ok (.iload_n 3, 1) by decide +kernel) ?_
      refine mc_Vmi (pc := 75) (As := [.int 4, .int x2, .int (-1), .int (-1), .int x1, .int x3]) (rest := []) hC vw_node_IIIIII_382 (mm_node_IIIIII_ok l D ad de o a ca S8 4 x2 (-1) (-1) x1 x3) (Nat.le_of_ble_eq_true rfl) (Nat.le_of_ble_eq_true rfl) rfl (Nat.le_of_ble_eq_true rfl) (show decode prog_15_method_41_code 75 = .ok (.invokevirtual 382, 3) by decide +kernel) h ?_
      intro q9 h
      exact dc_sub [0, 1, 3, 5] rfl (lab_78 q9.1 x1 x3 x6 q9.2 h)
    · intro h
      refine dc_iloadn (pc := 64) (j := 2) (i := 2) hC 2 rfl rfl (show decode prog_15_method_41_code 64 = .ok (.iload_n 2, 1) by decide +kernel) ?_
      refine dc_goto (pc := 65) (tgt := 78) hC (show decode prog_15_method_41_code 65 = .ok (.goto 13, 3) by decide +kernel) (by decide +kernel) ?_
      exact dc_sub [0, 1, 3, 5] rfl (lab_78 S8 x1 x3 x6 x2 h)
  show dc_G X l { frames := 3, cells := 0, slots := 0, locals := 75 } D 9 0 0 (md_W o a ca S) 0 [(0, .ref o), (1, .int p1), (2, .int p2), (3, .int p3), (4, .int p4), (5, .int p5)] []
  delta mm_aborted at h
  refine dc_aloadn (pc := 0) (j := 0) (i := 0) hC 0 rfl rfl (show decode prog_15_method_41_code 0 = .ok (.aload_n 0, 1) by decide +kernel) ?_
  refine dc_dup (pc := 1) hC (show decode prog_15_method_41_code 1 = .ok (.dup, 1) by decide +kernel) rfl ?_
  refine md_g20 (pc := 2) hC (show decode prog_15_method_41_code 2 = .ok (.getfield 452, 3) by decide +kernel) ?_
  refine dc_iconst (pc := 5) (v := 1) hC (show decode prog_15_method_41_code 5 = .ok (.iconst 1, 1) by decide +kernel) (by decide +kernel) ?_
  refine dc_iadd (pc := 6) hC (show decode prog_15_method_41_code 6 = .ok (.iadd, 1) by decide +kernel) ?_
  refine md_p20 (pc := 7) hC (show decode prog_15_method_41_code 7 = .ok (.putfield 452, 3) by decide +kernel) ?_
  refine dc_letS h ?_
  intro S10 h
  refine dc_aloadn (pc := 10) (j := 0) (i := 0) hC 0 rfl rfl (show decode prog_15_method_41_code 10 = .ok (.aload_n 0, 1) by decide +kernel) ?_
  refine md_g20 (pc := 11) hC (show decode prog_15_method_41_code 11 = .ok (.getfield 452, 3) by decide +kernel) ?_
  refine dc_letI h ?_
  intro v11 h
  refine dc_istore (pc := 14) (i := 6) (lv' := [(6, .int v11), (0, .ref o), (1, .int p1), (2, .int p2), (3, .int p3), (4, .int p4), (5, .int p5)]) hC (Nat.le_of_ble_eq_true rfl) rfl (show decode prog_15_method_41_code 14 = .ok (.istore 6, 2) by decide +kernel) ?_
  refine dc_iload (pc := 16) (i := 5) hC 6 rfl (show decode prog_15_method_41_code 16 = .ok (.iload 5, 2) by decide +kernel) ?_
  refine dc_iconst (pc := 18) (v := 3) hC (show decode prog_15_method_41_code 18 = .ok (.iconst 3, 1) by decide +kernel) (by decide +kernel) ?_
  refine dc_iand (pc := 19) hC (show decode prog_15_method_41_code 19 = .ok (.iand, 1) by decide +kernel) ?_
  refine dc_iload (pc := 20) (i := 5) hC 6 rfl (show decode prog_15_method_41_code 20 = .ok (.iload 5, 2) by decide +kernel) ?_
  refine dc_iconst (pc := 22) (v := 2) hC (show decode prog_15_method_41_code 22 = .ok (.iconst 2, 1) by decide +kernel) (by decide +kernel) ?_
  refine dc_ishr (pc := 23) hC (show decode prog_15_method_41_code 23 = .ok (.ishr, 1) by decide +kernel) ?_
  refine dc_iconst (pc := 24) (v := 3) hC (show decode prog_15_method_41_code 24 = .ok (.iconst 3, 1) by decide +kernel) (by decide +kernel) ?_
  refine dc_ishl (pc := 25) hC (show decode prog_15_method_41_code 25 = .ok (.ishl, 1) by decide +kernel) ?_
  refine dc_ior (pc := 26) hC (show decode prog_15_method_41_code 26 = .ok (.ior, 1) by decide +kernel) ?_
  refine dc_letI h ?_
  intro v12 h
  refine dc_istore (pc := 27) (i := 7) (lv' := [(7, .int v12), (6, .int v11), (0, .ref o), (1, .int p1), (2, .int p2), (3, .int p3), (4, .int p4), (5, .int p5)]) hC (Nat.le_of_ble_eq_true rfl) rfl (show decode prog_15_method_41_code 27 = .ok (.istore 7, 2) by decide +kernel) ?_
  refine dc_aloadn (pc := 29) (j := 0) (i := 0) hC 2 rfl rfl (show decode prog_15_method_41_code 29 = .ok (.aload_n 0, 1) by decide +kernel) ?_
  refine dc_iload (pc := 30) (i := 7) hC 0 rfl (show decode prog_15_method_41_code 30 = .ok (.iload 7, 2) by decide +kernel) ?_
  refine dc_iconst (pc := 32) (v := 1) hC (show decode prog_15_method_41_code 32 = .ok (.iconst 1, 1) by decide +kernel) (by decide +kernel) ?_
  refine dc_iand (pc := 33) hC (show decode prog_15_method_41_code 33 = .ok (.iand, 1) by decide +kernel) ?_
  refine dc_if_ne (pc := 34) (tgt := 42) hC (show decode prog_15_method_41_code 34 = .ok (.ifCond .ne 8, 3) by decide +kernel) (by decide +kernel) h ?_ ?_
  · intro h
    refine dc_iload (pc := 37) (i := 7) hC 0 rfl (show decode prog_15_method_41_code 37 = .ok (.iload 7, 2) by decide +kernel) ?_
    refine dc_goto (pc := 39) (tgt := 49) hC (show decode prog_15_method_41_code 39 = .ok (.goto 10, 3) by decide +kernel) (by decide +kernel) ?_
    exact dc_sub [2, 3, 4, 5, 6, 1] rfl (lab_49 S10 p1 p2 p3 p4 v11 v12 h)
  · intro h
    refine dc_iload (pc := 42) (i := 7) hC 0 rfl (show decode prog_15_method_41_code 42 = .ok (.iload 7, 2) by decide +kernel) ?_
    refine dc_bipush (pc := 44) (v := (-2)) hC (show decode prog_15_method_41_code 44 = .ok (.bipush (-2), 2) by decide +kernel) (by decide +kernel) ?_
    refine dc_iand (pc := 46) hC (show decode prog_15_method_41_code 46 = .ok (.iand, 1) by decide +kernel) ?_
    refine dc_iconst (pc := 47) (v := 4) hC (show decode prog_15_method_41_code 47 = .ok (.iconst 4, 1) by decide +kernel) (by decide +kernel) ?_
    refine dc_ior (pc := 48) hC (show decode prog_15_method_41_code 48 = .ok (.ior, 1) by decide +kernel) ?_
    exact dc_sub [2, 3, 4, 5, 6, 1] rfl (lab_49 S10 p1 p2 p3 p4 v11 ((v12 &&& (-2)) ||| 4) h)
noncomputable def mm_again (S : md_S) (p1 : Int32) (p2 : Int32) (p3 : Int32) (p4 : Int32) : Option (md_S × Int32) :=
  (mm_halt S p1).bind fun q1 => (mm_node_IIIIII q1.1 5 p2 q1.2 (-1) p1 (-1)).bind fun q2 => (mm_then p4 2).bind fun q3 => (mm_aborted q2.1 p1 q2.2 p3 0 q3).bind fun q4 => (mm_node_IIIIII q4.1 6 q4.2 (-1) (-1) p1 (-1)).bind fun q5 => some (q5.1, q5.2)
set_option maxHeartbeats 4000000 in
set_option maxRecDepth 100000 in
/-- again(IIII)I -/
theorem mm_again_ok (l : Launch) (D : va_G) (ad : Nat → Nat) (de : Nat) (o : Nat) (a : Nat → Nat) (ca : Nat → ClassId) (S : md_S) (p1 : Int32) (p2 : Int32) (p3 : Int32) (p4 : Int32) (F : (md_S × Int32) → Prop) (h : dc_wp (mm_again S p1 p2 p3 p4) F) : dc_Ci l ⟨"SignalEngineModel", "again", "(IIII)I"⟩ prog_15_method_42_code 6 (some (.int)) 4 103 D (md_T ca) ad de [.ref o, .int p1, .int p2, .int p3, .int p4] (md_W o a ca S) (fun r w => ∃ q, F q ∧ r = q.2 ∧ w = md_W o a ca q.1) 0 0 := by
  refine dc_enteri (by decide +kernel) (Nat.le_of_ble_eq_true rfl) ?_
  intro X hC hR
  show dc_G X l { frames := 4, cells := 0, slots := 0, locals := 103 } D 6 0 0 (md_W o a ca S) 0 [(0, .ref o), (1, .int p1), (2, .int p2), (3, .int p3), (4, .int p4)] []
  delta mm_again at h
  refine dc_aloadn (pc := 0) (j := 0) (i := 0) hC 0 rfl rfl (show decode prog_15_method_42_code 0 = .ok (.aload_n 0, 1) by decide +kernel) ?_
  refine dc_iconst (pc := 1) (v := 5) hC (show decode prog_15_method_42_code 1 = .ok (.iconst 5, 1) by decide +kernel) (by decide +kernel) ?_
  refine dc_iloadn (pc := 2) (j := 2) (i := 2) hC 2 rfl rfl (show decode prog_15_method_42_code 2 = .ok (.iload_n 2, 1) by decide +kernel) ?_
  refine dc_aloadn (pc := 3) (j := 0) (i := 0) hC 0 rfl rfl (show decode prog_15_method_42_code 3 = .ok (.aload_n 0, 1) by decide +kernel) ?_
  refine dc_iloadn (pc := 4) (j := 1) (i := 1) hC 1 rfl rfl (show decode prog_15_method_42_code 4 = .ok (.iload_n 1, 1) by decide +kernel) ?_
  refine mc_Vmi (pc := 5) (As := [.int p1]) (rest := [.int p2, .int 5, .ref o]) hC vw_halt_440 (mm_halt_ok l D ad de o a ca S p1) (Nat.le_of_ble_eq_true rfl) (Nat.le_of_ble_eq_true rfl) rfl (Nat.le_of_ble_eq_true rfl) (show decode prog_15_method_42_code 5 = .ok (.invokevirtual 440, 3) by decide +kernel) h ?_
  intro q1 h
  refine dc_iconst (pc := 8) (v := (-1)) hC (show decode prog_15_method_42_code 8 = .ok (.iconst (-1), 1) by decide +kernel) (by decide +kernel) ?_
  refine dc_iloadn (pc := 9) (j := 1) (i := 1) hC 1 rfl rfl (show decode prog_15_method_42_code 9 = .ok (.iload_n 1, 1) by decide +kernel) ?_
  refine dc_iconst (pc := 10) (v := (-1)) hC (show decode prog_15_method_42_code 10 = .ok (.iconst (-1), 1) by decide +kernel) (by decide +kernel) ?_
  refine mc_Vmi (pc := 11) (As := [.int 5, .int p2, .int q1.2, .int (-1), .int p1, .int (-1)]) (rest := []) hC vw_node_IIIIII_382 (mm_node_IIIIII_ok l D ad de o a ca q1.1 5 p2 q1.2 (-1) p1 (-1)) (Nat.le_of_ble_eq_true rfl) (Nat.le_of_ble_eq_true rfl) rfl (Nat.le_of_ble_eq_true rfl) (show decode prog_15_method_42_code 11 = .ok (.invokevirtual 382, 3) by decide +kernel) h ?_
  intro q2 h
  refine dc_istore (pc := 14) (i := 5) (lv' := [(5, .int q2.2), (0, .ref o), (1, .int p1), (2, .int p2), (3, .int p3), (4, .int p4)]) hC (Nat.le_of_ble_eq_true rfl) rfl (show decode prog_15_method_42_code 14 = .ok (.istore 5, 2) by decide +kernel) ?_
  refine dc_aloadn (pc := 16) (j := 0) (i := 0) hC 1 rfl rfl (show decode prog_15_method_42_code 16 = .ok (.aload_n 0, 1) by decide +kernel) ?_
  refine dc_bipush (pc := 17) (v := 6) hC (show decode prog_15_method_42_code 17 = .ok (.bipush 6, 2) by decide +kernel) (by decide +kernel) ?_
  refine dc_aloadn (pc := 19) (j := 0) (i := 0) hC 1 rfl rfl (show decode prog_15_method_42_code 19 = .ok (.aload_n 0, 1) by decide +kernel) ?_
  refine dc_iloadn (pc := 20) (j := 1) (i := 1) hC 2 rfl rfl (show decode prog_15_method_42_code 20 = .ok (.iload_n 1, 1) by decide +kernel) ?_
  refine dc_iload (pc := 21) (i := 5) hC 0 rfl (show decode prog_15_method_42_code 21 = .ok (.iload 5, 2) by decide +kernel) ?_
  refine dc_iloadn (pc := 23) (j := 3) (i := 3) hC 4 rfl rfl (show decode prog_15_method_42_code 23 = .ok (.iload_n 3, 1) by decide +kernel) ?_
  refine dc_iconst (pc := 24) (v := 0) hC (show decode prog_15_method_42_code 24 = .ok (.iconst 0, 1) by decide +kernel) (by decide +kernel) ?_
  refine dc_iload (pc := 25) (i := 4) hC 5 rfl (show decode prog_15_method_42_code 25 = .ok (.iload 4, 2) by decide +kernel) ?_
  refine dc_iconst (pc := 27) (v := 2) hC (show decode prog_15_method_42_code 27 = .ok (.iconst 2, 1) by decide +kernel) (by decide +kernel) ?_
  refine mc_Spi (pc := 28) (As := [.int p4, .int 2]) (rest := [.int 0, .int p3, .int q2.2, .int p1, .ref o, .int 6, .ref o]) hC vs_then_399 (mm_then_ok l D ad de (md_W o a ca q2.1) (md_T ca) p4 2) (Nat.le_of_ble_eq_true rfl) (Nat.le_of_ble_eq_true rfl) rfl (Nat.le_of_ble_eq_true rfl) (show decode prog_15_method_42_code 28 = .ok (.invokestatic 399, 3) by decide +kernel) h ?_
  intro q3 h
  refine mc_Vmi (pc := 31) (As := [.int p1, .int q2.2, .int p3, .int 0, .int q3]) (rest := [.int 6, .ref o]) hC vw_aborted_461 (mm_aborted_ok l D ad de o a ca q2.1 p1 q2.2 p3 0 q3) (Nat.le_of_ble_eq_true rfl) (Nat.le_of_ble_eq_true rfl) rfl (Nat.le_of_ble_eq_true rfl) (show decode prog_15_method_42_code 31 = .ok (.invokevirtual 461, 3) by decide +kernel) h ?_
  intro q4 h
  refine dc_iconst (pc := 34) (v := (-1)) hC (show decode prog_15_method_42_code 34 = .ok (.iconst (-1), 1) by decide +kernel) (by decide +kernel) ?_
  refine dc_iconst (pc := 35) (v := (-1)) hC (show decode prog_15_method_42_code 35 = .ok (.iconst (-1), 1) by decide +kernel) (by decide +kernel) ?_
  refine dc_iloadn (pc := 36) (j := 1) (i := 1) hC 2 rfl rfl (show decode prog_15_method_42_code 36 = .ok (.iload_n 1, 1) by decide +kernel) ?_
  refine dc_iconst (pc := 37) (v := (-1)) hC (show decode prog_15_method_42_code 37 = .ok (.iconst (-1), 1) by decide +kernel) (by decide +kernel) ?_
  refine mc_Vmi (pc := 38) (As := [.int 6, .int q4.2, .int (-1), .int (-1), .int p1, .int (-1)]) (rest := []) hC vw_node_IIIIII_382 (mm_node_IIIIII_ok l D ad de o a ca q4.1 6 q4.2 (-1) (-1) p1 (-1)) (Nat.le_of_ble_eq_true rfl) (Nat.le_of_ble_eq_true rfl) rfl (Nat.le_of_ble_eq_true rfl) (show decode prog_15_method_42_code 38 = .ok (.invokevirtual 382, 3) by decide +kernel) h ?_
  intro q5 h
  exact dc_iret (pc := 41) hC hR ⟨_, dc_some h, rfl, rfl⟩ (show decode prog_15_method_42_code 41 = .ok (.ireturn, 1) by decide +kernel)
