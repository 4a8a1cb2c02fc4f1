noncomputable def mm_placeOf_L16 (S : md_S) (y0 : Int32) : Option (Int32) :=
  some y0
noncomputable def mm_placeOf (S : md_S) (p1 : Int32) : Option (Int32) :=
  if (S.1 85) = 0 then (mm_placeOf_L16 S (-1)) else ((mm_find S p1).bind fun q1 => mm_placeOf_L16 S q1)
set_option maxHeartbeats 4000000 in
set_option maxRecDepth 100000 in
/-- placeOf(I)I -/
theorem mm_placeOf_ok (l : Launch) (D : va_G) (ad : Nat → Nat) (de : Nat) (o : Nat) (a : Nat → Nat) (ca : Nat → ClassId) (S : md_S) (p1 : Int32) (F : Int32 → Prop) (h : dc_wp (mm_placeOf S p1) F) : dc_Ci l ⟨"SignalEngineModel", "placeOf", "(I)I"⟩ prog_15_method_85_code 2 (some (.int)) 1 22 D (md_T ca) ad de [.ref o, .int p1] (md_W o a ca S) (fun r w => ∃ q, F q ∧ r = q ∧ w = (md_W o a ca S)) 0 0 := by
  refine dc_enteri (by decide +kernel) (Nat.le_of_ble_eq_true rfl) ?_
  intro X hC hR
  have lab_16 : ∀ (y0 : Int32), dc_wp (mm_placeOf_L16 S y0) F → dc_G X l { frames := 1, cells := 0, slots := 0, locals := 22 } D 2 0 0 (md_W o a ca S) 16 [(0, .ref o)] [.int y0] := by
    intro y0 h
    delta mm_placeOf_L16 at h
    exact dc_iret (pc := 16) hC hR ⟨_, dc_some h, rfl, rfl⟩ (show decode prog_15_method_85_code 16 = .ok (.ireturn, 1) by decide +kernel)
  show dc_G X l { frames := 1, cells := 0, slots := 0, locals := 22 } D 2 0 0 (md_W o a ca S) 0 [(0, .ref o), (1, .int p1)] []
  delta mm_placeOf at h
  refine dc_aloadn (pc := 0) (j := 0) (i := 0) hC 0 rfl rfl (show decode prog_15_method_85_code 0 = .ok (.aload_n 0, 1) by decide +kernel) ?_
  refine md_g85 (pc := 1) hC (show decode prog_15_method_85_code 1 = .ok (.getfield 518, 3) by decide +kernel) ?_
  refine dc_if_eq (pc := 4) (tgt := 15) hC (show decode prog_15_method_85_code 4 = .ok (.ifCond .eq 11, 3) by decide +kernel) (by decide +kernel) h ?_ ?_
  · intro h
    refine dc_iconst (pc := 15) (v := (-1)) hC (show decode prog_15_method_85_code 15 = .ok (.iconst (-1), 1) by decide +kernel) (by decide +kernel) ?_
    exact dc_sub [0] rfl (lab_16 (-1) h)
  · intro h
    refine dc_aloadn (pc := 7) (j := 0) (i := 0) hC 0 rfl rfl (show decode prog_15_method_85_code 7 = .ok (.aload_n 0, 1) by decide +kernel) ?_
    refine dc_iloadn (pc := 8) (j := 1) (i := 1) hC 1 rfl rfl (show decode prog_15_method_85_code 8 = .ok (.iload_n 1, 1) by decide +kernel) ?_
    refine mc_Vpi (pc := 9) (As := [.int p1]) (rest := []) hC vw_find_631 (mm_find_ok l D ad de o a ca S p1) (Nat.le_of_ble_eq_true rfl) (Nat.le_of_ble_eq_true rfl) rfl (Nat.le_of_ble_eq_true rfl) (show decode prog_15_method_85_code 9 = .ok (.invokevirtual 631, 3) by decide +kernel) h ?_
    intro q1 h
    refine dc_goto (pc := 12) (tgt := 16) hC (show decode prog_15_method_85_code 12 = .ok (.goto 4, 3) by decide +kernel) (by decide +kernel) ?_
    exact dc_sub [0] rfl (lab_16 q1 h)
noncomputable def mm_distance_L26 (S : md_S) (y0 : Int32) : Option (md_S × Int32) :=
  some (S, y0)
noncomputable def mm_distance (S : md_S) (p1 : Int32) : Option (md_S × Int32) :=
  dc_let (md_i S 0 0) fun S1 => (mm_placeOf S1 p1).bind fun q2 => if q2 = (-1) then (mm_distance_L26 S1 (-1)) else ((dc_ix q2 257).bind fun j3 => mm_distance_L26 S1 (S1.2.1 89 j3))
set_option maxHeartbeats 4000000 in
set_option maxRecDepth 100000 in
/-- distance(I)I -/
theorem mm_distance_ok (l : Launch) (D : va_G) (ad : Nat → Nat) (de : Nat) (o : Nat) (a : Nat → Nat) (ca : Nat → ClassId) (S : md_S) (p1 : Int32) (F : (md_S × Int32) → Prop) (h : dc_wp (mm_distance S p1) F) : dc_Ci l ⟨"SignalEngineModel", "distance", "(I)I"⟩ prog_15_method_92_code 3 (some (.int)) 2 43 D (md_T ca) ad de [.ref o, .int p1] (md_W o a ca S) (fun r w => ∃ q, F q ∧ r = q.2 ∧ w = md_W o a ca q.1) 0 0 := by
  refine dc_enteri (by decide +kernel) (Nat.le_of_ble_eq_true rfl) ?_
  intro X hC hR
  have lab_26 : ∀ (S : md_S) (y0 : Int32), dc_wp (mm_distance_L26 S y0) F → dc_G X l { frames := 2, cells := 0, slots := 0, locals := 43 } D 3 0 0 (md_W o a ca S) 26 [(0, .ref o)] [.int y0] := by
    intro S y0 h
    delta mm_distance_L26 at h
    exact dc_iret (pc := 26) hC hR ⟨_, dc_some h, rfl, rfl⟩ (show decode prog_15_method_92_code 26 = .ok (.ireturn, 1) by decide +kernel)
  show dc_G X l { frames := 2, cells := 0, slots := 0, locals := 43 } D 3 0 0 (md_W o a ca S) 0 [(0, .ref o), (1, .int p1)] []
  delta mm_distance at h
  refine dc_aloadn (pc := 0) (j := 0) (i := 0) hC 0 rfl rfl (show decode prog_15_method_92_code 0 = .ok (.aload_n 0, 1) by decide +kernel) ?_
  refine dc_iconst (pc := 1) (v := 0) hC (show decode prog_15_method_92_code 1 = .ok (.iconst 0, 1) by decide +kernel) (by decide +kernel) ?_
  refine md_p0 (pc := 2) hC (show decode prog_15_method_92_code 2 = .ok (.putfield 206, 3) by decide +kernel) ?_
  refine dc_letS h ?_
  intro S1 h
  refine dc_aloadn (pc := 5) (j := 0) (i := 0) hC 0 rfl rfl (show decode prog_15_method_92_code 5 = .ok (.aload_n 0, 1) by decide +kernel) ?_
  refine dc_iloadn (pc := 6) (j := 1) (i := 1) hC 1 rfl rfl (show decode prog_15_method_92_code 6 = .ok (.iload_n 1, 1) by decide +kernel) ?_
  refine mc_Vpi (pc := 7) (As := [.int p1]) (rest := []) hC vw_placeOf_648 (mm_placeOf_ok l D ad de o a ca S1 p1) (Nat.le_of_ble_eq_true rfl) (Nat.le_of_ble_eq_true rfl) rfl (Nat.le_of_ble_eq_true rfl) (show decode prog_15_method_92_code 7 = .ok (.invokevirtual 648, 3) by decide +kernel) h ?_
  intro q2 h
  refine dc_istoren (pc := 10) (j := 2) (i := 2) (lv' := [(2, .int q2), (0, .ref o), (1, .int p1)]) hC rfl (Nat.le_of_ble_eq_true rfl) rfl (show decode prog_15_method_92_code 10 = .ok (.istore_n 2, 1) by decide +kernel) ?_
  refine dc_iloadn (pc := 11) (j := 2) (i := 2) hC 0 rfl rfl (show decode prog_15_method_92_code 11 = .ok (.iload_n 2, 1) by decide +kernel) ?_
  refine dc_iconst (pc := 12) (v := (-1)) hC (show decode prog_15_method_92_code 12 = .ok (.iconst (-1), 1) by decide +kernel) (by decide +kernel) ?_
  refine dc_icmp_ne (pc := 13) (tgt := 20) hC (show decode prog_15_method_92_code 13 = .ok (.if_icmp .ne 7, 3) by decide +kernel) (by decide +kernel) h ?_ ?_
  · intro h
    refine dc_iconst (pc := 16) (v := (-1)) hC (show decode prog_15_method_92_code 16 = .ok (.iconst (-1), 1) by decide +kernel) (by decide +kernel) ?_
    refine dc_goto (pc := 17) (tgt := 26) hC (show decode prog_15_method_92_code 17 = .ok (.goto 9, 3) by decide +kernel) (by decide +kernel) ?_
    exact dc_sub [1] rfl (lab_26 S1 (-1) h)
  · intro h
    refine dc_aloadn (pc := 20) (j := 0) (i := 0) hC 1 rfl rfl (show decode prog_15_method_92_code 20 = .ok (.aload_n 0, 1) by decide +kernel) ?_
    refine md_g89 (pc := 21) hC (show decode prog_15_method_92_code 21 = .ok (.getfield 151, 3) by decide +kernel) ?_
    refine dc_iloadn (pc := 24) (j := 2) (i := 2) hC 0 rfl rfl (show decode prog_15_method_92_code 24 = .ok (.iload_n 2, 1) by decide +kernel) ?_
    refine md_l89 (pc := 25) hC (show decode prog_15_method_92_code 25 = .ok (.iaload, 1) by decide +kernel) h ?_
    intro j3 h
    exact dc_sub [1] rfl (lab_26 S1 (S1.2.1 89 j3) h)
noncomputable def mm_path_L54 (S : md_S) (x3 : Int32) : Option (md_S × Int32) :=
  (dc_ix x3 257).bind fun j1 => some (S, (S.2.1 91 j1))
noncomputable def mm_path_b32 (S : md_S) (x2 : Int32) (x3 : Int32) : Option ((Int32) ⊕ ((Int32))) :=
  (dc_ix x3 257).bind fun j2 => if (x2 + 1) < (S.2.1 89 j2) then ((dc_ix x3 257).bind fun j3 => dc_let ((S.2.1 90 j3) : Int32) fun v4 => some (.inl v4)) else (some (.inr x3))
noncomputable def mm_path_s32 (S : md_S) (x2 : Int32) (q : Int32) : Option ((Int32) ⊕ ((Int32))) :=
  mm_path_b32 S x2 q
noncomputable def mm_path_L32 (S : md_S) (x2 : Int32) (x3 : Int32) : Option (md_S × Int32) :=
  (dc_it (mm_path_s32 S x2) x3).bind (fun (z : Int32) => mm_path_L54 S z)
noncomputable def mm_path_L30 (S : md_S) : Option (md_S × Int32) :=
  some (S, (-1))
noncomputable def mm_path (S : md_S) (p1 : Int32) (p2 : Int32) : Option (md_S × Int32) :=
  dc_let (md_i S 0 0) fun S5 => (mm_placeOf S5 p1).bind fun q6 => if q6 = (-1) then (mm_path_L30 S5) else (if p2 < 0 then (mm_path_L30 S5) else ((dc_ix q6 257).bind fun j7 => if p2 < (S5.2.1 89 j7) then (mm_path_L32 S5 p2 q6) else (mm_path_L30 S5)))
set_option maxHeartbeats 4000000 in
set_option maxRecDepth 100000 in
/-- path(II)I -/
theorem mm_path_ok (l : Launch) (D : va_G) (ad : Nat → Nat) (de : Nat) (o : Nat) (a : Nat → Nat) (ca : Nat → ClassId) (S : md_S) (p1 : Int32) (p2 : Int32) (F : (md_S × Int32) → Prop) (h : dc_wp (mm_path S p1 p2) F) : dc_Ci l ⟨"SignalEngineModel", "path", "(II)I"⟩ prog_15_method_93_code 4 (some (.int)) 2 43 D (md_T ca) ad de [.ref o, .int p1, .int p2] (md_W o a ca S) (fun r w => ∃ q, F q ∧ r = q.2 ∧ w = md_W o a ca q.1) 0 0 := by
  refine dc_enteri (by decide +kernel) (Nat.le_of_ble_eq_true rfl) ?_
  intro X hC hR
  have lab_54 : ∀ (S : md_S) (x3 : Int32), dc_wp (mm_path_L54 S x3) F → dc_G X l { frames := 2, cells := 0, slots := 0, locals := 43 } D 4 0 0 (md_W o a ca S) 54 [(0, .ref o), (3, .int x3)] [] := by
    intro S x3 h
    delta mm_path_L54 at h
    refine dc_aloadn (pc := 54) (j := 0) (i := 0) hC 0 rfl rfl (show decode prog_15_method_93_code 54 = .ok (.aload_n 0, 1) by decide +kernel) ?_
    refine md_g91 (pc := 55) hC (show decode prog_15_method_93_code 55 = .ok (.getfield 157, 3) by decide +kernel) ?_
    refine dc_iloadn (pc := 58) (j := 3) (i := 3) hC 1 rfl rfl (show decode prog_15_method_93_code 58 = .ok (.iload_n 3, 1) by decide +kernel) ?_
    refine md_l91 (pc := 59) hC (show decode prog_15_method_93_code 59 = .ok (.iaload, 1) by decide +kernel) h ?_
    intro j1 h
    exact dc_iret (pc := 60) hC hR ⟨_, dc_some h, rfl, rfl⟩ (show decode prog_15_method_93_code 60 = .ok (.ireturn, 1) by decide +kernel)
  have loop_32 : ∀ (S : md_S) (x2 : Int32) (q : Int32), dc_wp (dc_it (mm_path_s32 S x2) q) (fun z => dc_wp ((fun (z : Int32) => mm_path_L54 S z) z) F) → dc_G X l { frames := 2, cells := 0, slots := 0, locals := 43 } D 4 0 0 (md_W o a ca S) 32 [(0, .ref o), (2, .int x2), (3, .int q)] [] := by
    intro S x2
    refine dc_loopF ?_
    intro F_32 hl_32 hr_32
    rintro x3 h
    have h : dc_wp (mm_path_b32 S x2 x3) F_32 := h
    delta mm_path_b32 at h
    refine dc_aloadn (pc := 32) (j := 0) (i := 0) hC 0 rfl rfl (show decode prog_15_method_93_code 32 = .ok (.aload_n 0, 1) by decide +kernel) ?_
    refine md_g89 (pc := 33) hC (show decode prog_15_method_93_code 33 = .ok (.getfield 151, 3) by decide +kernel) ?_
    refine dc_iloadn (pc := 36) (j := 3) (i := 3) hC 2 rfl rfl (show decode prog_15_method_93_code 36 = .ok (.iload_n 3, 1) by decide +kernel) ?_
    refine md_l89 (pc := 37) hC (show decode prog_15_method_93_code 37 = .ok (.iaload, 1) by decide +kernel) h ?_
    intro j2 h
    refine dc_iloadn (pc := 38) (j := 2) (i := 2) hC 1 rfl rfl (show decode prog_15_method_93_code 38 = .ok (.iload_n 2, 1) by decide +kernel) ?_
    refine dc_iconst (pc := 39) (v := 1) hC (show decode prog_15_method_93_code 39 = .ok (.iconst 1, 1) by decide +kernel) (by decide +kernel) ?_
    refine dc_iadd (pc := 40) hC (show decode prog_15_method_93_code 40 = .ok (.iadd, 1) by decide +kernel) ?_
    refine dc_icmp_le (pc := 41) (tgt := 54) hC (show decode prog_15_method_93_code 41 = .ok (.if_icmp .le 13, 3) by decide +kernel) (by decide +kernel) h ?_ ?_
    · intro h
      refine dc_aloadn (pc := 44) (j := 0) (i := 0) hC 0 rfl rfl (show decode prog_15_method_93_code 44 = .ok (.aload_n 0, 1) by decide +kernel) ?_
      refine md_g90 (pc := 45) hC (show decode prog_15_method_93_code 45 = .ok (.getfield 154, 3) by decide +kernel) ?_
      refine dc_iloadn (pc := 48) (j := 3) (i := 3) hC 2 rfl rfl (show decode prog_15_method_93_code 48 = .ok (.iload_n 3, 1) by decide +kernel) ?_
      refine md_l90 (pc := 49) hC (show decode prog_15_method_93_code 49 = .ok (.iaload, 1) by decide +kernel) h ?_
      intro j3 h
      refine dc_letI h ?_
      intro v4 h
      refine dc_istoren (pc := 50) (j := 3) (i := 3) (lv' := [(3, .int v4), (0, .ref o), (2, .int x2)]) hC rfl (Nat.le_of_ble_eq_true rfl) rfl (show decode prog_15_method_93_code 50 = .ok (.istore_n 3, 1) by decide +kernel) ?_
      refine dc_goto (pc := 51) (tgt := 32) hC (show decode prog_15_method_93_code 51 = .ok (.goto (-19), 3) by decide +kernel) (by decide +kernel) ?_
      exact dc_sub [1, 2, 0] rfl (hl_32 v4 (dc_some h))
    · intro h
      have h : dc_wp (mm_path_L54 S x3) F := hr_32 x3 (dc_some h)
      exact dc_sub [0, 2] rfl (lab_54 S x3 h)
  have lab_32 : ∀ (S : md_S) (x2 : Int32) (x3 : Int32), dc_wp (mm_path_L32 S x2 x3) F → dc_G X l { frames := 2, cells := 0, slots := 0, locals := 43 } D 4 0 0 (md_W o a ca S) 32 [(0, .ref o), (2, .int x2), (3, .int x3)] [] := fun S x2 x3 h => loop_32 S x2 x3 (dc_bind h)
  have lab_30 : ∀ (S : md_S), dc_wp (mm_path_L30 S) F → dc_G X l { frames := 2, cells := 0, slots := 0, locals := 43 } D 4 0 0 (md_W o a ca S) 30 [(0, .ref o)] [] := by
    intro S  h
    delta mm_path_L30 at h
    refine dc_iconst (pc := 30) (v := (-1)) hC (show decode prog_15_method_93_code 30 = .ok (.iconst (-1), 1) by decide +kernel) (by decide +kernel) ?_
    exact dc_iret (pc := 31) hC hR ⟨_, dc_some h, rfl, rfl⟩ (show decode prog_15_method_93_code 31 = .ok (.ireturn, 1) by decide +kernel)
  show dc_G X l { frames := 2, cells := 0, slots := 0, locals := 43 } D 4 0 0 (md_W o a ca S) 0 [(0, .ref o), (1, .int p1), (2, .int p2)] []
  delta mm_path at h
  refine dc_aloadn (pc := 0) (j := 0) (i := 0) hC 0 rfl rfl (show decode prog_15_method_93_code 0 = .ok (.aload_n 0, 1) by decide +kernel) ?_
  refine dc_iconst (pc := 1) (v := 0) hC (show decode prog_15_method_93_code 1 = .ok (.iconst 0, 1) by decide +kernel) (by decide +kernel) ?_
  refine md_p0 (pc := 2) hC (show decode prog_15_method_93_code 2 = .ok (.putfield 206, 3) by decide +kernel) ?_
  refine dc_letS h ?_
  intro S5 h
  refine dc_aloadn (pc := 5) (j := 0) (i := 0) hC 0 rfl rfl (show decode prog_15_method_93_code 5 = .ok (.aload_n 0, 1) by decide +kernel) ?_
  refine dc_iloadn (pc := 6) (j := 1) (i := 1) hC 1 rfl rfl (show decode prog_15_method_93_code 6 = .ok (.iload_n 1, 1) by decide +kernel) ?_
  refine mc_Vpi (pc := 7) (As := [.int p1]) (rest := []) hC vw_placeOf_648 (mm_placeOf_ok l D ad de o a ca S5 p1) (Nat.le_of_ble_eq_true rfl) (Nat.le_of_ble_eq_true rfl) rfl (Nat.le_of_ble_eq_true rfl) (show decode prog_15_method_93_code 7 = .ok (.invokevirtual 648, 3) by decide +kernel) h ?_
  intro q6 h
  refine dc_istoren (pc := 10) (j := 3) (i := 3) (lv' := [(3, .int q6), (0, .ref o), (1, .int p1), (2, .int p2)]) hC rfl (Nat.le_of_ble_eq_true rfl) rfl (show decode prog_15_method_93_code 10 = .ok (.istore_n 3, 1) by decide +kernel) ?_
  refine dc_iloadn (pc := 11) (j := 3) (i := 3) hC 0 rfl rfl (show decode prog_15_method_93_code 11 = .ok (.iload_n 3, 1) by decide +kernel) ?_
  refine dc_iconst (pc := 12) (v := (-1)) hC (show decode prog_15_method_93_code 12 = .ok (.iconst (-1), 1) by decide +kernel) (by decide +kernel) ?_
  refine dc_icmp_eq (pc := 13) (tgt := 30) hC (show decode prog_15_method_93_code 13 = .ok (.if_icmp .eq 17, 3) by decide +kernel) (by decide +kernel) h ?_ ?_
  · intro h
    exact dc_sub [1] rfl (lab_30 S5 h)
  · intro h
    refine dc_iloadn (pc := 16) (j := 2) (i := 2) hC 3 rfl rfl (show decode prog_15_method_93_code 16 = .ok (.iload_n 2, 1) by decide +kernel) ?_
    refine dc_if_lt (pc := 17) (tgt := 30) hC (show decode prog_15_method_93_code 17 = .ok (.ifCond .lt 13, 3) by decide +kernel) (by decide +kernel) h ?_ ?_
    · intro h
      exact dc_sub [1] rfl (lab_30 S5 h)
    · intro h
      refine dc_iloadn (pc := 20) (j := 2) (i := 2) hC 3 rfl rfl (show decode prog_15_method_93_code 20 = .ok (.iload_n 2, 1) by decide +kernel) ?_
      refine dc_aloadn (pc := 21) (j := 0) (i := 0) hC 1 rfl rfl (show decode prog_15_method_93_code 21 = .ok (.aload_n 0, 1) by decide +kernel) ?_
      refine md_g89 (pc := 22) hC (show decode prog_15_method_93_code 22 = .ok (.getfield 151, 3) by decide +kernel) ?_
      refine dc_iloadn (pc := 25) (j := 3) (i := 3) hC 0 rfl rfl (show decode prog_15_method_93_code 25 = .ok (.iload_n 3, 1) by decide +kernel) ?_
      refine md_l89 (pc := 26) hC (show decode prog_15_method_93_code 26 = .ok (.iaload, 1) by decide +kernel) h ?_
      intro j7 h
      refine dc_icmp_lt (pc := 27) (tgt := 32) hC (show decode prog_15_method_93_code 27 = .ok (.if_icmp .lt 5, 3) by decide +kernel) (by decide +kernel) h ?_ ?_
      · intro h
        exact dc_sub [1, 3, 0] rfl (lab_32 S5 p2 q6 h)
      · intro h
        exact dc_sub [1] rfl (lab_30 S5 h)
noncomputable def mm_told_to_L50 (S : md_S) (y0 : Int32) : Option (Int32) :=
  some y0
noncomputable def mm_told_to_L37 (S : md_S) : Option (Int32) :=
  mm_told_to_L50 S (-1)
noncomputable def mm_told_to (S : md_S) (p1 : Int32) (p2 : Int32) : Option (Int32) :=
  (mm_placeOf S p1).bind fun q1 => if q1 = (-1) then (mm_told_to_L37 S) else ((mm_isInput S p2).bind fun q2 => if q2 = 0 then (mm_told_to_L37 S) else ((dc_ix ((16 * q1) + p2) 4112).bind fun j3 => if (S.2.1 92 j3) = (-1) then (mm_told_to_L37 S) else ((dc_ix ((16 * q1) + p2) 4112).bind fun j4 => mm_told_to_L50 S (S.2.1 92 j4))))
set_option maxHeartbeats 4000000 in
set_option maxRecDepth 100000 in
/-- told(II[I)I -/
theorem mm_told_to_ok (l : Launch) (D : va_G) (ad : Nat → Nat) (de : Nat) (o : Nat) (a : Nat → Nat) (ca : Nat → ClassId) (S : md_S) (p1 : Int32) (p2 : Int32) (F : Int32 → Prop) (h : dc_wp (mm_told_to S p1 p2) F) : dc_Ci l ⟨"SignalEngineModel", "told", "(II[I)I"⟩ prog_15_method_94_code 5 (some (.int)) 2 43 D (md_T ca) ad de [.ref o, .int p1, .int p2, .ref (a 92)] (md_W o a ca S) (fun r w => ∃ q, F q ∧ r = q ∧ w = (md_W o a ca S)) 0 0 := by
  refine dc_enteri (by decide +kernel) (Nat.le_of_ble_eq_true rfl) ?_
  intro X hC hR
  have lab_50 : ∀ (y0 : Int32), dc_wp (mm_told_to_L50 S y0) F → dc_G X l { frames := 2, cells := 0, slots := 0, locals := 43 } D 5 0 0 (md_W o a ca S) 50 [(0, .ref o)] [.int y0] := by
    intro y0 h
    delta mm_told_to_L50 at h
    exact dc_iret (pc := 50) hC hR ⟨_, dc_some h, rfl, rfl⟩ (show decode prog_15_method_94_code 50 = .ok (.ireturn, 1) by decide +kernel)
  have lab_37 : dc_wp (mm_told_to_L37 S) F → dc_G X l { frames := 2, cells := 0, slots := 0, locals := 43 } D 5 0 0 (md_W o a ca S) 37 [(0, .ref o)] [] := by
    intro  h
    delta mm_told_to_L37 at h
    refine dc_iconst (pc := 37) (v := (-1)) hC (show decode prog_15_method_94_code 37 = .ok (.iconst (-1), 1) by decide +kernel) (by decide +kernel) ?_
    refine dc_goto (pc := 38) (tgt := 50) hC (show decode prog_15_method_94_code 38 = .ok (.goto 12, 3) by decide +kernel) (by decide +kernel) ?_
    exact lab_50 (-1) h
  show dc_G X l { frames := 2, cells := 0, slots := 0, locals := 43 } D 5 0 0 (md_W o a ca S) 0 [(0, .ref o), (1, .int p1), (2, .int p2), (3, .ref (a 92))] []
  delta mm_told_to at h
  refine dc_aloadn (pc := 0) (j := 0) (i := 0) hC 0 rfl rfl (show decode prog_15_method_94_code 0 = .ok (.aload_n 0, 1) by decide +kernel) ?_
  refine dc_iloadn (pc := 1) (j := 1) (i := 1) hC 1 rfl rfl (show decode prog_15_method_94_code 1 = .ok (.iload_n 1, 1) by decide +kernel) ?_
  refine mc_Vpi (pc := 2) (As := [.int p1]) (rest := []) hC vw_placeOf_648 (mm_placeOf_ok l D ad de o a ca S p1) (Nat.le_of_ble_eq_true rfl) (Nat.le_of_ble_eq_true rfl) rfl (Nat.le_of_ble_eq_true rfl) (show decode prog_15_method_94_code 2 = .ok (.invokevirtual 648, 3) by decide +kernel) h ?_
  intro q1 h
  refine dc_istore (pc := 5) (i := 4) (lv' := [(4, .int q1), (0, .ref o), (1, .int p1), (2, .int p2), (3, .ref (a 92))]) hC (Nat.le_of_ble_eq_true rfl) rfl (show decode prog_15_method_94_code 5 = .ok (.istore 4, 2) by decide +kernel) ?_
  refine dc_iload (pc := 7) (i := 4) hC 0 rfl (show decode prog_15_method_94_code 7 = .ok (.iload 4, 2) by decide +kernel) ?_
  refine dc_iconst (pc := 9) (v := (-1)) hC (show decode prog_15_method_94_code 9 = .ok (.iconst (-1), 1) by decide +kernel) (by decide +kernel) ?_
  refine dc_icmp_eq (pc := 10) (tgt := 37) hC (show decode prog_15_method_94_code 10 = .ok (.if_icmp .eq 27, 3) by decide +kernel) (by decide +kernel) h ?_ ?_
  · intro h
    exact dc_sub [1] rfl (lab_37 h)
  · intro h
    refine dc_aloadn (pc := 13) (j := 0) (i := 0) hC 1 rfl rfl (show decode prog_15_method_94_code 13 = .ok (.aload_n 0, 1) by decide +kernel) ?_
    refine dc_iloadn (pc := 14) (j := 2) (i := 2) hC 3 rfl rfl (show decode prog_15_method_94_code 14 = .ok (.iload_n 2, 1) by decide +kernel) ?_
    refine mc_Vpi (pc := 15) (As := [.int p2]) (rest := []) hC vw_isInput_625 (mm_isInput_ok l D ad de o a ca S p2) (Nat.le_of_ble_eq_true rfl) (Nat.le_of_ble_eq_true rfl) rfl (Nat.le_of_ble_eq_true rfl) (show decode prog_15_method_94_code 15 = .ok (.invokevirtual 625, 3) by decide +kernel) h ?_
    intro q2 h
    refine dc_if_eq (pc := 18) (tgt := 37) hC (show decode prog_15_method_94_code 18 = .ok (.ifCond .eq 19, 3) by decide +kernel) (by decide +kernel) h ?_ ?_
    · intro h
      exact dc_sub [1] rfl (lab_37 h)
    · intro h
      refine dc_aloadn (pc := 21) (j := 0) (i := 0) hC 1 rfl rfl (show decode prog_15_method_94_code 21 = .ok (.aload_n 0, 1) by decide +kernel) ?_
      refine md_g92 (pc := 22) hC (show decode prog_15_method_94_code 22 = .ok (.getfield 160, 3) by decide +kernel) ?_
      refine dc_bipush (pc := 25) (v := 16) hC (show decode prog_15_method_94_code 25 = .ok (.bipush 16, 2) by decide +kernel) (by decide +kernel) ?_
      refine dc_iload (pc := 27) (i := 4) hC 0 rfl (show decode prog_15_method_94_code 27 = .ok (.iload 4, 2) by decide +kernel) ?_
      refine dc_imul (pc := 29) hC (show decode prog_15_method_94_code 29 = .ok (.imul, 1) by decide +kernel) ?_
      refine dc_iloadn (pc := 30) (j := 2) (i := 2) hC 3 rfl rfl (show decode prog_15_method_94_code 30 = .ok (.iload_n 2, 1) by decide +kernel) ?_
      refine dc_iadd (pc := 31) hC (show decode prog_15_method_94_code 31 = .ok (.iadd, 1) by decide +kernel) ?_
      refine md_l92 (pc := 32) hC (show decode prog_15_method_94_code 32 = .ok (.iaload, 1) by decide +kernel) h ?_
      intro j3 h
      refine dc_iconst (pc := 33) (v := (-1)) hC (show decode prog_15_method_94_code 33 = .ok (.iconst (-1), 1) by decide +kernel) (by decide +kernel) ?_
      refine dc_icmp_ne (pc := 34) (tgt := 41) hC (show decode prog_15_method_94_code 34 = .ok (.if_icmp .ne 7, 3) by decide +kernel) (by decide +kernel) h ?_ ?_
      · intro h
        exact dc_sub [1] rfl (lab_37 h)
      · intro h
        refine dc_aloadn (pc := 41) (j := 3) (i := 3) hC 4 rfl rfl (show decode prog_15_method_94_code 41 = .ok (.aload_n 3, 1) by decide +kernel) ?_
        refine dc_bipush (pc := 42) (v := 16) hC (show decode prog_15_method_94_code 42 = .ok (.bipush 16, 2) by decide +kernel) (by decide +kernel) ?_
        refine dc_iload (pc := 44) (i := 4) hC 0 rfl (show decode prog_15_method_94_code 44 = .ok (.iload 4, 2) by decide +kernel) ?_
        refine dc_imul (pc := 46) hC (show decode prog_15_method_94_code 46 = .ok (.imul, 1) by decide +kernel) ?_
        refine dc_iloadn (pc := 47) (j := 2) (i := 2) hC 3 rfl rfl (show decode prog_15_method_94_code 47 = .ok (.iload_n 2, 1) by decide +kernel) ?_
        refine dc_iadd (pc := 48) hC (show decode prog_15_method_94_code 48 = .ok (.iadd, 1) by decide +kernel) ?_
        refine md_l92 (pc := 49) hC (show decode prog_15_method_94_code 49 = .ok (.iaload, 1) by decide +kernel) h ?_
        intro j4 h
        exact dc_sub [1] rfl (lab_50 (S.2.1 92 j4) h)
noncomputable def mm_told_shows_L50 (S : md_S) (y0 : Int32) : Option (Int32) :=
  some y0
noncomputable def mm_told_shows_L37 (S : md_S) : Option (Int32) :=
  mm_told_shows_L50 S (-1)
noncomputable def mm_told_shows (S : md_S) (p1 : Int32) (p2 : Int32) : Option (Int32) :=
  (mm_placeOf S p1).bind fun q1 => if q1 = (-1) then (mm_told_shows_L37 S) else ((mm_isInput S p2).bind fun q2 => if q2 = 0 then (mm_told_shows_L37 S) else ((dc_ix ((16 * q1) + p2) 4112).bind fun j3 => if (S.2.1 92 j3) = (-1) then (mm_told_shows_L37 S) else ((dc_ix ((16 * q1) + p2) 4112).bind fun j4 => mm_told_shows_L50 S (S.2.1 93 j4))))
set_option maxHeartbeats 4000000 in
set_option maxRecDepth 100000 in
/-- told(II[I)I -/
theorem mm_told_shows_ok (l : Launch) (D : va_G) (ad : Nat → Nat) (de : Nat) (o : Nat) (a : Nat → Nat) (ca : Nat → ClassId) (S : md_S) (p1 : Int32) (p2 : Int32) (F : Int32 → Prop) (h : dc_wp (mm_told_shows S p1 p2) F) : dc_Ci l ⟨"SignalEngineModel", "told", "(II[I)I"⟩ prog_15_method_94_code 5 (some (.int)) 2 43 D (md_T ca) ad de [.ref o, .int p1, .int p2, .ref (a 93)] (md_W o a ca S) (fun r w => ∃ q, F q ∧ r = q ∧ w = (md_W o a ca S)) 0 0 := by
  refine dc_enteri (by decide +kernel) (Nat.le_of_ble_eq_true rfl) ?_
  intro X hC hR
  have lab_50 : ∀ (y0 : Int32), dc_wp (mm_told_shows_L50 S y0) F → dc_G X l { frames := 2, cells := 0, slots := 0, locals := 43 } D 5 0 0 (md_W o a ca S) 50 [(0, .ref o)] [.int y0] := by
    intro y0 h
    delta mm_told_shows_L50 at h
    exact dc_iret (pc := 50) hC hR ⟨_, dc_some h, rfl, rfl⟩ (show decode prog_15_method_94_code 50 = .ok (.ireturn, 1) by decide +kernel)
  have lab_37 : dc_wp (mm_told_shows_L37 S) F → dc_G X l { frames := 2, cells := 0, slots := 0, locals := 43 } D 5 0 0 (md_W o a ca S) 37 [(0, .ref o)] [] := by
    intro  h
    delta mm_told_shows_L37 at h
    refine dc_iconst (pc := 37) (v := (-1)) hC (show decode prog_15_method_94_code 37 = .ok (.iconst (-1), 1) by decide +kernel) (by decide +kernel) ?_
    refine dc_goto (pc := 38) (tgt := 50) hC (show decode prog_15_method_94_code 38 = .ok (.goto 12, 3) by decide +kernel) (by decide +kernel) ?_
    exact lab_50 (-1) h
  show dc_G X l { frames := 2, cells := 0, slots := 0, locals := 43 } D 5 0 0 (md_W o a ca S) 0 [(0, .ref o), (1, .int p1), (2, .int p2), (3, .ref (a 93))] []
  delta mm_told_shows at h
  refine dc_aloadn (pc := 0) (j := 0) (i := 0) hC 0 rfl rfl (show decode prog_15_method_94_code 0 = .ok (.aload_n 0, 1) by decide +kernel) ?_
  refine dc_iloadn (pc := 1) (j := 1) (i := 1) hC 1 rfl rfl (show decode prog_15_method_94_code 1 = .ok (.iload_n 1, 1) by decide +kernel) ?_
  refine mc_Vpi (pc := 2) (As := [.int p1]) (rest := []) hC vw_placeOf_648 (mm_placeOf_ok l D ad de o a ca S p1) (Nat.le_of_ble_eq_true rfl) (Nat.le_of_ble_eq_true rfl) rfl (Nat.le_of_ble_eq_true rfl) (show decode prog_15_method_94_code 2 = .ok (.invokevirtual 648, 3) by decide +kernel) h ?_
  intro q1 h
  refine dc_istore (pc := 5) (i := 4) (lv' := [(4, .int q1), (0, .ref o), (1, .int p1), (2, .int p2), (3, .ref (a 93))]) hC (Nat.le_of_ble_eq_true rfl) rfl (show decode prog_15_method_94_code 5 = .ok (.istore 4, 2) by decide +kernel) ?_
  refine dc_iload (pc := 7) (i := 4) hC 0 rfl (show decode prog_15_method_94_code 7 = .ok (.iload 4, 2) by decide +kernel) ?_
  refine dc_iconst (pc := 9) (v := (-1)) hC (show decode prog_15_method_94_code 9 = .ok (.iconst (-1), 1) by decide +kernel) (by decide +kernel) ?_
  refine dc_icmp_eq (pc := 10) (tgt := 37) hC (show decode prog_15_method_94_code 10 = .ok (.if_icmp .eq 27, 3) by decide +kernel) (by decide +kernel) h ?_ ?_
  · intro h
    exact dc_sub [1] rfl (lab_37 h)
  · intro h
    refine dc_aloadn (pc := 13) (j := 0) (i := 0) hC 1 rfl rfl (show decode prog_15_method_94_code 13 = .ok (.aload_n 0, 1) by decide +kernel) ?_
    refine dc_iloadn (pc := 14) (j := 2) (i := 2) hC 3 rfl rfl (show decode prog_15_method_94_code 14 = .ok (.iload_n 2, 1) by decide +kernel) ?_
    refine mc_Vpi (pc := 15) (As := [.int p2]) (rest := []) hC vw_isInput_625 (mm_isInput_ok l D ad de o a ca S p2) (Nat.le_of_ble_eq_true rfl) (Nat.le_of_ble_eq_true rfl) rfl (Nat.le_of_ble_eq_true rfl) (show decode prog_15_method_94_code 15 = .ok (.invokevirtual 625, 3) by decide +kernel) h ?_
    intro q2 h
    refine dc_if_eq (pc := 18) (tgt := 37) hC (show decode prog_15_method_94_code 18 = .ok (.ifCond .eq 19, 3) by decide +kernel) (by decide +kernel) h ?_ ?_
    · intro h
      exact dc_sub [1] rfl (lab_37 h)
    · intro h
      refine dc_aloadn (pc := 21) (j := 0) (i := 0) hC 1 rfl rfl (show decode prog_15_method_94_code 21 = .ok (.aload_n 0, 1) by decide +kernel) ?_
      refine md_g92 (pc := 22) hC (show decode prog_15_method_94_code 22 = .ok (.getfield 160, 3) by decide +kernel) ?_
      refine dc_bipush (pc := 25) (v := 16) hC (show decode prog_15_method_94_code 25 = .ok (.bipush 16, 2) by decide +kernel) (by decide +kernel) ?_
      refine dc_iload (pc := 27) (i := 4) hC 0 rfl (show decode prog_15_method_94_code 27 = .ok (.iload 4, 2) by decide +kernel) ?_
      refine dc_imul (pc := 29) hC (show decode prog_15_method_94_code 29 = .ok (.imul, 1) by decide +kernel) ?_
      refine dc_iloadn (pc := 30) (j := 2) (i := 2) hC 3 rfl rfl (show decode prog_15_method_94_code 30 = .ok (.iload_n 2, 1) by decide +kernel) ?_
      refine dc_iadd (pc := 31) hC (show decode prog_15_method_94_code 31 = .ok (.iadd, 1) by decide +kernel) ?_
      refine md_l92 (pc := 32) hC (show decode prog_15_method_94_code 32 = .ok (.iaload, 1) by decide +kernel) h ?_
      intro j3 h
      refine dc_iconst (pc := 33) (v := (-1)) hC (show decode prog_15_method_94_code 33 = .ok (.iconst (-1), 1) by decide +kernel) (by decide +kernel) ?_
      refine dc_icmp_ne (pc := 34) (tgt := 41) hC (show decode prog_15_method_94_code 34 = .ok (.if_icmp .ne 7, 3) by decide +kernel) (by decide +kernel) h ?_ ?_
      · intro h
        exact dc_sub [1] rfl (lab_37 h)
      · intro h
        refine dc_aloadn (pc := 41) (j := 3) (i := 3) hC 4 rfl rfl (show decode prog_15_method_94_code 41 = .ok (.aload_n 3, 1) by decide +kernel) ?_
        refine dc_bipush (pc := 42) (v := 16) hC (show decode prog_15_method_94_code 42 = .ok (.bipush 16, 2) by decide +kernel) (by decide +kernel) ?_
        refine dc_iload (pc := 44) (i := 4) hC 0 rfl (show decode prog_15_method_94_code 44 = .ok (.iload 4, 2) by decide +kernel) ?_
        refine dc_imul (pc := 46) hC (show decode prog_15_method_94_code 46 = .ok (.imul, 1) by decide +kernel) ?_
        refine dc_iloadn (pc := 47) (j := 2) (i := 2) hC 3 rfl rfl (show decode prog_15_method_94_code 47 = .ok (.iload_n 2, 1) by decide +kernel) ?_
        refine dc_iadd (pc := 48) hC (show decode prog_15_method_94_code 48 = .ok (.iadd, 1) by decide +kernel) ?_
        refine md_l93 (pc := 49) hC (show decode prog_15_method_94_code 49 = .ok (.iaload, 1) by decide +kernel) h ?_
        intro j4 h
        exact dc_sub [1] rfl (lab_50 (S.2.1 93 j4) h)
noncomputable def mm_next_L34 (S : md_S) (y0 : Int32) : Option (md_S × Int32) :=
  some (S, y0)
noncomputable def mm_next_L13 (S : md_S) (x1 : Int32) (x2 : Int32) (y0 : Int32) : Option (md_S × Int32) :=
  (mm_fails S y0 0).bind fun q1 => if q1.2 = 0 then ((mm_told_to q1.1 x1 x2).bind fun q2 => mm_next_L34 q1.1 q2) else (mm_next_L34 q1.1 0)
noncomputable def mm_next (S : md_S) (p1 : Int32) (p2 : Int32) : Option (md_S × Int32) :=
  if (S.1 85) = 0 then (mm_next_L13 S p1 p2 1) else (mm_next_L13 S p1 p2 0)
set_option maxHeartbeats 4000000 in
set_option maxRecDepth 100000 in
/-- next(II)I -/
theorem mm_next_ok (l : Launch) (D : va_G) (ad : Nat → Nat) (de : Nat) (o : Nat) (a : Nat → Nat) (ca : Nat → ClassId) (S : md_S) (p1 : Int32) (p2 : Int32) (F : (md_S × Int32) → Prop) (h : dc_wp (mm_next S p1 p2) F) : dc_Ci l ⟨"SignalEngineModel", "next", "(II)I"⟩ prog_15_method_95_code 3 (some (.int)) 3 67 D (md_T ca) ad de [.ref o, .int p1, .int p2] (md_W o a ca S) (fun r w => ∃ q, F q ∧ r = q.2 ∧ w = md_W o a ca q.1) 0 0 := by
  refine dc_enteri (by decide +kernel) (Nat.le_of_ble_eq_true rfl) ?_
  intro X hC hR
  have lab_34 : ∀ (S : md_S) (y0 : Int32), dc_wp (mm_next_L34 S y0) F → dc_G X l { frames := 3, cells := 0, slots := 0, locals := 67 } D 3 0 0 (md_W o a ca S) 34 [(0, .ref o)] [.int y0] := by
    intro S y0 h
    delta mm_next_L34 at h
    exact dc_iret (pc := 34) hC hR ⟨_, dc_some h, rfl, rfl⟩ (show decode prog_15_method_95_code 34 = .ok (.ireturn, 1) by decide +kernel)
  have lab_13 : ∀ (S : md_S) (x1 : Int32) (x2 : Int32) (y0 : Int32), dc_wp (mm_next_L13 S x1 x2 y0) F → dc_G X l { frames := 3, cells := 0, slots := 0, locals := 67 } D 3 0 0 (md_W o a ca S) 13 [(0, .ref o), (1, .int x1), (2, .int x2)] [.int y0, .ref o] := by
    intro S x1 x2 y0 h
    delta mm_next_L13 at h
    refine dc_iconst (pc := 13) (v := 0) hC (show decode prog_15_method_95_code 13 = .ok (.iconst 0, 1) by decide +kernel) (by decide +kernel) ?_
    refine mc_Vmi (pc := 14) (As := [.int y0, .int 0]) (rest := []) hC vw_fails_615 (mm_fails_ok l D ad de o a ca S y0 0) (Nat.le_of_ble_eq_true rfl) (Nat.le_of_ble_eq_true rfl) rfl (Nat.le_of_ble_eq_true rfl) (show decode prog_15_method_95_code 14 = .ok (.invokevirtual 615, 3) by decide +kernel) h ?_
    intro q1 h
    refine dc_if_eq (pc := 17) (tgt := 24) hC (show decode prog_15_method_95_code 17 = .ok (.ifCond .eq 7, 3) by decide +kernel) (by decide +kernel) h ?_ ?_
    · intro h
      refine dc_aloadn (pc := 24) (j := 0) (i := 0) hC 0 rfl rfl (show decode prog_15_method_95_code 24 = .ok (.aload_n 0, 1) by decide +kernel) ?_
      refine dc_iloadn (pc := 25) (j := 1) (i := 1) hC 1 rfl rfl (show decode prog_15_method_95_code 25 = .ok (.iload_n 1, 1) by decide +kernel) ?_
      refine dc_iloadn (pc := 26) (j := 2) (i := 2) hC 2 rfl rfl (show decode prog_15_method_95_code 26 = .ok (.iload_n 2, 1) by decide +kernel) ?_
      refine dc_aloadn (pc := 27) (j := 0) (i := 0) hC 0 rfl rfl (show decode prog_15_method_95_code 27 = .ok (.aload_n 0, 1) by decide +kernel) ?_
      refine md_g92 (pc := 28) hC (show decode prog_15_method_95_code 28 = .ok (.getfield 160, 3) by decide +kernel) ?_
      refine mc_Vpi (pc := 31) (As := [.int x1, .int x2, .ref (a 92)]) (rest := []) hC vw_told_651 (mm_told_to_ok l D ad de o a ca q1.1 x1 x2) (Nat.le_of_ble_eq_true rfl) (Nat.le_of_ble_eq_true rfl) rfl (Nat.le_of_ble_eq_true rfl) (show decode prog_15_method_95_code 31 = .ok (.invokevirtual 651, 3) by decide +kernel) h ?_
      intro q2 h
      exact dc_sub [0] rfl (lab_34 q1.1 q2 h)
    · intro h
      refine dc_iconst (pc := 20) (v := 0) hC (show decode prog_15_method_95_code 20 = .ok (.iconst 0, 1) by decide +kernel) (by decide +kernel) ?_
      refine dc_goto (pc := 21) (tgt := 34) hC (show decode prog_15_method_95_code 21 = .ok (.goto 13, 3) by decide +kernel) (by decide +kernel) ?_
      exact dc_sub [0] rfl (lab_34 q1.1 0 h)
  show dc_G X l { frames := 3, cells := 0, slots := 0, locals := 67 } D 3 0 0 (md_W o a ca S) 0 [(0, .ref o), (1, .int p1), (2, .int p2)] []
  delta mm_next at h
  refine dc_aloadn (pc := 0) (j := 0) (i := 0) hC 0 rfl rfl (show decode prog_15_method_95_code 0 = .ok (.aload_n 0, 1) by decide +kernel) ?_
  refine dc_aloadn (pc := 1) (j := 0) (i := 0) hC 0 rfl rfl (show decode prog_15_method_95_code 1 = .ok (.aload_n 0, 1) by decide +kernel) ?_
  refine md_g85 (pc := 2) hC (show decode prog_15_method_95_code 2 = .ok (.getfield 518, 3) by decide +kernel) ?_
  refine dc_if_ne (pc := 5) (tgt := 12) hC (show decode prog_15_method_95_code 5 = .ok (.ifCond .ne 7, 3) by decide +kernel) (by decide +kernel) h ?_ ?_
  · intro h
    refine dc_iconst (pc := 8) (v := 1) hC (show decode prog_15_method_95_code 8 = .ok (.iconst 1, 1) by decide +kernel) (by decide +kernel) ?_
    refine dc_goto (pc := 9) (tgt := 13) hC (show decode prog_15_method_95_code 9 = .ok (.goto 4, 3) by decide +kernel) (by decide +kernel) ?_
    exact lab_13 S p1 p2 1 h
  · intro h
    refine dc_iconst (pc := 12) (v := 0) hC (show decode prog_15_method_95_code 12 = .ok (.iconst 0, 1) by decide +kernel) (by decide +kernel) ?_
    exact lab_13 S p1 p2 0 h
noncomputable def mm_shows_L34 (S : md_S) (y0 : Int32) : Option (md_S × Int32) :=
  some (S, y0)
noncomputable def mm_shows_L13 (S : md_S) (x1 : Int32) (x2 : Int32) (y0 : Int32) : Option (md_S × Int32) :=
  (mm_fails S y0 0).bind fun q1 => if q1.2 = 0 then ((mm_told_shows q1.1 x1 x2).bind fun q2 => mm_shows_L34 q1.1 q2) else (mm_shows_L34 q1.1 0)
noncomputable def mm_shows (S : md_S) (p1 : Int32) (p2 : Int32) : Option (md_S × Int32) :=
  if (S.1 85) = 0 then (mm_shows_L13 S p1 p2 1) else (mm_shows_L13 S p1 p2 0)
set_option maxHeartbeats 4000000 in
set_option maxRecDepth 100000 in
/-- shows(II)I -/
theorem mm_shows_ok (l : Launch) (D : va_G) (ad : Nat → Nat) (de : Nat) (o : Nat) (a : Nat → Nat) (ca : Nat → ClassId) (S : md_S) (p1 : Int32) (p2 : Int32) (F : (md_S × Int32) → Prop) (h : dc_wp (mm_shows S p1 p2) F) : dc_Ci l ⟨"SignalEngineModel", "shows", "(II)I"⟩ prog_15_method_96_code 3 (some (.int)) 3 67 D (md_T ca) ad de [.ref o, .int p1, .int p2] (md_W o a ca S) (fun r w => ∃ q, F q ∧ r = q.2 ∧ w = md_W o a ca q.1) 0 0 := by
  refine dc_enteri (by decide +kernel) (Nat.le_of_ble_eq_true rfl) ?_
  intro X hC hR
  have lab_34 : ∀ (S : md_S) (y0 : Int32), dc_wp (mm_shows_L34 S y0) F → dc_G X l { frames := 3, cells := 0, slots := 0, locals := 67 } D 3 0 0 (md_W o a ca S) 34 [(0, .ref o)] [.int y0] := by
    intro S y0 h
    delta mm_shows_L34 at h
    exact dc_iret (pc := 34) hC hR ⟨_, dc_some h, rfl, rfl⟩ (show decode prog_15_method_96_code 34 = .ok (.ireturn, 1) by decide +kernel)
  have lab_13 : ∀ (S : md_S) (x1 : Int32) (x2 : Int32) (y0 : Int32), dc_wp (mm_shows_L13 S x1 x2 y0) F → dc_G X l { frames := 3, cells := 0, slots := 0, locals := 67 } D 3 0 0 (md_W o a ca S) 13 [(0, .ref o), (1, .int x1), (2, .int x2)] [.int y0, .ref o] := by
    intro S x1 x2 y0 h
    delta mm_shows_L13 at h
    refine dc_iconst (pc := 13) (v := 0) hC (show decode prog_15_method_96_code 13 = .ok (.iconst 0, 1) by decide +kernel) (by decide +kernel) ?_
    refine mc_Vmi (pc := 14) (As := [.int y0, .int 0]) (rest := []) hC vw_fails_615 (mm_fails_ok l D ad de o a ca S y0 0) (Nat.le_of_ble_eq_true rfl) (Nat.le_of_ble_eq_true rfl) rfl (Nat.le_of_ble_eq_true rfl) (show decode prog_15_method_96_code 14 = .ok (.invokevirtual 615, 3) by decide +kernel) h ?_
    intro q1 h
    refine dc_if_eq (pc := 17) (tgt := 24) hC (show decode prog_15_method_96_code 17 = .ok (.ifCond .eq 7, 3) by decide +kernel) (by decide +kernel) h ?_ ?_
    · intro h
      refine dc_aloadn (pc := 24) (j := 0) (i := 0) hC 0 rfl rfl (show decode prog_15_method_96_code 24 = .ok (.aload_n 0, 1) by decide +kernel) ?_
      refine dc_iloadn (pc := 25) (j := 1) (i := 1) hC 1 rfl rfl (show decode prog_15_method_96_code 25 = .ok (.iload_n 1, 1) by decide +kernel) ?_
      refine dc_iloadn (pc := 26) (j := 2) (i := 2) hC 2 rfl rfl (show decode prog_15_method_96_code 26 = .ok (.iload_n 2, 1) by decide +kernel) ?_
      refine dc_aloadn (pc := 27) (j := 0) (i := 0) hC 0 rfl rfl (show decode prog_15_method_96_code 27 = .ok (.aload_n 0, 1) by decide +kernel) ?_
      refine md_g93 (pc := 28) hC (show decode prog_15_method_96_code 28 = .ok (.getfield 163, 3) by decide +kernel) ?_
      refine mc_Vpi (pc := 31) (As := [.int x1, .int x2, .ref (a 93)]) (rest := []) hC vw_told_651 (mm_told_shows_ok l D ad de o a ca q1.1 x1 x2) (Nat.le_of_ble_eq_true rfl) (Nat.le_of_ble_eq_true rfl) rfl (Nat.le_of_ble_eq_true rfl) (show decode prog_15_method_96_code 31 = .ok (.invokevirtual 651, 3) by decide +kernel) h ?_
      intro q2 h
      exact dc_sub [0] rfl (lab_34 q1.1 q2 h)
    · intro h
      refine dc_iconst (pc := 20) (v := 0) hC (show decode prog_15_method_96_code 20 = .ok (.iconst 0, 1) by decide +kernel) (by decide +kernel) ?_
      refine dc_goto (pc := 21) (tgt := 34) hC (show decode prog_15_method_96_code 21 = .ok (.goto 13, 3) by decide +kernel) (by decide +kernel) ?_
      exact dc_sub [0] rfl (lab_34 q1.1 0 h)
  show dc_G X l { frames := 3, cells := 0, slots := 0, locals := 67 } D 3 0 0 (md_W o a ca S) 0 [(0, .ref o), (1, .int p1), (2, .int p2)] []
  delta mm_shows at h
  refine dc_aloadn (pc := 0) (j := 0) (i := 0) hC 0 rfl rfl (show decode prog_15_method_96_code 0 = .ok (.aload_n 0, 1) by decide +kernel) ?_
  refine dc_aloadn (pc := 1) (j := 0) (i := 0) hC 0 rfl rfl (show decode prog_15_method_96_code 1 = .ok (.aload_n 0, 1) by decide +kernel) ?_
  refine md_g85 (pc := 2) hC (show decode prog_15_method_96_code 2 = .ok (.getfield 518, 3) by decide +kernel) ?_
  refine dc_if_ne (pc := 5) (tgt := 12) hC (show decode prog_15_method_96_code 5 = .ok (.ifCond .ne 7, 3) by decide +kernel) (by decide +kernel) h ?_ ?_
  · intro h
    refine dc_iconst (pc := 8) (v := 1) hC (show decode prog_15_method_96_code 8 = .ok (.iconst 1, 1) by decide +kernel) (by decide +kernel) ?_
    refine dc_goto (pc := 9) (tgt := 13) hC (show decode prog_15_method_96_code 9 = .ok (.goto 4, 3) by decide +kernel) (by decide +kernel) ?_
    exact lab_13 S p1 p2 1 h
  · intro h
    refine dc_iconst (pc := 12) (v := 0) hC (show decode prog_15_method_96_code 12 = .ok (.iconst 0, 1) by decide +kernel) (by decide +kernel) ?_
    exact lab_13 S p1 p2 0 h
noncomputable def mm_doubt_L194 (S : md_S) (y0 : Int32) : Option (md_S × Int32) :=
  some (S, y0)
noncomputable def mm_doubt_L148 (S : md_S) (x1 : Int32) (x2 : Int32) (x3 : Int32) : Option (md_S × Int32) :=
  if x2 = (-1) then (mm_doubt_L194 S (-1)) else (if x1 = 0 then ((dc_ix x2 257).bind fun j1 => mm_doubt_L194 S (S.2.1 89 j1)) else (if x1 = 1 then ((dc_ix x2 257).bind fun j2 => mm_doubt_L194 S (S.2.1 88 j2)) else (if x1 = 2 then (mm_doubt_L194 S x3) else (mm_doubt_L194 S (-1)))))
noncomputable def mm_doubt_L142 (S : md_S) (x1 : Int32) (x2 : Int32) (x3 : Int32) (x4 : Int32) : Option ((Int32 × Int32 × Int32) ⊕ ((Int32 × Int32))) :=
  some (.inl (x2, x3, (x4 + 1)))
noncomputable def mm_doubt_L136 (S : md_S) (x1 : Int32) (x2 : Int32) (x3 : Int32) (x4 : Int32) (x5 : Int32) : Option ((Int32 × Int32 × Int32) ⊕ ((Int32 × Int32))) :=
  some (.inl (x2, x3, (x5 + (-1))))
noncomputable def mm_doubt_L115 (S : md_S) (x1 : Int32) (x2 : Int32) (x3 : Int32) (x4 : Int32) (x5 : Int32) (x6 : Int32) (y0 : Int32) : Option ((Int32 × Int32 × Int32) ⊕ ((Int32 × Int32))) :=
  if x6 = 0 then (mm_doubt_L136 S x1 x2 x3 x4 x5) else (if y0 = 0 then (mm_doubt_L136 S x1 x2 x3 x4 x5) else (mm_doubt_L136 S x1 x4 x5 x4 x5))
noncomputable def mm_doubt_L114 (S : md_S) (x1 : Int32) (x2 : Int32) (x3 : Int32) (x4 : Int32) (x5 : Int32) (x6 : Int32) : Option ((Int32 × Int32 × Int32) ⊕ ((Int32 × Int32))) :=
  mm_doubt_L115 S x1 x2 x3 x4 x5 x6 0
noncomputable def mm_doubt_L110 (S : md_S) (x1 : Int32) (x2 : Int32) (x3 : Int32) (x4 : Int32) (x5 : Int32) (x6 : Int32) : Option ((Int32 × Int32 × Int32) ⊕ ((Int32 × Int32))) :=
  mm_doubt_L115 S x1 x2 x3 x4 x5 x6 1
noncomputable def mm_doubt_L65 (S : md_S) (x1 : Int32) (x2 : Int32) (x3 : Int32) (x4 : Int32) (x5 : Int32) (y0 : Int32) : Option ((Int32 × Int32 × Int32) ⊕ ((Int32 × Int32))) :=
  if x2 = (-1) then (mm_doubt_L110 S x1 x2 x3 x4 x5 y0) else (if x2 = x4 then (mm_doubt_L110 S x1 x2 x3 x4 x5 y0) else ((dc_ix x4 257).bind fun j3 => (dc_ix x2 257).bind fun j4 => if (S.2.1 89 j3) = (S.2.1 89 j4) then ((dc_ix x4 257).bind fun j5 => (dc_ix x2 257).bind fun j6 => if (S.2.1 88 j5) < (S.2.1 88 j6) then (mm_doubt_L110 S x1 x2 x3 x4 x5 y0) else (mm_doubt_L114 S x1 x2 x3 x4 x5 y0)) else (mm_doubt_L114 S x1 x2 x3 x4 x5 y0)))
noncomputable def mm_doubt_b38 (S : md_S) (x1 : Int32) (x2 : Int32) (x3 : Int32) (x4 : Int32) (x5 : Int32) : Option ((Int32 × Int32 × Int32) ⊕ ((Int32 × Int32))) :=
  if x5 < 0 then (some (.inr (x2, x3))) else ((dc_ix ((16 * x4) + x5) 4112).bind fun j7 => if (S.2.1 92 j7) = (-1) then (mm_doubt_L65 S x1 x2 x3 x4 x5 1) else (mm_doubt_L65 S x1 x2 x3 x4 x5 0))
noncomputable def mm_doubt_s38 (S : md_S) (x1 : Int32) (x4 : Int32) (q : Int32 × Int32 × Int32) : Option ((Int32 × Int32 × Int32) ⊕ ((Int32 × Int32))) :=
  mm_doubt_b38 S x1 q.1 q.2.1 x4 q.2.2
noncomputable def mm_doubt_L38 (S : md_S) (x1 : Int32) (x2 : Int32) (x3 : Int32) (x4 : Int32) (x5 : Int32) : Option ((Int32 × Int32 × Int32) ⊕ ((Int32 × Int32))) :=
  (dc_it (mm_doubt_s38 S x1 x4) (x2, x3, x5)).bind (fun (z : Int32 × Int32) => mm_doubt_L142 S x1 z.1 z.2 x4)
noncomputable def mm_doubt_b12 (S : md_S) (x1 : Int32) (x2 : Int32) (x3 : Int32) (x4 : Int32) : Option ((Int32 × Int32 × Int32) ⊕ ((Int32 × Int32))) :=
  if x4 < (S.1 87) then (if (S.1 85) = 0 then (some (.inr (x2, x3))) else (dc_let ((((1 : Int32) <<< ((S.1 45) &&& (31 : Int32))) - 1) : Int32) fun v8 => mm_doubt_L38 S x1 x2 x3 x4 v8)) else (some (.inr (x2, x3)))
noncomputable def mm_doubt_s12 (S : md_S) (x1 : Int32) (q : Int32 × Int32 × Int32) : Option ((Int32 × Int32 × Int32) ⊕ ((Int32 × Int32))) :=
  mm_doubt_b12 S x1 q.1 q.2.1 q.2.2
noncomputable def mm_doubt_L12 (S : md_S) (x1 : Int32) (x2 : Int32) (x3 : Int32) (x4 : Int32) : Option (md_S × Int32) :=
  (dc_it (mm_doubt_s12 S x1) (x2, x3, x4)).bind (fun (z : Int32 × Int32) => mm_doubt_L148 S x1 z.1 z.2)
noncomputable def mm_doubt (S : md_S) (p1 : Int32) : Option (md_S × Int32) :=
  dc_let (md_i S 0 0) fun S9 => mm_doubt_L12 S9 p1 (-1) 0 0
set_option maxHeartbeats 4000000 in
set_option maxRecDepth 100000 in
/-- doubt(I)I -/
theorem mm_doubt_ok (l : Launch) (D : va_G) (ad : Nat → Nat) (de : Nat) (o : Nat) (a : Nat → Nat) (ca : Nat → ClassId) (S : md_S) (p1 : Int32) (F : (md_S × Int32) → Prop) (h : dc_wp (mm_doubt S p1) F) : dc_Ci l ⟨"SignalEngineModel", "doubt", "(I)I"⟩ prog_15_method_97_code 8 (some (.int)) 0 0 D (md_T ca) ad de [.ref o, .int p1] (md_W o a ca S) (fun r w => ∃ q, F q ∧ r = q.2 ∧ w = md_W o a ca q.1) 0 0 := by
  refine dc_enteri (by decide +kernel) (Nat.le_of_ble_eq_true rfl) ?_
  intro X hC hR
  have lab_194 : ∀ (S : md_S) (y0 : Int32), dc_wp (mm_doubt_L194 S y0) F → dc_G X l { frames := 0, cells := 0, slots := 0, locals := 0 } D 8 0 0 (md_W o a ca S) 194 [(0, .ref o)] [.int y0] := by
    intro S y0 h
    delta mm_doubt_L194 at h
    exact dc_iret (pc := 194) hC hR ⟨_, dc_some h, rfl, rfl⟩ (show decode prog_15_method_97_code 194 = .ok (.ireturn, 1) by decide +kernel)
  have lab_148 : ∀ (S : md_S) (x1 : Int32) (x2 : Int32) (x3 : Int32), dc_wp (mm_doubt_L148 S x1 x2 x3) F → dc_G X l { frames := 0, cells := 0, slots := 0, locals := 0 } D 8 0 0 (md_W o a ca S) 148 [(0, .ref o), (1, .int x1), (2, .int x2), (3, .int x3)] [] := by
    intro S x1 x2 x3 h
    delta mm_doubt_L148 at h
    refine dc_iloadn (pc := 148) (j := 2) (i := 2) hC 2 rfl rfl (show decode prog_15_method_97_code 148 = .ok (.iload_n 2, 1) by decide +kernel) ?_
    refine dc_iconst (pc := 149) (v := (-1)) hC (show decode prog_15_method_97_code 149 = .ok (.iconst (-1), 1) by decide +kernel) (by decide +kernel) ?_
    refine dc_icmp_ne (pc := 150) (tgt := 157) hC (show decode prog_15_method_97_code 150 = .ok (.if_icmp .ne 7, 3) by decide +kernel) (by decide +kernel) h ?_ ?_
    · intro h
      refine dc_iconst (pc := 153) (v := (-1)) hC (show decode prog_15_method_97_code 153 = .ok (.iconst (-1), 1) by decide +kernel) (by decide +kernel) ?_
      refine dc_goto (pc := 154) (tgt := 194) hC (show decode prog_15_method_97_code 154 = .ok (.goto 40, 3) by decide +kernel) (by decide +kernel) ?_
      exact dc_sub [0] rfl (lab_194 S (-1) h)
    · intro h
      refine dc_iloadn (pc := 157) (j := 1) (i := 1) hC 1 rfl rfl (show decode prog_15_method_97_code 157 = .ok (.iload_n 1, 1) by decide +kernel) ?_
      refine dc_if_ne (pc := 158) (tgt := 170) hC (show decode prog_15_method_97_code 158 = .ok (.ifCond .ne 12, 3) by decide +kernel) (by decide +kernel) h ?_ ?_
      · intro h
        refine dc_aloadn (pc := 161) (j := 0) (i := 0) hC 0 rfl rfl (show decode prog_15_method_97_code 161 = .ok (.aload_n 0, 1) by decide +kernel) ?_
        refine md_g89 (pc := 162) hC (show decode prog_15_method_97_code 162 = .ok (.getfield 151, 3) by decide +kernel) ?_
        refine dc_iloadn (pc := 165) (j := 2) (i := 2) hC 2 rfl rfl (show decode prog_15_method_97_code 165 = .ok (.iload_n 2, 1) by decide +kernel) ?_
        refine md_l89 (pc := 166) hC (show decode prog_15_method_97_code 166 = .ok (.iaload, 1) by decide +kernel) h ?_
        intro j1 h
        refine dc_goto (pc := 167) (tgt := 194) hC (show decode prog_15_method_97_code 167 = .ok (.goto 27, 3) by decide +kernel) (by decide +kernel) ?_
        exact dc_sub [0] rfl (lab_194 S (S.2.1 89 j1) h)
      · intro h
        refine dc_iloadn (pc := 170) (j := 1) (i := 1) hC 1 rfl rfl (show decode prog_15_method_97_code 170 = .ok (.iload_n 1, 1) by decide +kernel) ?_
        refine dc_iconst (pc := 171) (v := 1) hC (show decode prog_15_method_97_code 171 = .ok (.iconst 1, 1) by decide +kernel) (by decide +kernel) ?_
        refine dc_icmp_ne (pc := 172) (tgt := 184) hC (show decode prog_15_method_97_code 172 = .ok (.if_icmp .ne 12, 3) by decide +kernel) (by decide +kernel) h ?_ ?_
        · intro h
          refine dc_aloadn (pc := 175) (j := 0) (i := 0) hC 0 rfl rfl (show decode prog_15_method_97_code 175 = .ok (.aload_n 0, 1) by decide +kernel) ?_
          refine md_g88 (pc := 176) hC (show decode prog_15_method_97_code 176 = .ok (.getfield 148, 3) by decide +kernel) ?_
          refine dc_iloadn (pc := 179) (j := 2) (i := 2) hC 2 rfl rfl (show decode prog_15_method_97_code 179 = .ok (.iload_n 2, 1) by decide +kernel) ?_
          refine md_l88 (pc := 180) hC (show decode prog_15_method_97_code 180 = .ok (.iaload, 1) by decide +kernel) h ?_
          intro j2 h
          refine dc_goto (pc := 181) (tgt := 194) hC (show decode prog_15_method_97_code 181 = .ok (.goto 13, 3) by decide +kernel) (by decide +kernel) ?_
          exact dc_sub [0] rfl (lab_194 S (S.2.1 88 j2) h)
        · intro h
          refine dc_iloadn (pc := 184) (j := 1) (i := 1) hC 1 rfl rfl (show decode prog_15_method_97_code 184 = .ok (.iload_n 1, 1) by decide +kernel) ?_
          refine dc_iconst (pc := 185) (v := 2) hC (show decode prog_15_method_97_code 185 = .ok (.iconst 2, 1) by decide +kernel) (by decide +kernel) ?_
          refine dc_icmp_ne (pc := 186) (tgt := 193) hC (show decode prog_15_method_97_code 186 = .ok (.if_icmp .ne 7, 3) by decide +kernel) (by decide +kernel) h ?_ ?_
          · intro h
            refine dc_iloadn (pc := 189) (j := 3) (i := 3) hC 3 rfl rfl (show decode prog_15_method_97_code 189 = .ok (.iload_n 3, 1) by decide +kernel) ?_
            refine dc_goto (pc := 190) (tgt := 194) hC (show decode prog_15_method_97_code 190 = .ok (.goto 4, 3) by decide +kernel) (by decide +kernel) ?_
            exact dc_sub [0] rfl (lab_194 S x3 h)
          · intro h
            refine dc_iconst (pc := 193) (v := (-1)) hC (show decode prog_15_method_97_code 193 = .ok (.iconst (-1), 1) by decide +kernel) (by decide +kernel) ?_
            exact dc_sub [0] rfl (lab_194 S (-1) h)
  have loop_12 : ∀ (S : md_S) (x1 : Int32) (q : Int32 × Int32 × Int32), dc_wp (dc_it (mm_doubt_s12 S x1) q) (fun z => dc_wp ((fun (z : Int32 × Int32) => mm_doubt_L148 S x1 z.1 z.2) z) F) → dc_G X l { frames := 0, cells := 0, slots := 0, locals := 0 } D 8 0 0 (md_W o a ca S) 12 [(0, .ref o), (1, .int x1), (2, .int q.1), (3, .int q.2.1), (4, .int q.2.2)] [] := by
    intro S x1
    refine dc_loopF ?_
    intro F_12 hl_12 hr_12
    have lab_142 : ∀ (x2 : Int32) (x3 : Int32) (x4 : Int32), dc_wp (mm_doubt_L142 S x1 x2 x3 x4) F_12 → dc_G X l { frames := 0, cells := 0, slots := 0, locals := 0 } D 8 0 0 (md_W o a ca S) 142 [(0, .ref o), (1, .int x1), (2, .int x2), (3, .int x3), (4, .int x4)] [] := by
      intro x2 x3 x4 h
      delta mm_doubt_L142 at h
      refine dc_iinc (pc := 142) (i := 4) (v := (x4 + 1)) (lv' := [(4, .int (x4 + 1)), (0, .ref o), (1, .int x1), (2, .int x2), (3, .int x3)]) hC 4 rfl rfl (Nat.le_of_ble_eq_true rfl) rfl (show decode prog_15_method_97_code 142 = .ok (.iinc 4 1, 3) by decide +kernel) ?_
      refine dc_goto (pc := 145) (tgt := 12) hC (show decode prog_15_method_97_code 145 = .ok (.goto (-133), 3) by decide +kernel) (by decide +kernel) ?_
      exact dc_sub [1, 2, 3, 4, 0] rfl (hl_12 (x2, x3, (x4 + 1)) (dc_some h))
    have loop_38 : ∀ (x4 : Int32) (q : Int32 × Int32 × Int32), dc_wp (dc_it (mm_doubt_s38 S x1 x4) q) (fun z => dc_wp ((fun (z : Int32 × Int32) => mm_doubt_L142 S x1 z.1 z.2 x4) z) F_12) → dc_G X l { frames := 0, cells := 0, slots := 0, locals := 0 } D 8 0 0 (md_W o a ca S) 38 [(0, .ref o), (1, .int x1), (2, .int q.1), (3, .int q.2.1), (4, .int x4), (5, .int q.2.2)] [] := by
      intro x4
      refine dc_loopF ?_
      intro F_38 hl_38 hr_38
      have lab_136 : ∀ (x2 : Int32) (x3 : Int32) (x5 : Int32), dc_wp (mm_doubt_L136 S x1 x2 x3 x4 x5) F_38 → dc_G X l { frames := 0, cells := 0, slots := 0, locals := 0 } D 8 0 0 (md_W o a ca S) 136 [(0, .ref o), (1, .int x1), (2, .int x2), (3, .int x3), (4, .int x4), (5, .int x5)] [] := by
        intro x2 x3 x5 h
        delta mm_doubt_L136 at h
        refine dc_iinc (pc := 136) (i := 5) (v := (x5 + (-1))) (lv' := [(5, .int (x5 + (-1))), (0, .ref o), (1, .int x1), (2, .int x2), (3, .int x3), (4, .int x4)]) hC 5 rfl (congrArg (fun z => x5 + z) (show Int32.ofInt (-1) = (-1 : Int32) by decide +kernel)) (Nat.le_of_ble_eq_true rfl) rfl (show decode prog_15_method_97_code 136 = .ok (.iinc 5 (-1), 3) by decide +kernel) ?_
        refine dc_goto (pc := 139) (tgt := 38) hC (show decode prog_15_method_97_code 139 = .ok (.goto (-101), 3) by decide +kernel) (by decide +kernel) ?_
        exact dc_sub [1, 2, 3, 4, 5, 0] rfl (hl_38 (x2, x3, (x5 + (-1))) (dc_some h))
      have lab_115 : ∀ (x2 : Int32) (x3 : Int32) (x5 : Int32) (x6 : Int32) (y0 : Int32), dc_wp (mm_doubt_L115 S x1 x2 x3 x4 x5 x6 y0) F_38 → dc_G X l { frames := 0, cells := 0, slots := 0, locals := 0 } D 8 0 0 (md_W o a ca S) 115 [(0, .ref o), (1, .int x1), (2, .int x2), (3, .int x3), (4, .int x4), (5, .int x5), (6, .int x6)] [.int y0] := by
        intro x2 x3 x5 x6 y0 h
        delta mm_doubt_L115 at h
        refine dc_istore (pc := 115) (i := 7) (lv' := [(7, .int y0), (0, .ref o), (1, .int x1), (2, .int x2), (3, .int x3), (4, .int x4), (5, .int x5), (6, .int x6)]) hC (Nat.le_of_ble_eq_true rfl) rfl (show decode prog_15_method_97_code 115 = .ok (.istore 7, 2) by decide +kernel) ?_
        refine dc_iload (pc := 117) (i := 6) hC 7 rfl (show decode prog_15_method_97_code 117 = .ok (.iload 6, 2) by decide +kernel) ?_
        refine dc_if_eq (pc := 119) (tgt := 136) hC (show decode prog_15_method_97_code 119 = .ok (.ifCond .eq 17, 3) by decide +kernel) (by decide +kernel) h ?_ ?_
        · intro h
          exact dc_sub [1, 2, 3, 4, 5, 6] rfl (lab_136 x2 x3 x5 h)
        · intro h
          refine dc_iload (pc := 122) (i := 7) hC 0 rfl (show decode prog_15_method_97_code 122 = .ok (.iload 7, 2) by decide +kernel) ?_
          refine dc_if_ne (pc := 124) (tgt := 130) hC (show decode prog_15_method_97_code 124 = .ok (.ifCond .ne 6, 3) by decide +kernel) (by decide +kernel) h ?_ ?_
          · intro h
            refine dc_goto (pc := 127) (tgt := 136) hC (show decode prog_15_method_97_code 127 = .ok (.goto 9, 3) by decide +kernel) (by decide +kernel) ?_
            exact dc_sub [1, 2, 3, 4, 5, 6] rfl (lab_136 x2 x3 x5 h)
          · intro h
            refine dc_iload (pc := 130) (i := 4) hC 5 rfl (show decode prog_15_method_97_code 130 = .ok (.iload 4, 2) by decide +kernel) ?_
            refine dc_istoren (pc := 132) (j := 2) (i := 2) (lv' := [(2, .int x4), (7, .int y0), (0, .ref o), (1, .int x1), (3, .int x3), (4, .int x4), (5, .int x5), (6, .int x6)]) hC rfl (Nat.le_of_ble_eq_true rfl) rfl (show decode prog_15_method_97_code 132 = .ok (.istore_n 2, 1) by decide +kernel) ?_
            refine dc_iload (pc := 133) (i := 5) hC 6 rfl (show decode prog_15_method_97_code 133 = .ok (.iload 5, 2) by decide +kernel) ?_
            refine dc_istoren (pc := 135) (j := 3) (i := 3) (lv' := [(3, .int x5), (2, .int x4), (7, .int y0), (0, .ref o), (1, .int x1), (4, .int x4), (5, .int x5), (6, .int x6)]) hC rfl (Nat.le_of_ble_eq_true rfl) rfl (show decode prog_15_method_97_code 135 = .ok (.istore_n 3, 1) by decide +kernel) ?_
            exact dc_sub [3, 4, 1, 0, 5, 6] rfl (lab_136 x4 x5 x5 h)
      have lab_114 : ∀ (x2 : Int32) (x3 : Int32) (x5 : Int32) (x6 : Int32), dc_wp (mm_doubt_L114 S x1 x2 x3 x4 x5 x6) F_38 → dc_G X l { frames := 0, cells := 0, slots := 0, locals := 0 } D 8 0 0 (md_W o a ca S) 114 [(0, .ref o), (1, .int x1), (2, .int x2), (3, .int x3), (4, .int x4), (5, .int x5), (6, .int x6)] [] := by
        intro x2 x3 x5 x6 h
        delta mm_doubt_L114 at h
        refine dc_iconst (pc := 114) (v := 0) hC (show decode prog_15_method_97_code 114 = .ok (.iconst 0, 1) by decide +kernel) (by decide +kernel) ?_
        exact lab_115 x2 x3 x5 x6 0 h
      have lab_110 : ∀ (x2 : Int32) (x3 : Int32) (x5 : Int32) (x6 : Int32), dc_wp (mm_doubt_L110 S x1 x2 x3 x4 x5 x6) F_38 → dc_G X l { frames := 0, cells := 0, slots := 0, locals := 0 } D 8 0 0 (md_W o a ca S) 110 [(0, .ref o), (1, .int x1), (2, .int x2), (3, .int x3), (4, .int x4), (5, .int x5), (6, .int x6)] [] := by
        intro x2 x3 x5 x6 h
        delta mm_doubt_L110 at h
        refine dc_iconst (pc := 110) (v := 1) hC (show decode prog_15_method_97_code 110 = .ok (.iconst 1, 1) by decide +kernel) (by decide +kernel) ?_
        refine dc_goto (pc := 111) (tgt := 115) hC (show decode prog_15_method_97_code 111 = .ok (.goto 4, 3) by decide +kernel) (by decide +kernel) ?_
        exact lab_115 x2 x3 x5 x6 1 h
      have lab_65 : ∀ (x2 : Int32) (x3 : Int32) (x5 : Int32) (y0 : Int32), dc_wp (mm_doubt_L65 S x1 x2 x3 x4 x5 y0) F_38 → dc_G X l { frames := 0, cells := 0, slots := 0, locals := 0 } D 8 0 0 (md_W o a ca S) 65 [(0, .ref o), (1, .int x1), (2, .int x2), (3, .int x3), (4, .int x4), (5, .int x5)] [.int y0] := by
        intro x2 x3 x5 y0 h
        delta mm_doubt_L65 at h
        refine dc_istore (pc := 65) (i := 6) (lv' := [(6, .int y0), (0, .ref o), (1, .int x1), (2, .int x2), (3, .int x3), (4, .int x4), (5, .int x5)]) hC (Nat.le_of_ble_eq_true rfl) rfl (show decode prog_15_method_97_code 65 = .ok (.istore 6, 2) by decide +kernel) ?_
        refine dc_iloadn (pc := 67) (j := 2) (i := 2) hC 3 rfl rfl (show decode prog_15_method_97_code 67 = .ok (.iload_n 2, 1) by decide +kernel) ?_
        refine dc_iconst (pc := 68) (v := (-1)) hC (show decode prog_15_method_97_code 68 = .ok (.iconst (-1), 1) by decide +kernel) (by decide +kernel) ?_
        refine dc_icmp_eq (pc := 69) (tgt := 110) hC (show decode prog_15_method_97_code 69 = .ok (.if_icmp .eq 41, 3) by decide +kernel) (by decide +kernel) h ?_ ?_
        · intro h
          exact dc_sub [1, 2, 3, 4, 5, 6, 0] rfl (lab_110 x2 x3 x5 y0 h)
        · intro h
          refine dc_iloadn (pc := 72) (j := 2) (i := 2) hC 3 rfl rfl (show decode prog_15_method_97_code 72 = .ok (.iload_n 2, 1) by decide +kernel) ?_
          refine dc_iload (pc := 73) (i := 4) hC 5 rfl (show decode prog_15_method_97_code 73 = .ok (.iload 4, 2) by decide +kernel) ?_
          refine dc_icmp_eq (pc := 75) (tgt := 110) hC (show decode prog_15_method_97_code 75 = .ok (.if_icmp .eq 35, 3) by decide +kernel) (by decide +kernel) h ?_ ?_
          · intro h
            exact dc_sub [1, 2, 3, 4, 5, 6, 0] rfl (lab_110 x2 x3 x5 y0 h)
          · intro h
            refine dc_aloadn (pc := 78) (j := 0) (i := 0) hC 1 rfl rfl (show decode prog_15_method_97_code 78 = .ok (.aload_n 0, 1) by decide +kernel) ?_
            refine md_g89 (pc := 79) hC (show decode prog_15_method_97_code 79 = .ok (.getfield 151, 3) by decide +kernel) ?_
            refine dc_iload (pc := 82) (i := 4) hC 5 rfl (show decode prog_15_method_97_code 82 = .ok (.iload 4, 2) by decide +kernel) ?_
            refine md_l89 (pc := 84) hC (show decode prog_15_method_97_code 84 = .ok (.iaload, 1) by decide +kernel) h ?_
            intro j3 h
            refine dc_aloadn (pc := 85) (j := 0) (i := 0) hC 1 rfl rfl (show decode prog_15_method_97_code 85 = .ok (.aload_n 0, 1) by decide +kernel) ?_
            refine md_g89 (pc := 86) hC (show decode prog_15_method_97_code 86 = .ok (.getfield 151, 3) by decide +kernel) ?_
            refine dc_iloadn (pc := 89) (j := 2) (i := 2) hC 3 rfl rfl (show decode prog_15_method_97_code 89 = .ok (.iload_n 2, 1) by decide +kernel) ?_
            refine md_l89 (pc := 90) hC (show decode prog_15_method_97_code 90 = .ok (.iaload, 1) by decide +kernel) h ?_
            intro j4 h
            refine dc_icmp_ne (pc := 91) (tgt := 114) hC (show decode prog_15_method_97_code 91 = .ok (.if_icmp .ne 23, 3) by decide +kernel) (by decide +kernel) h ?_ ?_
            · intro h
              refine dc_aloadn (pc := 94) (j := 0) (i := 0) hC 1 rfl rfl (show decode prog_15_method_97_code 94 = .ok (.aload_n 0, 1) by decide +kernel) ?_
              refine md_g88 (pc := 95) hC (show decode prog_15_method_97_code 95 = .ok (.getfield 148, 3) by decide +kernel) ?_
              refine dc_iload (pc := 98) (i := 4) hC 5 rfl (show decode prog_15_method_97_code 98 = .ok (.iload 4, 2) by decide +kernel) ?_
              refine md_l88 (pc := 100) hC (show decode prog_15_method_97_code 100 = .ok (.iaload, 1) by decide +kernel) h ?_
              intro j5 h
              refine dc_aloadn (pc := 101) (j := 0) (i := 0) hC 1 rfl rfl (show decode prog_15_method_97_code 101 = .ok (.aload_n 0, 1) by decide +kernel) ?_
              refine md_g88 (pc := 102) hC (show decode prog_15_method_97_code 102 = .ok (.getfield 148, 3) by decide +kernel) ?_
              refine dc_iloadn (pc := 105) (j := 2) (i := 2) hC 3 rfl rfl (show decode prog_15_method_97_code 105 = .ok (.iload_n 2, 1) by decide +kernel) ?_
              refine md_l88 (pc := 106) hC (show decode prog_15_method_97_code 106 = .ok (.iaload, 1) by decide +kernel) h ?_
              intro j6 h
              refine dc_icmp_ge (pc := 107) (tgt := 114) hC (show decode prog_15_method_97_code 107 = .ok (.if_icmp .ge 7, 3) by decide +kernel) (by decide +kernel) h ?_ ?_
              · intro h
                exact dc_sub [1, 2, 3, 4, 5, 6, 0] rfl (lab_110 x2 x3 x5 y0 h)
              · intro h
                exact dc_sub [1, 2, 3, 4, 5, 6, 0] rfl (lab_114 x2 x3 x5 y0 h)
            · intro h
              exact dc_sub [1, 2, 3, 4, 5, 6, 0] rfl (lab_114 x2 x3 x5 y0 h)
      rintro ⟨x2, x3, x5⟩ h
      have h : dc_wp (mm_doubt_b38 S x1 x2 x3 x4 x5) F_38 := h
      delta mm_doubt_b38 at h
      refine dc_iload (pc := 38) (i := 5) hC 5 rfl (show decode prog_15_method_97_code 38 = .ok (.iload 5, 2) by decide +kernel) ?_
      refine dc_if_lt (pc := 40) (tgt := 142) hC (show decode prog_15_method_97_code 40 = .ok (.ifCond .lt 102, 3) by decide +kernel) (by decide +kernel) h ?_ ?_
      · intro h
        have h : dc_wp (mm_doubt_L142 S x1 x2 x3 x4) F_12 := hr_38 (x2, x3) (dc_some h)
        exact dc_sub [0, 1, 2, 3, 4] rfl (lab_142 x2 x3 x4 h)
      · intro h
        refine dc_aloadn (pc := 43) (j := 0) (i := 0) hC 0 rfl rfl (show decode prog_15_method_97_code 43 = .ok (.aload_n 0, 1) by decide +kernel) ?_
        refine md_g92 (pc := 44) hC (show decode prog_15_method_97_code 44 = .ok (.getfield 160, 3) by decide +kernel) ?_
        refine dc_bipush (pc := 47) (v := 16) hC (show decode prog_15_method_97_code 47 = .ok (.bipush 16, 2) by decide +kernel) (by decide +kernel) ?_
        refine dc_iload (pc := 49) (i := 4) hC 4 rfl (show decode prog_15_method_97_code 49 = .ok (.iload 4, 2) by decide +kernel) ?_
        refine dc_imul (pc := 51) hC (show decode prog_15_method_97_code 51 = .ok (.imul, 1) by decide +kernel) ?_
        refine dc_iload (pc := 52) (i := 5) hC 5 rfl (show decode prog_15_method_97_code 52 = .ok (.iload 5, 2) by decide +kernel) ?_
        refine dc_iadd (pc := 54) hC (show decode prog_15_method_97_code 54 = .ok (.iadd, 1) by decide +kernel) ?_
        refine md_l92 (pc := 55) hC (show decode prog_15_method_97_code 55 = .ok (.iaload, 1) by decide +kernel) h ?_
        intro j7 h
        refine dc_iconst (pc := 56) (v := (-1)) hC (show decode prog_15_method_97_code 56 = .ok (.iconst (-1), 1) by decide +kernel) (by decide +kernel) ?_
        refine dc_icmp_ne (pc := 57) (tgt := 64) hC (show decode prog_15_method_97_code 57 = .ok (.if_icmp .ne 7, 3) by decide +kernel) (by decide +kernel) h ?_ ?_
        · intro h
          refine dc_iconst (pc := 60) (v := 1) hC (show decode prog_15_method_97_code 60 = .ok (.iconst 1, 1) by decide +kernel) (by decide +kernel) ?_
          refine dc_goto (pc := 61) (tgt := 65) hC (show decode prog_15_method_97_code 61 = .ok (.goto 4, 3) by decide +kernel) (by decide +kernel) ?_
          exact lab_65 x2 x3 x5 1 h
        · intro h
          refine dc_iconst (pc := 64) (v := 0) hC (show decode prog_15_method_97_code 64 = .ok (.iconst 0, 1) by decide +kernel) (by decide +kernel) ?_
          exact lab_65 x2 x3 x5 0 h
    have lab_38 : ∀ (x2 : Int32) (x3 : Int32) (x4 : Int32) (x5 : Int32), dc_wp (mm_doubt_L38 S x1 x2 x3 x4 x5) F_12 → dc_G X l { frames := 0, cells := 0, slots := 0, locals := 0 } D 8 0 0 (md_W o a ca S) 38 [(0, .ref o), (1, .int x1), (2, .int x2), (3, .int x3), (4, .int x4), (5, .int x5)] [] := fun x2 x3 x4 x5 h => loop_38 x4 (x2, x3, x5) (dc_bind h)
    rintro ⟨x2, x3, x4⟩ h
    have h : dc_wp (mm_doubt_b12 S x1 x2 x3 x4) F_12 := h
    delta mm_doubt_b12 at h
    refine dc_iload (pc := 12) (i := 4) hC 4 rfl (show decode prog_15_method_97_code 12 = .ok (.iload 4, 2) by decide +kernel) ?_
    refine dc_aloadn (pc := 14) (j := 0) (i := 0) hC 0 rfl rfl (show decode prog_15_method_97_code 14 = .ok (.aload_n 0, 1) by decide +kernel) ?_
    refine md_g87 (pc := 15) hC (show decode prog_15_method_97_code 15 = .ok (.getfield 527, 3) by decide +kernel) ?_
    refine dc_icmp_ge (pc := 18) (tgt := 148) hC (show decode prog_15_method_97_code 18 = .ok (.if_icmp .ge 130, 3) by decide +kernel) (by decide +kernel) h ?_ ?_
    · intro h
      refine dc_aloadn (pc := 21) (j := 0) (i := 0) hC 0 rfl rfl (show decode prog_15_method_97_code 21 = .ok (.aload_n 0, 1) by decide +kernel) ?_
      refine md_g85 (pc := 22) hC (show decode prog_15_method_97_code 22 = .ok (.getfield 518, 3) by decide +kernel) ?_
      refine dc_if_eq (pc := 25) (tgt := 148) hC (show decode prog_15_method_97_code 25 = .ok (.ifCond .eq 123, 3) by decide +kernel) (by decide +kernel) h ?_ ?_
      · intro h
        have h : dc_wp (mm_doubt_L148 S x1 x2 x3) F := hr_12 (x2, x3) (dc_some h)
        exact dc_sub [0, 1, 2, 3] rfl (lab_148 S x1 x2 x3 h)
      · intro h
        refine dc_iconst (pc := 28) (v := 1) hC (show decode prog_15_method_97_code 28 = .ok (.iconst 1, 1) by decide +kernel) (by decide +kernel) ?_
        refine dc_aloadn (pc := 29) (j := 0) (i := 0) hC 0 rfl rfl (show decode prog_15_method_97_code 29 = .ok (.aload_n 0, 1) by decide +kernel) ?_
        refine md_g45 (pc := 30) hC (show decode prog_15_method_97_code 30 = .ok (.getfield 533, 3) by decide +kernel) ?_
        refine dc_ishl (pc := 33) hC (show decode prog_15_method_97_code 33 = .ok (.ishl, 1) by decide +kernel) ?_
        refine dc_iconst (pc := 34) (v := 1) hC (show decode prog_15_method_97_code 34 = .ok (.iconst 1, 1) by decide +kernel) (by decide +kernel) ?_
        refine dc_isub (pc := 35) hC (show decode prog_15_method_97_code 35 = .ok (.isub, 1) by decide +kernel) ?_
        refine dc_letI h ?_
        intro v8 h
        refine dc_istore (pc := 36) (i := 5) (lv' := [(5, .int v8), (0, .ref o), (1, .int x1), (2, .int x2), (3, .int x3), (4, .int x4)]) hC (Nat.le_of_ble_eq_true rfl) rfl (show decode prog_15_method_97_code 36 = .ok (.istore 5, 2) by decide +kernel) ?_
        exact dc_sub [1, 2, 3, 4, 5, 0] rfl (lab_38 x2 x3 x4 v8 h)
    · intro h
      have h : dc_wp (mm_doubt_L148 S x1 x2 x3) F := hr_12 (x2, x3) (dc_some h)
      exact dc_sub [0, 1, 2, 3] rfl (lab_148 S x1 x2 x3 h)
  have lab_12 : ∀ (S : md_S) (x1 : Int32) (x2 : Int32) (x3 : Int32) (x4 : Int32), dc_wp (mm_doubt_L12 S x1 x2 x3 x4) F → dc_G X l { frames := 0, cells := 0, slots := 0, locals := 0 } D 8 0 0 (md_W o a ca S) 12 [(0, .ref o), (1, .int x1), (2, .int x2), (3, .int x3), (4, .int x4)] [] := fun S x1 x2 x3 x4 h => loop_12 S x1 (x2, x3, x4) (dc_bind h)
  show dc_G X l { frames := 0, cells := 0, slots := 0, locals := 0 } D 8 0 0 (md_W o a ca S) 0 [(0, .ref o), (1, .int p1)] []
  delta mm_doubt at h
  refine dc_aloadn (pc := 0) (j := 0) (i := 0) hC 0 rfl rfl (show decode prog_15_method_97_code 0 = .ok (.aload_n 0, 1) by decide +kernel) ?_
  refine dc_iconst (pc := 1) (v := 0) hC (show decode prog_15_method_97_code 1 = .ok (.iconst 0, 1) by decide +kernel) (by decide +kernel) ?_
  refine md_p0 (pc := 2) hC (show decode prog_15_method_97_code 2 = .ok (.putfield 206, 3) by decide +kernel) ?_
  refine dc_letS h ?_
  intro S9 h
  refine dc_iconst (pc := 5) (v := (-1)) hC (show decode prog_15_method_97_code 5 = .ok (.iconst (-1), 1) by decide +kernel) (by decide +kernel) ?_
  refine dc_istoren (pc := 6) (j := 2) (i := 2) (lv' := [(2, .int (-1)), (0, .ref o), (1, .int p1)]) hC rfl (Nat.le_of_ble_eq_true rfl) rfl (show decode prog_15_method_97_code 6 = .ok (.istore_n 2, 1) by decide +kernel) ?_
  refine dc_iconst (pc := 7) (v := 0) hC (show decode prog_15_method_97_code 7 = .ok (.iconst 0, 1) by decide +kernel) (by decide +kernel) ?_
  refine dc_istoren (pc := 8) (j := 3) (i := 3) (lv' := [(3, .int 0), (2, .int (-1)), (0, .ref o), (1, .int p1)]) hC rfl (Nat.le_of_ble_eq_true rfl) rfl (show decode prog_15_method_97_code 8 = .ok (.istore_n 3, 1) by decide +kernel) ?_
  refine dc_iconst (pc := 9) (v := 0) hC (show decode prog_15_method_97_code 9 = .ok (.iconst 0, 1) by decide +kernel) (by decide +kernel) ?_
  refine dc_istore (pc := 10) (i := 4) (lv' := [(4, .int 0), (3, .int 0), (2, .int (-1)), (0, .ref o), (1, .int p1)]) hC (Nat.le_of_ble_eq_true rfl) rfl (show decode prog_15_method_97_code 10 = .ok (.istore 4, 2) by decide +kernel) ?_
  exact dc_sub [3, 4, 2, 1, 0] rfl (lab_12 S9 p1 (-1) 0 0 h)
noncomputable def mm_reactions_L80 (S : md_S) (x2 : Int32) : Option (Int32) :=
  some x2
noncomputable def mm_reactions_L74 (S : md_S) (x1 : Int32) (x2 : Int32) (x3 : Int32) : Option ((Int32 × Int32) ⊕ ((Int32))) :=
  some (.inl (x2, (x3 + 1)))
noncomputable def mm_reactions_L66 (S : md_S) (x1 : Int32) (x3 : Int32) (x4 : Int32) (y0 : Int32) (y1 : Int32) : Option ((Int32 × Int32) ⊕ ((Int32))) :=
  dc_let ((y1 + y0) : Int32) fun v1 => some (.inl (v1, (x4 + 1)))
noncomputable def mm_reactions_L65 (S : md_S) (x1 : Int32) (x3 : Int32) (x4 : Int32) (y0 : Int32) : Option ((Int32 × Int32) ⊕ ((Int32))) :=
  mm_reactions_L66 S x1 x3 x4 0 y0
noncomputable def mm_reactions_b15 (S : md_S) (x1 : Int32) (x2 : Int32) (x3 : Int32) (x4 : Int32) : Option ((Int32 × Int32) ⊕ ((Int32))) :=
  if x4 < ((1 : Int32) <<< ((S.1 45) &&& (31 : Int32))) then ((dc_ix ((16 * x3) + x4) 4112).bind fun j2 => if (S.2.1 92 j2) = (-1) then (mm_reactions_L65 S x1 x3 x4 x2) else ((dc_ix ((16 * x3) + x4) 4112).bind fun j3 => if ((S.2.1 93 j3) &&& x1) = x1 then (mm_reactions_L66 S x1 x3 x4 1 x2) else (mm_reactions_L65 S x1 x3 x4 x2))) else (some (.inr x2))
noncomputable def mm_reactions_s15 (S : md_S) (x1 : Int32) (x3 : Int32) (q : Int32 × Int32) : Option ((Int32 × Int32) ⊕ ((Int32))) :=
  mm_reactions_b15 S x1 q.1 x3 q.2
noncomputable def mm_reactions_L15 (S : md_S) (x1 : Int32) (x2 : Int32) (x3 : Int32) (x4 : Int32) : Option ((Int32 × Int32) ⊕ ((Int32))) :=
  (dc_it (mm_reactions_s15 S x1 x3) (x2, x4)).bind (fun (z : Int32) => mm_reactions_L74 S x1 z x3)
noncomputable def mm_reactions_b4 (S : md_S) (x1 : Int32) (x2 : Int32) (x3 : Int32) : Option ((Int32 × Int32) ⊕ ((Int32))) :=
  if x3 < (S.1 87) then (mm_reactions_L15 S x1 x2 x3 0) else (some (.inr x2))
noncomputable def mm_reactions_s4 (S : md_S) (x1 : Int32) (q : Int32 × Int32) : Option ((Int32 × Int32) ⊕ ((Int32))) :=
  mm_reactions_b4 S x1 q.1 q.2
noncomputable def mm_reactions_L4 (S : md_S) (x1 : Int32) (x2 : Int32) (x3 : Int32) : Option (Int32) :=
  (dc_it (mm_reactions_s4 S x1) (x2, x3)).bind (fun (z : Int32) => mm_reactions_L80 S z)
noncomputable def mm_reactions (S : md_S) (p1 : Int32) : Option (Int32) :=
  mm_reactions_L4 S p1 0 0
set_option maxHeartbeats 4000000 in
set_option maxRecDepth 100000 in
/-- reactions(I)I -/
theorem mm_reactions_ok (l : Launch) (D : va_G) (ad : Nat → Nat) (de : Nat) (o : Nat) (a : Nat → Nat) (ca : Nat → ClassId) (S : md_S) (p1 : Int32) (F : Int32 → Prop) (h : dc_wp (mm_reactions S p1) F) : dc_Ci l ⟨"SignalEngineModel", "reactions", "(I)I"⟩ prog_15_method_98_code 5 (some (.int)) 0 0 D (md_T ca) ad de [.ref o, .int p1] (md_W o a ca S) (fun r w => ∃ q, F q ∧ r = q ∧ w = (md_W o a ca S)) 0 0 := by
  refine dc_enteri (by decide +kernel) (Nat.le_of_ble_eq_true rfl) ?_
  intro X hC hR
  have lab_80 : ∀ (x2 : Int32), dc_wp (mm_reactions_L80 S x2) F → dc_G X l { frames := 0, cells := 0, slots := 0, locals := 0 } D 5 0 0 (md_W o a ca S) 80 [(0, .ref o), (2, .int x2)] [] := by
    intro x2 h
    delta mm_reactions_L80 at h
    refine dc_iloadn (pc := 80) (j := 2) (i := 2) hC 1 rfl rfl (show decode prog_15_method_98_code 80 = .ok (.iload_n 2, 1) by decide +kernel) ?_
    exact dc_iret (pc := 81) hC hR ⟨_, dc_some h, rfl, rfl⟩ (show decode prog_15_method_98_code 81 = .ok (.ireturn, 1) by decide +kernel)
  have loop_4 : ∀ (x1 : Int32) (q : Int32 × Int32), dc_wp (dc_it (mm_reactions_s4 S x1) q) (fun z => dc_wp ((fun (z : Int32) => mm_reactions_L80 S z) z) F) → dc_G X l { frames := 0, cells := 0, slots := 0, locals := 0 } D 5 0 0 (md_W o a ca S) 4 [(0, .ref o), (1, .int x1), (2, .int q.1), (3, .int q.2)] [] := by
    intro x1
    refine dc_loopF ?_
    intro F_4 hl_4 hr_4
    have lab_74 : ∀ (x2 : Int32) (x3 : Int32), dc_wp (mm_reactions_L74 S x1 x2 x3) F_4 → dc_G X l { frames := 0, cells := 0, slots := 0, locals := 0 } D 5 0 0 (md_W o a ca S) 74 [(0, .ref o), (1, .int x1), (2, .int x2), (3, .int x3)] [] := by
      intro x2 x3 h
      delta mm_reactions_L74 at h
      refine dc_iinc (pc := 74) (i := 3) (v := (x3 + 1)) (lv' := [(3, .int (x3 + 1)), (0, .ref o), (1, .int x1), (2, .int x2)]) hC 3 rfl rfl (Nat.le_of_ble_eq_true rfl) rfl (show decode prog_15_method_98_code 74 = .ok (.iinc 3 1, 3) by decide +kernel) ?_
      refine dc_goto (pc := 77) (tgt := 4) hC (show decode prog_15_method_98_code 77 = .ok (.goto (-73), 3) by decide +kernel) (by decide +kernel) ?_
      exact dc_sub [1, 2, 3, 0] rfl (hl_4 (x2, (x3 + 1)) (dc_some h))
    have loop_15 : ∀ (x3 : Int32) (q : Int32 × Int32), dc_wp (dc_it (mm_reactions_s15 S x1 x3) q) (fun z => dc_wp ((fun (z : Int32) => mm_reactions_L74 S x1 z x3) z) F_4) → dc_G X l { frames := 0, cells := 0, slots := 0, locals := 0 } D 5 0 0 (md_W o a ca S) 15 [(0, .ref o), (1, .int x1), (2, .int q.1), (3, .int x3), (4, .int q.2)] [] := by
      intro x3
      refine dc_loopF ?_
      intro F_15 hl_15 hr_15
      have lab_66 : ∀ (x4 : Int32) (y0 : Int32) (y1 : Int32), dc_wp (mm_reactions_L66 S x1 x3 x4 y0 y1) F_15 → dc_G X l { frames := 0, cells := 0, slots := 0, locals := 0 } D 5 0 0 (md_W o a ca S) 66 [(0, .ref o), (1, .int x1), (3, .int x3), (4, .int x4)] [.int y0, .int y1] := by
        intro x4 y0 y1 h
        delta mm_reactions_L66 at h
        refine dc_iadd (pc := 66) hC (show decode prog_15_method_98_code 66 = .ok (.iadd, 1) by decide +kernel) ?_
        refine dc_letI h ?_
        intro v1 h
        refine dc_istoren (pc := 67) (j := 2) (i := 2) (lv' := [(2, .int v1), (0, .ref o), (1, .int x1), (3, .int x3), (4, .int x4)]) hC rfl (Nat.le_of_ble_eq_true rfl) rfl (show decode prog_15_method_98_code 67 = .ok (.istore_n 2, 1) by decide +kernel) ?_
        refine dc_iinc (pc := 68) (i := 4) (v := (x4 + 1)) (lv' := [(4, .int (x4 + 1)), (2, .int v1), (0, .ref o), (1, .int x1), (3, .int x3)]) hC 4 rfl rfl (Nat.le_of_ble_eq_true rfl) rfl (show decode prog_15_method_98_code 68 = .ok (.iinc 4 1, 3) by decide +kernel) ?_
        refine dc_goto (pc := 71) (tgt := 15) hC (show decode prog_15_method_98_code 71 = .ok (.goto (-56), 3) by decide +kernel) (by decide +kernel) ?_
        exact dc_sub [2, 3, 1, 4, 0] rfl (hl_15 (v1, (x4 + 1)) (dc_some h))
      have lab_65 : ∀ (x4 : Int32) (y0 : Int32), dc_wp (mm_reactions_L65 S x1 x3 x4 y0) F_15 → dc_G X l { frames := 0, cells := 0, slots := 0, locals := 0 } D 5 0 0 (md_W o a ca S) 65 [(0, .ref o), (1, .int x1), (3, .int x3), (4, .int x4)] [.int y0] := by
        intro x4 y0 h
        delta mm_reactions_L65 at h
        refine dc_iconst (pc := 65) (v := 0) hC (show decode prog_15_method_98_code 65 = .ok (.iconst 0, 1) by decide +kernel) (by decide +kernel) ?_
        exact lab_66 x4 0 y0 h
      rintro ⟨x2, x4⟩ h
      have h : dc_wp (mm_reactions_b15 S x1 x2 x3 x4) F_15 := h
      delta mm_reactions_b15 at h
      refine dc_iload (pc := 15) (i := 4) hC 4 rfl (show decode prog_15_method_98_code 15 = .ok (.iload 4, 2) by decide +kernel) ?_
      refine dc_iconst (pc := 17) (v := 1) hC (show decode prog_15_method_98_code 17 = .ok (.iconst 1, 1) by decide +kernel) (by decide +kernel) ?_
      refine dc_aloadn (pc := 18) (j := 0) (i := 0) hC 0 rfl rfl (show decode prog_15_method_98_code 18 = .ok (.aload_n 0, 1) by decide +kernel) ?_
      refine md_g45 (pc := 19) hC (show decode prog_15_method_98_code 19 = .ok (.getfield 533, 3) by decide +kernel) ?_
      refine dc_ishl (pc := 22) hC (show decode prog_15_method_98_code 22 = .ok (.ishl, 1) by decide +kernel) ?_
      refine dc_icmp_ge (pc := 23) (tgt := 74) hC (show decode prog_15_method_98_code 23 = .ok (.if_icmp .ge 51, 3) by decide +kernel) (by decide +kernel) h ?_ ?_
      · intro h
        refine dc_iloadn (pc := 26) (j := 2) (i := 2) hC 2 rfl rfl (show decode prog_15_method_98_code 26 = .ok (.iload_n 2, 1) by decide +kernel) ?_
        refine dc_aloadn (pc := 27) (j := 0) (i := 0) hC 0 rfl rfl (show decode prog_15_method_98_code 27 = .ok (.aload_n 0, 1) by decide +kernel) ?_
        refine md_g92 (pc := 28) hC (show decode prog_15_method_98_code 28 = .ok (.getfield 160, 3) by decide +kernel) ?_
        refine dc_bipush (pc := 31) (v := 16) hC (show decode prog_15_method_98_code 31 = .ok (.bipush 16, 2) by decide +kernel) (by decide +kernel) ?_
        refine dc_iloadn (pc := 33) (j := 3) (i := 3) hC 3 rfl rfl (show decode prog_15_method_98_code 33 = .ok (.iload_n 3, 1) by decide +kernel) ?_
        refine dc_imul (pc := 34) hC (show decode prog_15_method_98_code 34 = .ok (.imul, 1) by decide +kernel) ?_
        refine dc_iload (pc := 35) (i := 4) hC 4 rfl (show decode prog_15_method_98_code 35 = .ok (.iload 4, 2) by decide +kernel) ?_
        refine dc_iadd (pc := 37) hC (show decode prog_15_method_98_code 37 = .ok (.iadd, 1) by decide +kernel) ?_
        refine md_l92 (pc := 38) hC (show decode prog_15_method_98_code 38 = .ok (.iaload, 1) by decide +kernel) h ?_
        intro j2 h
        refine dc_iconst (pc := 39) (v := (-1)) hC (show decode prog_15_method_98_code 39 = .ok (.iconst (-1), 1) by decide +kernel) (by decide +kernel) ?_
        refine dc_icmp_eq (pc := 40) (tgt := 65) hC (show decode prog_15_method_98_code 40 = .ok (.if_icmp .eq 25, 3) by decide +kernel) (by decide +kernel) h ?_ ?_
        · intro h
          exact dc_sub [0, 1, 3, 4] rfl (lab_65 x4 x2 h)
        · intro h
          refine dc_aloadn (pc := 43) (j := 0) (i := 0) hC 0 rfl rfl (show decode prog_15_method_98_code 43 = .ok (.aload_n 0, 1) by decide +kernel) ?_
          refine md_g93 (pc := 44) hC (show decode prog_15_method_98_code 44 = .ok (.getfield 163, 3) by decide +kernel) ?_
          refine dc_bipush (pc := 47) (v := 16) hC (show decode prog_15_method_98_code 47 = .ok (.bipush 16, 2) by decide +kernel) (by decide +kernel) ?_
          refine dc_iloadn (pc := 49) (j := 3) (i := 3) hC 3 rfl rfl (show decode prog_15_method_98_code 49 = .ok (.iload_n 3, 1) by decide +kernel) ?_
          refine dc_imul (pc := 50) hC (show decode prog_15_method_98_code 50 = .ok (.imul, 1) by decide +kernel) ?_
          refine dc_iload (pc := 51) (i := 4) hC 4 rfl (show decode prog_15_method_98_code 51 = .ok (.iload 4, 2) by decide +kernel) ?_
          refine dc_iadd (pc := 53) hC (show decode prog_15_method_98_code 53 = .ok (.iadd, 1) by decide +kernel) ?_
          refine md_l93 (pc := 54) hC (show decode prog_15_method_98_code 54 = .ok (.iaload, 1) by decide +kernel) h ?_
          intro j3 h
          refine dc_iloadn (pc := 55) (j := 1) (i := 1) hC 1 rfl rfl (show decode prog_15_method_98_code 55 = .ok (.iload_n 1, 1) by decide +kernel) ?_
          refine dc_iand (pc := 56) hC (show decode prog_15_method_98_code 56 = .ok (.iand, 1) by decide +kernel) ?_
          refine dc_iloadn (pc := 57) (j := 1) (i := 1) hC 1 rfl rfl (show decode prog_15_method_98_code 57 = .ok (.iload_n 1, 1) by decide +kernel) ?_
          refine dc_icmp_ne (pc := 58) (tgt := 65) hC (show decode prog_15_method_98_code 58 = .ok (.if_icmp .ne 7, 3) by decide +kernel) (by decide +kernel) h ?_ ?_
          · intro h
            refine dc_iconst (pc := 61) (v := 1) hC (show decode prog_15_method_98_code 61 = .ok (.iconst 1, 1) by decide +kernel) (by decide +kernel) ?_
            refine dc_goto (pc := 62) (tgt := 66) hC (show decode prog_15_method_98_code 62 = .ok (.goto 4, 3) by decide +kernel) (by decide +kernel) ?_
            exact dc_sub [0, 1, 3, 4] rfl (lab_66 x4 1 x2 h)
          · intro h
            exact dc_sub [0, 1, 3, 4] rfl (lab_65 x4 x2 h)
      · intro h
        have h : dc_wp (mm_reactions_L74 S x1 x2 x3) F_4 := hr_15 x2 (dc_some h)
        exact dc_sub [0, 1, 2, 3] rfl (lab_74 x2 x3 h)
    have lab_15 : ∀ (x2 : Int32) (x3 : Int32) (x4 : Int32), dc_wp (mm_reactions_L15 S x1 x2 x3 x4) F_4 → dc_G X l { frames := 0, cells := 0, slots := 0, locals := 0 } D 5 0 0 (md_W o a ca S) 15 [(0, .ref o), (1, .int x1), (2, .int x2), (3, .int x3), (4, .int x4)] [] := fun x2 x3 x4 h => loop_15 x3 (x2, x4) (dc_bind h)
    rintro ⟨x2, x3⟩ h
    have h : dc_wp (mm_reactions_b4 S x1 x2 x3) F_4 := h
    delta mm_reactions_b4 at h
    refine dc_iloadn (pc := 4) (j := 3) (i := 3) hC 3 rfl rfl (show decode prog_15_method_98_code 4 = .ok (.iload_n 3, 1) by decide +kernel) ?_
    refine dc_aloadn (pc := 5) (j := 0) (i := 0) hC 0 rfl rfl (show decode prog_15_method_98_code 5 = .ok (.aload_n 0, 1) by decide +kernel) ?_
    refine md_g87 (pc := 6) hC (show decode prog_15_method_98_code 6 = .ok (.getfield 527, 3) by decide +kernel) ?_
    refine dc_icmp_ge (pc := 9) (tgt := 80) hC (show decode prog_15_method_98_code 9 = .ok (.if_icmp .ge 71, 3) by decide +kernel) (by decide +kernel) h ?_ ?_
    · intro h
      refine dc_iconst (pc := 12) (v := 0) hC (show decode prog_15_method_98_code 12 = .ok (.iconst 0, 1) by decide +kernel) (by decide +kernel) ?_
      refine dc_istore (pc := 13) (i := 4) (lv' := [(4, .int 0), (0, .ref o), (1, .int x1), (2, .int x2), (3, .int x3)]) hC (Nat.le_of_ble_eq_true rfl) rfl (show decode prog_15_method_98_code 13 = .ok (.istore 4, 2) by decide +kernel) ?_
      exact dc_sub [1, 2, 3, 4, 0] rfl (lab_15 x2 x3 0 h)
    · intro h
      have h : dc_wp (mm_reactions_L80 S x2) F := hr_4 x2 (dc_some h)
      exact dc_sub [0, 2] rfl (lab_80 x2 h)
  have lab_4 : ∀ (x1 : Int32) (x2 : Int32) (x3 : Int32), dc_wp (mm_reactions_L4 S x1 x2 x3) F → dc_G X l { frames := 0, cells := 0, slots := 0, locals := 0 } D 5 0 0 (md_W o a ca S) 4 [(0, .ref o), (1, .int x1), (2, .int x2), (3, .int x3)] [] := fun x1 x2 x3 h => loop_4 x1 (x2, x3) (dc_bind h)
  show dc_G X l { frames := 0, cells := 0, slots := 0, locals := 0 } D 5 0 0 (md_W o a ca S) 0 [(0, .ref o), (1, .int p1)] []
  delta mm_reactions at h
  refine dc_iconst (pc := 0) (v := 0) hC (show decode prog_15_method_98_code 0 = .ok (.iconst 0, 1) by decide +kernel) (by decide +kernel) ?_
  refine dc_istoren (pc := 1) (j := 2) (i := 2) (lv' := [(2, .int 0), (0, .ref o), (1, .int p1)]) hC rfl (Nat.le_of_ble_eq_true rfl) rfl (show decode prog_15_method_98_code 1 = .ok (.istore_n 2, 1) by decide +kernel) ?_
  refine dc_iconst (pc := 2) (v := 0) hC (show decode prog_15_method_98_code 2 = .ok (.iconst 0, 1) by decide +kernel) (by decide +kernel) ?_
  refine dc_istoren (pc := 3) (j := 3) (i := 3) (lv' := [(3, .int 0), (2, .int 0), (0, .ref o), (1, .int p1)]) hC rfl (Nat.le_of_ble_eq_true rfl) rfl (show decode prog_15_method_98_code 3 = .ok (.istore_n 3, 1) by decide +kernel) ?_
  exact dc_sub [2, 3, 1, 0] rfl (lab_4 p1 0 0 h)
noncomputable def mm_ever_L64 (S : md_S) (y0 : Int32) : Option (md_S × Int32) :=
  some (S, y0)
noncomputable def mm_ever_L32 (S : md_S) : Option (md_S × Int32) :=
  some (S, (-1))
noncomputable def mm_ever (S : md_S) (p1 : Int32) : Option (md_S × Int32) :=
  dc_let (md_i S 0 0) fun S1 => if (S1.1 85) = 0 then (mm_ever_L32 S1) else (if p1 < 0 then (mm_ever_L32 S1) else (if p1 < (S1.1 46) then ((mm_reactions S1 0).bind fun q2 => if q2 = 0 then (mm_ever_L32 S1) else ((mm_reactions S1 ((1 : Int32) <<< (p1 &&& (31 : Int32)))).bind fun q3 => if q3 = 0 then (mm_ever_L64 S1 0) else ((mm_reactions S1 0).bind fun q4 => if q3 = q4 then (mm_ever_L64 S1 2) else (mm_ever_L64 S1 1)))) else (mm_ever_L32 S1)))
set_option maxHeartbeats 4000000 in
set_option maxRecDepth 100000 in
/-- ever(I)I -/
theorem mm_ever_ok (l : Launch) (D : va_G) (ad : Nat → Nat) (de : Nat) (o : Nat) (a : Nat → Nat) (ca : Nat → ClassId) (S : md_S) (p1 : Int32) (F : (md_S × Int32) → Prop) (h : dc_wp (mm_ever S p1) F) : dc_Ci l ⟨"SignalEngineModel", "ever", "(I)I"⟩ prog_15_method_99_code 3 (some (.int)) 1 24 D (md_T ca) ad de [.ref o, .int p1] (md_W o a ca S) (fun r w => ∃ q, F q ∧ r = q.2 ∧ w = md_W o a ca q.1) 0 0 := by
  refine dc_enteri (by decide +kernel) (Nat.le_of_ble_eq_true rfl) ?_
  intro X hC hR
  have lab_64 : ∀ (S : md_S) (y0 : Int32), dc_wp (mm_ever_L64 S y0) F → dc_G X l { frames := 1, cells := 0, slots := 0, locals := 24 } D 3 0 0 (md_W o a ca S) 64 [(0, .ref o)] [.int y0] := by
    intro S y0 h
    delta mm_ever_L64 at h
    exact dc_iret (pc := 64) hC hR ⟨_, dc_some h, rfl, rfl⟩ (show decode prog_15_method_99_code 64 = .ok (.ireturn, 1) by decide +kernel)
  have lab_32 : ∀ (S : md_S), dc_wp (mm_ever_L32 S) F → dc_G X l { frames := 1, cells := 0, slots := 0, locals := 24 } D 3 0 0 (md_W o a ca S) 32 [(0, .ref o)] [] := by
    intro S  h
    delta mm_ever_L32 at h
    refine dc_iconst (pc := 32) (v := (-1)) hC (show decode prog_15_method_99_code 32 = .ok (.iconst (-1), 1) by decide +kernel) (by decide +kernel) ?_
    exact dc_iret (pc := 33) hC hR ⟨_, dc_some h, rfl, rfl⟩ (show decode prog_15_method_99_code 33 = .ok (.ireturn, 1) by decide +kernel)
  show dc_G X l { frames := 1, cells := 0, slots := 0, locals := 24 } D 3 0 0 (md_W o a ca S) 0 [(0, .ref o), (1, .int p1)] []
  delta mm_ever at h
  refine dc_aloadn (pc := 0) (j := 0) (i := 0) hC 0 rfl rfl (show decode prog_15_method_99_code 0 = .ok (.aload_n 0, 1) by decide +kernel) ?_
  refine dc_iconst (pc := 1) (v := 0) hC (show decode prog_15_method_99_code 1 = .ok (.iconst 0, 1) by decide +kernel) (by decide +kernel) ?_
  refine md_p0 (pc := 2) hC (show decode prog_15_method_99_code 2 = .ok (.putfield 206, 3) by decide +kernel) ?_
  refine dc_letS h ?_
  intro S1 h
  refine dc_aloadn (pc := 5) (j := 0) (i := 0) hC 0 rfl rfl (show decode prog_15_method_99_code 5 = .ok (.aload_n 0, 1) by decide +kernel) ?_
  refine md_g85 (pc := 6) hC (show decode prog_15_method_99_code 6 = .ok (.getfield 518, 3) by decide +kernel) ?_
  refine dc_if_eq (pc := 9) (tgt := 32) hC (show decode prog_15_method_99_code 9 = .ok (.ifCond .eq 23, 3) by decide +kernel) (by decide +kernel) h ?_ ?_
  · intro h
    exact dc_sub [0] rfl (lab_32 S1 h)
  · intro h
    refine dc_iloadn (pc := 12) (j := 1) (i := 1) hC 1 rfl rfl (show decode prog_15_method_99_code 12 = .ok (.iload_n 1, 1) by decide +kernel) ?_
    refine dc_if_lt (pc := 13) (tgt := 32) hC (show decode prog_15_method_99_code 13 = .ok (.ifCond .lt 19, 3) by decide +kernel) (by decide +kernel) h ?_ ?_
    · intro h
      exact dc_sub [0] rfl (lab_32 S1 h)
    · intro h
      refine dc_iloadn (pc := 16) (j := 1) (i := 1) hC 1 rfl rfl (show decode prog_15_method_99_code 16 = .ok (.iload_n 1, 1) by decide +kernel) ?_
      refine dc_aloadn (pc := 17) (j := 0) (i := 0) hC 0 rfl rfl (show decode prog_15_method_99_code 17 = .ok (.aload_n 0, 1) by decide +kernel) ?_
      refine md_g46 (pc := 18) hC (show decode prog_15_method_99_code 18 = .ok (.getfield 530, 3) by decide +kernel) ?_
      refine dc_icmp_ge (pc := 21) (tgt := 32) hC (show decode prog_15_method_99_code 21 = .ok (.if_icmp .ge 11, 3) by decide +kernel) (by decide +kernel) h ?_ ?_
      · intro h
        refine dc_aloadn (pc := 24) (j := 0) (i := 0) hC 0 rfl rfl (show decode prog_15_method_99_code 24 = .ok (.aload_n 0, 1) by decide +kernel) ?_
        refine dc_iconst (pc := 25) (v := 0) hC (show decode prog_15_method_99_code 25 = .ok (.iconst 0, 1) by decide +kernel) (by decide +kernel) ?_
        refine mc_Vpi (pc := 26) (As := [.int 0]) (rest := []) hC vw_reactions_655 (mm_reactions_ok l D ad de o a ca S1 0) (Nat.le_of_ble_eq_true rfl) (Nat.le_of_ble_eq_true rfl) rfl (Nat.le_of_ble_eq_true rfl) (show decode prog_15_method_99_code 26 = .ok (.invokevirtual 655, 3) by decide +kernel) h ?_
        intro q2 h
        refine dc_if_ne (pc := 29) (tgt := 34) hC (show decode prog_15_method_99_code 29 = .ok (.ifCond .ne 5, 3) by decide +kernel) (by decide +kernel) h ?_ ?_
        · intro h
          exact dc_sub [0] rfl (lab_32 S1 h)
        · intro h
          refine dc_aloadn (pc := 34) (j := 0) (i := 0) hC 0 rfl rfl (show decode prog_15_method_99_code 34 = .ok (.aload_n 0, 1) by decide +kernel) ?_
          refine dc_iconst (pc := 35) (v := 1) hC (show decode prog_15_method_99_code 35 = .ok (.iconst 1, 1) by decide +kernel) (by decide +kernel) ?_
          refine dc_iloadn (pc := 36) (j := 1) (i := 1) hC 1 rfl rfl (show decode prog_15_method_99_code 36 = .ok (.iload_n 1, 1) by decide +kernel) ?_
          refine dc_ishl (pc := 37) hC (show decode prog_15_method_99_code 37 = .ok (.ishl, 1) by decide +kernel) ?_
          refine mc_Vpi (pc := 38) (As := [.int ((1 : Int32) <<< (p1 &&& (31 : Int32)))]) (rest := []) hC vw_reactions_655 (mm_reactions_ok l D ad de o a ca S1 ((1 : Int32) <<< (p1 &&& (31 : Int32)))) (Nat.le_of_ble_eq_true rfl) (Nat.le_of_ble_eq_true rfl) rfl (Nat.le_of_ble_eq_true rfl) (show decode prog_15_method_99_code 38 = .ok (.invokevirtual 655, 3) by decide +kernel) h ?_
          intro q3 h
          refine dc_istoren (pc := 41) (j := 2) (i := 2) (lv' := [(2, .int q3), (0, .ref o), (1, .int p1)]) hC rfl (Nat.le_of_ble_eq_true rfl) rfl (show decode prog_15_method_99_code 41 = .ok (.istore_n 2, 1) by decide +kernel) ?_
          refine dc_iloadn (pc := 42) (j := 2) (i := 2) hC 0 rfl rfl (show decode prog_15_method_99_code 42 = .ok (.iload_n 2, 1) by decide +kernel) ?_
          refine dc_if_ne (pc := 43) (tgt := 50) hC (show decode prog_15_method_99_code 43 = .ok (.ifCond .ne 7, 3) by decide +kernel) (by decide +kernel) h ?_ ?_
          · intro h
            refine dc_iconst (pc := 46) (v := 0) hC (show decode prog_15_method_99_code 46 = .ok (.iconst 0, 1) by decide +kernel) (by decide +kernel) ?_
            refine dc_goto (pc := 47) (tgt := 64) hC (show decode prog_15_method_99_code 47 = .ok (.goto 17, 3) by decide +kernel) (by decide +kernel) ?_
            exact dc_sub [1] rfl (lab_64 S1 0 h)
          · intro h
            refine dc_iloadn (pc := 50) (j := 2) (i := 2) hC 0 rfl rfl (show decode prog_15_method_99_code 50 = .ok (.iload_n 2, 1) by decide +kernel) ?_
            refine dc_aloadn (pc := 51) (j := 0) (i := 0) hC 1 rfl rfl (show decode prog_15_method_99_code 51 = .ok (.aload_n 0, 1) by decide +kernel) ?_
            refine dc_iconst (pc := 52) (v := 0) hC (show decode prog_15_method_99_code 52 = .ok (.iconst 0, 1) by decide +kernel) (by decide +kernel) ?_
            refine mc_Vpi (pc := 53) (As := [.int 0]) (rest := [.int q3]) hC vw_reactions_655 (mm_reactions_ok l D ad de o a ca S1 0) (Nat.le_of_ble_eq_true rfl) (Nat.le_of_ble_eq_true rfl) rfl (Nat.le_of_ble_eq_true rfl) (show decode prog_15_method_99_code 53 = .ok (.invokevirtual 655, 3) by decide +kernel) h ?_
            intro q4 h
            refine dc_icmp_ne (pc := 56) (tgt := 63) hC (show decode prog_15_method_99_code 56 = .ok (.if_icmp .ne 7, 3) by decide +kernel) (by decide +kernel) h ?_ ?_
            · intro h
              refine dc_iconst (pc := 59) (v := 2) hC (show decode prog_15_method_99_code 59 = .ok (.iconst 2, 1) by decide +kernel) (by decide +kernel) ?_
              refine dc_goto (pc := 60) (tgt := 64) hC (show decode prog_15_method_99_code 60 = .ok (.goto 4, 3) by decide +kernel) (by decide +kernel) ?_
              exact dc_sub [1] rfl (lab_64 S1 2 h)
            · intro h
              refine dc_iconst (pc := 63) (v := 1) hC (show decode prog_15_method_99_code 63 = .ok (.iconst 1, 1) by decide +kernel) (by decide +kernel) ?_
              exact dc_sub [1] rfl (lab_64 S1 1 h)
      · intro h
        exact dc_sub [0] rfl (lab_32 S1 h)
noncomputable def mm_together_L69 (S : md_S) (y0 : Int32) : Option (md_S × Int32) :=
  some (S, y0)
noncomputable def mm_together_L49 (S : md_S) (x1 : Int32) (x2 : Int32) (y0 : Int32) : Option (md_S × Int32) :=
  if y0 = 0 then ((mm_reactions S (((1 : Int32) <<< (x1 &&& (31 : Int32))) ||| ((1 : Int32) <<< (x2 &&& (31 : Int32))))).bind fun q1 => mm_together_L69 S q1) else (mm_together_L69 S (-1))
noncomputable def mm_together_L44 (S : md_S) (x1 : Int32) (x2 : Int32) : Option (md_S × Int32) :=
  mm_together_L49 S x1 x2 1
noncomputable def mm_together (S : md_S) (p1 : Int32) (p2 : Int32) : Option (md_S × Int32) :=
  dc_let (md_i S 0 0) fun S2 => if (S2.1 85) = 0 then (mm_together_L44 S2 p1 p2) else (if p1 < 0 then (mm_together_L44 S2 p1 p2) else (if p1 < (S2.1 46) then (if p2 < 0 then (mm_together_L44 S2 p1 p2) else (if p2 < (S2.1 46) then ((mm_reactions S2 0).bind fun q3 => if q3 = 0 then (mm_together_L44 S2 p1 p2) else (mm_together_L49 S2 p1 p2 0)) else (mm_together_L44 S2 p1 p2))) else (mm_together_L44 S2 p1 p2)))
set_option maxHeartbeats 4000000 in
set_option maxRecDepth 100000 in
/-- together(II)I -/
theorem mm_together_ok (l : Launch) (D : va_G) (ad : Nat → Nat) (de : Nat) (o : Nat) (a : Nat → Nat) (ca : Nat → ClassId) (S : md_S) (p1 : Int32) (p2 : Int32) (F : (md_S × Int32) → Prop) (h : dc_wp (mm_together S p1 p2) F) : dc_Ci l ⟨"SignalEngineModel", "together", "(II)I"⟩ prog_15_method_100_code 4 (some (.int)) 1 24 D (md_T ca) ad de [.ref o, .int p1, .int p2] (md_W o a ca S) (fun r w => ∃ q, F q ∧ r = q.2 ∧ w = md_W o a ca q.1) 0 0 := by
  refine dc_enteri (by decide +kernel) (Nat.le_of_ble_eq_true rfl) ?_
  intro X hC hR
  have lab_69 : ∀ (S : md_S) (y0 : Int32), dc_wp (mm_together_L69 S y0) F → dc_G X l { frames := 1, cells := 0, slots := 0, locals := 24 } D 4 0 0 (md_W o a ca S) 69 [(0, .ref o)] [.int y0] := by
    intro S y0 h
    delta mm_together_L69 at h
    exact dc_iret (pc := 69) hC hR ⟨_, dc_some h, rfl, rfl⟩ (show decode prog_15_method_100_code 69 = .ok (.ireturn, 1) by decide +kernel)
  have lab_49 : ∀ (S : md_S) (x1 : Int32) (x2 : Int32) (y0 : Int32), dc_wp (mm_together_L49 S x1 x2 y0) F → dc_G X l { frames := 1, cells := 0, slots := 0, locals := 24 } D 4 0 0 (md_W o a ca S) 49 [(0, .ref o), (1, .int x1), (2, .int x2)] [.int y0] := by
    intro S x1 x2 y0 h
    delta mm_together_L49 at h
    refine dc_istoren (pc := 49) (j := 3) (i := 3) (lv' := [(3, .int y0), (0, .ref o), (1, .int x1), (2, .int x2)]) hC rfl (Nat.le_of_ble_eq_true rfl) rfl (show decode prog_15_method_100_code 49 = .ok (.istore_n 3, 1) by decide +kernel) ?_
    refine dc_iloadn (pc := 50) (j := 3) (i := 3) hC 0 rfl rfl (show decode prog_15_method_100_code 50 = .ok (.iload_n 3, 1) by decide +kernel) ?_
    refine dc_if_eq (pc := 51) (tgt := 58) hC (show decode prog_15_method_100_code 51 = .ok (.ifCond .eq 7, 3) by decide +kernel) (by decide +kernel) h ?_ ?_
    · intro h
      refine dc_aloadn (pc := 58) (j := 0) (i := 0) hC 1 rfl rfl (show decode prog_15_method_100_code 58 = .ok (.aload_n 0, 1) by decide +kernel) ?_
      refine dc_iconst (pc := 59) (v := 1) hC (show decode prog_15_method_100_code 59 = .ok (.iconst 1, 1) by decide +kernel) (by decide +kernel) ?_
      refine dc_iloadn (pc := 60) (j := 1) (i := 1) hC 2 rfl rfl (show decode prog_15_method_100_code 60 = .ok (.iload_n 1, 1) by decide +kernel) ?_
      refine dc_ishl (pc := 61) hC (show decode prog_15_method_100_code 61 = .ok (.ishl, 1) by decide +kernel) ?_
      refine dc_iconst (pc := 62) (v := 1) hC (show decode prog_15_method_100_code 62 = .ok (.iconst 1, 1) by decide +kernel) (by decide +kernel) ?_
      refine dc_iloadn (pc := 63) (j := 2) (i := 2) hC 3 rfl rfl (show decode prog_15_method_100_code 63 = .ok (.iload_n 2, 1) by decide +kernel) ?_
      refine dc_ishl (pc := 64) hC (show decode prog_15_method_100_code 64 = .ok (.ishl, 1) by decide +kernel) ?_
      refine dc_ior (pc := 65) hC (show decode prog_15_method_100_code 65 = .ok (.ior, 1) by decide +kernel) ?_
      refine mc_Vpi (pc := 66) (As := [.int (((1 : Int32) <<< (x1 &&& (31 : Int32))) ||| ((1 : Int32) <<< (x2 &&& (31 : Int32))))]) (rest := []) hC vw_reactions_655 (mm_reactions_ok l D ad de o a ca S (((1 : Int32) <<< (x1 &&& (31 : Int32))) ||| ((1 : Int32) <<< (x2 &&& (31 : Int32))))) (Nat.le_of_ble_eq_true rfl) (Nat.le_of_ble_eq_true rfl) rfl (Nat.le_of_ble_eq_true rfl) (show decode prog_15_method_100_code 66 = .ok (.invokevirtual 655, 3) by decide +kernel) h ?_
      intro q1 h
      exact dc_sub [1] rfl (lab_69 S q1 h)
    · intro h
      refine dc_iconst (pc := 54) (v := (-1)) hC (show decode prog_15_method_100_code 54 = .ok (.iconst (-1), 1) by decide +kernel) (by decide +kernel) ?_
      refine dc_goto (pc := 55) (tgt := 69) hC (show decode prog_15_method_100_code 55 = .ok (.goto 14, 3) by decide +kernel) (by decide +kernel) ?_
      exact dc_sub [1] rfl (lab_69 S (-1) h)
  have lab_44 : ∀ (S : md_S) (x1 : Int32) (x2 : Int32), dc_wp (mm_together_L44 S x1 x2) F → dc_G X l { frames := 1, cells := 0, slots := 0, locals := 24 } D 4 0 0 (md_W o a ca S) 44 [(0, .ref o), (1, .int x1), (2, .int x2)] [] := by
    intro S x1 x2 h
    delta mm_together_L44 at h
    refine dc_iconst (pc := 44) (v := 1) hC (show decode prog_15_method_100_code 44 = .ok (.iconst 1, 1) by decide +kernel) (by decide +kernel) ?_
    refine dc_goto (pc := 45) (tgt := 49) hC (show decode prog_15_method_100_code 45 = .ok (.goto 4, 3) by decide +kernel) (by decide +kernel) ?_
    exact lab_49 S x1 x2 1 h
  show dc_G X l { frames := 1, cells := 0, slots := 0, locals := 24 } D 4 0 0 (md_W o a ca S) 0 [(0, .ref o), (1, .int p1), (2, .int p2)] []
  delta mm_together at h
  refine dc_aloadn (pc := 0) (j := 0) (i := 0) hC 0 rfl rfl (show decode prog_15_method_100_code 0 = .ok (.aload_n 0, 1) by decide +kernel) ?_
  refine dc_iconst (pc := 1) (v := 0) hC (show decode prog_15_method_100_code 1 = .ok (.iconst 0, 1) by decide +kernel) (by decide +kernel) ?_
  refine md_p0 (pc := 2) hC (show decode prog_15_method_100_code 2 = .ok (.putfield 206, 3) by decide +kernel) ?_
  refine dc_letS h ?_
  intro S2 h
  refine dc_aloadn (pc := 5) (j := 0) (i := 0) hC 0 rfl rfl (show decode prog_15_method_100_code 5 = .ok (.aload_n 0, 1) by decide +kernel) ?_
  refine md_g85 (pc := 6) hC (show decode prog_15_method_100_code 6 = .ok (.getfield 518, 3) by decide +kernel) ?_
  refine dc_if_eq (pc := 9) (tgt := 44) hC (show decode prog_15_method_100_code 9 = .ok (.ifCond .eq 35, 3) by decide +kernel) (by decide +kernel) h ?_ ?_
  · intro h
    exact lab_44 S2 p1 p2 h
  · intro h
    refine dc_iloadn (pc := 12) (j := 1) (i := 1) hC 1 rfl rfl (show decode prog_15_method_100_code 12 = .ok (.iload_n 1, 1) by decide +kernel) ?_
    refine dc_if_lt (pc := 13) (tgt := 44) hC (show decode prog_15_method_100_code 13 = .ok (.ifCond .lt 31, 3) by decide +kernel) (by decide +kernel) h ?_ ?_
    · intro h
      exact lab_44 S2 p1 p2 h
    · intro h
      refine dc_iloadn (pc := 16) (j := 1) (i := 1) hC 1 rfl rfl (show decode prog_15_method_100_code 16 = .ok (.iload_n 1, 1) by decide +kernel) ?_
      refine dc_aloadn (pc := 17) (j := 0) (i := 0) hC 0 rfl rfl (show decode prog_15_method_100_code 17 = .ok (.aload_n 0, 1) by decide +kernel) ?_
      refine md_g46 (pc := 18) hC (show decode prog_15_method_100_code 18 = .ok (.getfield 530, 3) by decide +kernel) ?_
      refine dc_icmp_ge (pc := 21) (tgt := 44) hC (show decode prog_15_method_100_code 21 = .ok (.if_icmp .ge 23, 3) by decide +kernel) (by decide +kernel) h ?_ ?_
      · intro h
        refine dc_iloadn (pc := 24) (j := 2) (i := 2) hC 2 rfl rfl (show decode prog_15_method_100_code 24 = .ok (.iload_n 2, 1) by decide +kernel) ?_
        refine dc_if_lt (pc := 25) (tgt := 44) hC (show decode prog_15_method_100_code 25 = .ok (.ifCond .lt 19, 3) by decide +kernel) (by decide +kernel) h ?_ ?_
        · intro h
          exact lab_44 S2 p1 p2 h
        · intro h
          refine dc_iloadn (pc := 28) (j := 2) (i := 2) hC 2 rfl rfl (show decode prog_15_method_100_code 28 = .ok (.iload_n 2, 1) by decide +kernel) ?_
          refine dc_aloadn (pc := 29) (j := 0) (i := 0) hC 0 rfl rfl (show decode prog_15_method_100_code 29 = .ok (.aload_n 0, 1) by decide +kernel) ?_
          refine md_g46 (pc := 30) hC (show decode prog_15_method_100_code 30 = .ok (.getfield 530, 3) by decide +kernel) ?_
          refine dc_icmp_ge (pc := 33) (tgt := 44) hC (show decode prog_15_method_100_code 33 = .ok (.if_icmp .ge 11, 3) by decide +kernel) (by decide +kernel) h ?_ ?_
          · intro h
            refine dc_aloadn (pc := 36) (j := 0) (i := 0) hC 0 rfl rfl (show decode prog_15_method_100_code 36 = .ok (.aload_n 0, 1) by decide +kernel) ?_
            refine dc_iconst (pc := 37) (v := 0) hC (show decode prog_15_method_100_code 37 = .ok (.iconst 0, 1) by decide +kernel) (by decide +kernel) ?_
            refine mc_Vpi (pc := 38) (As := [.int 0]) (rest := []) hC vw_reactions_655 (mm_reactions_ok l D ad de o a ca S2 0) (Nat.le_of_ble_eq_true rfl) (Nat.le_of_ble_eq_true rfl) rfl (Nat.le_of_ble_eq_true rfl) (show decode prog_15_method_100_code 38 = .ok (.invokevirtual 655, 3) by decide +kernel) h ?_
            intro q3 h
            refine dc_if_ne (pc := 41) (tgt := 48) hC (show decode prog_15_method_100_code 41 = .ok (.ifCond .ne 7, 3) by decide +kernel) (by decide +kernel) h ?_ ?_
            · intro h
              exact lab_44 S2 p1 p2 h
            · intro h
              refine dc_iconst (pc := 48) (v := 0) hC (show decode prog_15_method_100_code 48 = .ok (.iconst 0, 1) by decide +kernel) (by decide +kernel) ?_
              exact lab_49 S2 p1 p2 0 h
          · intro h
            exact lab_44 S2 p1 p2 h
      · intro h
        exact lab_44 S2 p1 p2 h
noncomputable def mm_leastAlike_L59 (S : md_S) (x2 : Int32) : Option (Int32) :=
  some x2
noncomputable def mm_leastAlike_L52 (S : md_S) (x1 : Int32) (x3 : Int32) (y0 : Int32) : Option ((Int32 × Int32) ⊕ ((Int32))) :=
  some (.inl (y0, (x3 + 1)))
noncomputable def mm_leastAlike_L51 (S : md_S) (x1 : Int32) (x2 : Int32) (x3 : Int32) : Option ((Int32 × Int32) ⊕ ((Int32))) :=
  mm_leastAlike_L52 S x1 x3 x2
noncomputable def mm_leastAlike_b9 (S : md_S) (x1 : Int32) (x2 : Int32) (x3 : Int32) : Option ((Int32 × Int32) ⊕ ((Int32))) :=
  if x3 < (S.1 87) then ((dc_ix ((257 * x1) + x3) 66049).bind fun j1 => if (S.2.1 94 j1) = 0 then ((dc_ix x3 257).bind fun j2 => if (S.2.1 88 j2) < x2 then ((dc_ix x3 257).bind fun j3 => mm_leastAlike_L52 S x1 x3 (S.2.1 88 j3)) else (mm_leastAlike_L51 S x1 x2 x3)) else (mm_leastAlike_L51 S x1 x2 x3)) else (some (.inr x2))
noncomputable def mm_leastAlike_s9 (S : md_S) (x1 : Int32) (q : Int32 × Int32) : Option ((Int32 × Int32) ⊕ ((Int32))) :=
  mm_leastAlike_b9 S x1 q.1 q.2
noncomputable def mm_leastAlike_L9 (S : md_S) (x1 : Int32) (x2 : Int32) (x3 : Int32) : Option (Int32) :=
  (dc_it (mm_leastAlike_s9 S x1) (x2, x3)).bind (fun (z : Int32) => mm_leastAlike_L59 S z)
noncomputable def mm_leastAlike (S : md_S) (p1 : Int32) : Option (Int32) :=
  (dc_ix p1 257).bind fun j4 => dc_let ((S.2.1 88 j4) : Int32) fun v5 => mm_leastAlike_L9 S p1 v5 0
set_option maxHeartbeats 4000000 in
set_option maxRecDepth 100000 in
/-- leastAlike(I)I -/
theorem mm_leastAlike_ok (l : Launch) (D : va_G) (ad : Nat → Nat) (de : Nat) (o : Nat) (a : Nat → Nat) (ca : Nat → ClassId) (S : md_S) (p1 : Int32) (F : Int32 → Prop) (h : dc_wp (mm_leastAlike S p1) F) : dc_Ci l ⟨"SignalEngineModel", "leastAlike", "(I)I"⟩ prog_15_method_101_code 4 (some (.int)) 0 0 D (md_T ca) ad de [.ref o, .int p1] (md_W o a ca S) (fun r w => ∃ q, F q ∧ r = q ∧ w = (md_W o a ca S)) 0 0 := by
  refine dc_enteri (by decide +kernel) (Nat.le_of_ble_eq_true rfl) ?_
  intro X hC hR
  have lab_59 : ∀ (x2 : Int32), dc_wp (mm_leastAlike_L59 S x2) F → dc_G X l { frames := 0, cells := 0, slots := 0, locals := 0 } D 4 0 0 (md_W o a ca S) 59 [(0, .ref o), (2, .int x2)] [] := by
    intro x2 h
    delta mm_leastAlike_L59 at h
    refine dc_iloadn (pc := 59) (j := 2) (i := 2) hC 1 rfl rfl (show decode prog_15_method_101_code 59 = .ok (.iload_n 2, 1) by decide +kernel) ?_
    exact dc_iret (pc := 60) hC hR ⟨_, dc_some h, rfl, rfl⟩ (show decode prog_15_method_101_code 60 = .ok (.ireturn, 1) by decide +kernel)
  have loop_9 : ∀ (x1 : Int32) (q : Int32 × Int32), dc_wp (dc_it (mm_leastAlike_s9 S x1) q) (fun z => dc_wp ((fun (z : Int32) => mm_leastAlike_L59 S z) z) F) → dc_G X l { frames := 0, cells := 0, slots := 0, locals := 0 } D 4 0 0 (md_W o a ca S) 9 [(0, .ref o), (1, .int x1), (2, .int q.1), (3, .int q.2)] [] := by
    intro x1
    refine dc_loopF ?_
    intro F_9 hl_9 hr_9
    have lab_52 : ∀ (x3 : Int32) (y0 : Int32), dc_wp (mm_leastAlike_L52 S x1 x3 y0) F_9 → dc_G X l { frames := 0, cells := 0, slots := 0, locals := 0 } D 4 0 0 (md_W o a ca S) 52 [(0, .ref o), (1, .int x1), (3, .int x3)] [.int y0] := by
      intro x3 y0 h
      delta mm_leastAlike_L52 at h
      refine dc_istoren (pc := 52) (j := 2) (i := 2) (lv' := [(2, .int y0), (0, .ref o), (1, .int x1), (3, .int x3)]) hC rfl (Nat.le_of_ble_eq_true rfl) rfl (show decode prog_15_method_101_code 52 = .ok (.istore_n 2, 1) by decide +kernel) ?_
      refine dc_iinc (pc := 53) (i := 3) (v := (x3 + 1)) (lv' := [(3, .int (x3 + 1)), (2, .int y0), (0, .ref o), (1, .int x1)]) hC 3 rfl rfl (Nat.le_of_ble_eq_true rfl) rfl (show decode prog_15_method_101_code 53 = .ok (.iinc 3 1, 3) by decide +kernel) ?_
      refine dc_goto (pc := 56) (tgt := 9) hC (show decode prog_15_method_101_code 56 = .ok (.goto (-47), 3) by decide +kernel) (by decide +kernel) ?_
      exact dc_sub [2, 3, 1, 0] rfl (hl_9 (y0, (x3 + 1)) (dc_some h))
    have lab_51 : ∀ (x2 : Int32) (x3 : Int32), dc_wp (mm_leastAlike_L51 S x1 x2 x3) F_9 → dc_G X l { frames := 0, cells := 0, slots := 0, locals := 0 } D 4 0 0 (md_W o a ca S) 51 [(0, .ref o), (1, .int x1), (2, .int x2), (3, .int x3)] [] := by
      intro x2 x3 h
      delta mm_leastAlike_L51 at h
      refine dc_iloadn (pc := 51) (j := 2) (i := 2) hC 2 rfl rfl (show decode prog_15_method_101_code 51 = .ok (.iload_n 2, 1) by decide +kernel) ?_
      exact dc_sub [0, 1, 3] rfl (lab_52 x3 x2 h)
    rintro ⟨x2, x3⟩ h
    have h : dc_wp (mm_leastAlike_b9 S x1 x2 x3) F_9 := h
    delta mm_leastAlike_b9 at h
    refine dc_iloadn (pc := 9) (j := 3) (i := 3) hC 3 rfl rfl (show decode prog_15_method_101_code 9 = .ok (.iload_n 3, 1) by decide +kernel) ?_
    refine dc_aloadn (pc := 10) (j := 0) (i := 0) hC 0 rfl rfl (show decode prog_15_method_101_code 10 = .ok (.aload_n 0, 1) by decide +kernel) ?_
    refine md_g87 (pc := 11) hC (show decode prog_15_method_101_code 11 = .ok (.getfield 527, 3) by decide +kernel) ?_
    refine dc_icmp_ge (pc := 14) (tgt := 59) hC (show decode prog_15_method_101_code 14 = .ok (.if_icmp .ge 45, 3) by decide +kernel) (by decide +kernel) h ?_ ?_
    · intro h
      refine dc_aloadn (pc := 17) (j := 0) (i := 0) hC 0 rfl rfl (show decode prog_15_method_101_code 17 = .ok (.aload_n 0, 1) by decide +kernel) ?_
      refine md_g94 (pc := 18) hC (show decode prog_15_method_101_code 18 = .ok (.getfield 167, 3) by decide +kernel) ?_
      refine dc_sipush (pc := 21) (v := 257) hC (show decode prog_15_method_101_code 21 = .ok (.sipush 257, 3) by decide +kernel) (by decide +kernel) ?_
      refine dc_iloadn (pc := 24) (j := 1) (i := 1) hC 1 rfl rfl (show decode prog_15_method_101_code 24 = .ok (.iload_n 1, 1) by decide +kernel) ?_
      refine dc_imul (pc := 25) hC (show decode prog_15_method_101_code 25 = .ok (.imul, 1) by decide +kernel) ?_
      refine dc_iloadn (pc := 26) (j := 3) (i := 3) hC 3 rfl rfl (show decode prog_15_method_101_code 26 = .ok (.iload_n 3, 1) by decide +kernel) ?_
      refine dc_iadd (pc := 27) hC (show decode prog_15_method_101_code 27 = .ok (.iadd, 1) by decide +kernel) ?_
      refine md_l94 (pc := 28) hC (show decode prog_15_method_101_code 28 = .ok (.baload, 1) by decide +kernel) h ?_
      intro j1 h
      refine dc_if_ne (pc := 29) (tgt := 51) hC (show decode prog_15_method_101_code 29 = .ok (.ifCond .ne 22, 3) by decide +kernel) (by decide +kernel) h ?_ ?_
      · intro h
        refine dc_aloadn (pc := 32) (j := 0) (i := 0) hC 0 rfl rfl (show decode prog_15_method_101_code 32 = .ok (.aload_n 0, 1) by decide +kernel) ?_
        refine md_g88 (pc := 33) hC (show decode prog_15_method_101_code 33 = .ok (.getfield 148, 3) by decide +kernel) ?_
        refine dc_iloadn (pc := 36) (j := 3) (i := 3) hC 3 rfl rfl (show decode prog_15_method_101_code 36 = .ok (.iload_n 3, 1) by decide +kernel) ?_
        refine md_l88 (pc := 37) hC (show decode prog_15_method_101_code 37 = .ok (.iaload, 1) by decide +kernel) h ?_
        intro j2 h
        refine dc_iloadn (pc := 38) (j := 2) (i := 2) hC 2 rfl rfl (show decode prog_15_method_101_code 38 = .ok (.iload_n 2, 1) by decide +kernel) ?_
        refine dc_icmp_ge (pc := 39) (tgt := 51) hC (show decode prog_15_method_101_code 39 = .ok (.if_icmp .ge 12, 3) by decide +kernel) (by decide +kernel) h ?_ ?_
        · intro h
          refine dc_aloadn (pc := 42) (j := 0) (i := 0) hC 0 rfl rfl (show decode prog_15_method_101_code 42 = .ok (.aload_n 0, 1) by decide +kernel) ?_
          refine md_g88 (pc := 43) hC (show decode prog_15_method_101_code 43 = .ok (.getfield 148, 3) by decide +kernel) ?_
          refine dc_iloadn (pc := 46) (j := 3) (i := 3) hC 3 rfl rfl (show decode prog_15_method_101_code 46 = .ok (.iload_n 3, 1) by decide +kernel) ?_
          refine md_l88 (pc := 47) hC (show decode prog_15_method_101_code 47 = .ok (.iaload, 1) by decide +kernel) h ?_
          intro j3 h
          refine dc_goto (pc := 48) (tgt := 52) hC (show decode prog_15_method_101_code 48 = .ok (.goto 4, 3) by decide +kernel) (by decide +kernel) ?_
          exact dc_sub [0, 1, 3] rfl (lab_52 x3 (S.2.1 88 j3) h)
        · intro h
          exact lab_51 x2 x3 h
      · intro h
        exact lab_51 x2 x3 h
    · intro h
      have h : dc_wp (mm_leastAlike_L59 S x2) F := hr_9 x2 (dc_some h)
      exact dc_sub [0, 2] rfl (lab_59 x2 h)
  have lab_9 : ∀ (x1 : Int32) (x2 : Int32) (x3 : Int32), dc_wp (mm_leastAlike_L9 S x1 x2 x3) F → dc_G X l { frames := 0, cells := 0, slots := 0, locals := 0 } D 4 0 0 (md_W o a ca S) 9 [(0, .ref o), (1, .int x1), (2, .int x2), (3, .int x3)] [] := fun x1 x2 x3 h => loop_9 x1 (x2, x3) (dc_bind h)
  show dc_G X l { frames := 0, cells := 0, slots := 0, locals := 0 } D 4 0 0 (md_W o a ca S) 0 [(0, .ref o), (1, .int p1)] []
  delta mm_leastAlike at h
  refine dc_aloadn (pc := 0) (j := 0) (i := 0) hC 0 rfl rfl (show decode prog_15_method_101_code 0 = .ok (.aload_n 0, 1) by decide +kernel) ?_
  refine md_g88 (pc := 1) hC (show decode prog_15_method_101_code 1 = .ok (.getfield 148, 3) by decide +kernel) ?_
  refine dc_iloadn (pc := 4) (j := 1) (i := 1) hC 1 rfl rfl (show decode prog_15_method_101_code 4 = .ok (.iload_n 1, 1) by decide +kernel) ?_
  refine md_l88 (pc := 5) hC (show decode prog_15_method_101_code 5 = .ok (.iaload, 1) by decide +kernel) h ?_
  intro j4 h
  refine dc_letI h ?_
  intro v5 h
  refine dc_istoren (pc := 6) (j := 2) (i := 2) (lv' := [(2, .int v5), (0, .ref o), (1, .int p1)]) hC rfl (Nat.le_of_ble_eq_true rfl) rfl (show decode prog_15_method_101_code 6 = .ok (.istore_n 2, 1) by decide +kernel) ?_
  refine dc_iconst (pc := 7) (v := 0) hC (show decode prog_15_method_101_code 7 = .ok (.iconst 0, 1) by decide +kernel) (by decide +kernel) ?_
  refine dc_istoren (pc := 8) (j := 3) (i := 3) (lv' := [(3, .int 0), (2, .int v5), (0, .ref o), (1, .int p1)]) hC rfl (Nat.le_of_ble_eq_true rfl) rfl (show decode prog_15_method_101_code 8 = .ok (.istore_n 3, 1) by decide +kernel) ?_
  exact dc_sub [2, 3, 1, 0] rfl (lab_9 p1 v5 0 h)
noncomputable def mm_classes_L62 (S : md_S) (x1 : Int32) : Option (md_S × Int32) :=
  some (S, x1)
noncomputable def mm_classes_L54 (S : md_S) (x2 : Int32) (y0 : Int32) (y1 : Int32) : Option ((Int32 × Int32) ⊕ ((Int32))) :=
  dc_let ((y1 + y0) : Int32) fun v1 => some (.inl (v1, (x2 + 1)))
noncomputable def mm_classes_b26 (S : md_S) (x1 : Int32) (x2 : Int32) : Option ((Int32 × Int32) ⊕ ((Int32))) :=
  if x2 < (S.1 87) then ((mm_leastAlike S x2).bind fun q2 => (dc_ix x2 257).bind fun j3 => if q2 = (S.2.1 88 j3) then (mm_classes_L54 S x2 1 x1) else (mm_classes_L54 S x2 0 x1)) else (some (.inr x1))
noncomputable def mm_classes_s26 (S : md_S) (q : Int32 × Int32) : Option ((Int32 × Int32) ⊕ ((Int32))) :=
  mm_classes_b26 S q.1 q.2
noncomputable def mm_classes_L26 (S : md_S) (x1 : Int32) (x2 : Int32) : Option (md_S × Int32) :=
  (dc_it (mm_classes_s26 S) (x1, x2)).bind (fun (z : Int32) => mm_classes_L62 S z)
noncomputable def mm_classes_L13 (S : md_S) (y0 : Int32) : Option (md_S × Int32) :=
  (mm_fails S y0 0).bind fun q4 => if q4.2 = 0 then (mm_classes_L26 q4.1 0 0) else (some (q4.1, 0))
noncomputable def mm_classes (S : md_S) : Option (md_S × Int32) :=
  if (S.1 85) = 0 then (mm_classes_L13 S 1) else (mm_classes_L13 S 0)
set_option maxHeartbeats 4000000 in
set_option maxRecDepth 100000 in
/-- classes()I -/
theorem mm_classes_ok (l : Launch) (D : va_G) (ad : Nat → Nat) (de : Nat) (o : Nat) (a : Nat → Nat) (ca : Nat → ClassId) (S : md_S) (F : (md_S × Int32) → Prop) (h : dc_wp (mm_classes S) F) : dc_Ci l ⟨"SignalEngineModel", "classes", "()I"⟩ prog_15_method_102_code 3 (some (.int)) 1 23 D (md_T ca) ad de [.ref o] (md_W o a ca S) (fun r w => ∃ q, F q ∧ r = q.2 ∧ w = md_W o a ca q.1) 0 0 := by
  refine dc_enteri (by decide +kernel) (Nat.le_of_ble_eq_true rfl) ?_
  intro X hC hR
  have lab_62 : ∀ (S : md_S) (x1 : Int32), dc_wp (mm_classes_L62 S x1) F → dc_G X l { frames := 1, cells := 0, slots := 0, locals := 23 } D 3 0 0 (md_W o a ca S) 62 [(0, .ref o), (1, .int x1)] [] := by
    intro S x1 h
    delta mm_classes_L62 at h
    refine dc_iloadn (pc := 62) (j := 1) (i := 1) hC 1 rfl rfl (show decode prog_15_method_102_code 62 = .ok (.iload_n 1, 1) by decide +kernel) ?_
    exact dc_iret (pc := 63) hC hR ⟨_, dc_some h, rfl, rfl⟩ (show decode prog_15_method_102_code 63 = .ok (.ireturn, 1) by decide +kernel)
  have loop_26 : ∀ (S : md_S) (q : Int32 × Int32), dc_wp (dc_it (mm_classes_s26 S) q) (fun z => dc_wp ((fun (z : Int32) => mm_classes_L62 S z) z) F) → dc_G X l { frames := 1, cells := 0, slots := 0, locals := 23 } D 3 0 0 (md_W o a ca S) 26 [(0, .ref o), (1, .int q.1), (2, .int q.2)] [] := by
    intro S 
    refine dc_loopF ?_
    intro F_26 hl_26 hr_26
    have lab_54 : ∀ (x2 : Int32) (y0 : Int32) (y1 : Int32), dc_wp (mm_classes_L54 S x2 y0 y1) F_26 → dc_G X l { frames := 1, cells := 0, slots := 0, locals := 23 } D 3 0 0 (md_W o a ca S) 54 [(0, .ref o), (2, .int x2)] [.int y0, .int y1] := by
      intro x2 y0 y1 h
      delta mm_classes_L54 at h
      refine dc_iadd (pc := 54) hC (show decode prog_15_method_102_code 54 = .ok (.iadd, 1) by decide +kernel) ?_
      refine dc_letI h ?_
      intro v1 h
      refine dc_istoren (pc := 55) (j := 1) (i := 1) (lv' := [(1, .int v1), (0, .ref o), (2, .int x2)]) hC rfl (Nat.le_of_ble_eq_true rfl) rfl (show decode prog_15_method_102_code 55 = .ok (.istore_n 1, 1) by decide +kernel) ?_
      refine dc_iinc (pc := 56) (i := 2) (v := (x2 + 1)) (lv' := [(2, .int (x2 + 1)), (1, .int v1), (0, .ref o)]) hC 2 rfl rfl (Nat.le_of_ble_eq_true rfl) rfl (show decode prog_15_method_102_code 56 = .ok (.iinc 2 1, 3) by decide +kernel) ?_
      refine dc_goto (pc := 59) (tgt := 26) hC (show decode prog_15_method_102_code 59 = .ok (.goto (-33), 3) by decide +kernel) (by decide +kernel) ?_
      exact dc_sub [2, 1, 0] rfl (hl_26 (v1, (x2 + 1)) (dc_some h))
    rintro ⟨x1, x2⟩ h
    have h : dc_wp (mm_classes_b26 S x1 x2) F_26 := h
    delta mm_classes_b26 at h
    refine dc_iloadn (pc := 26) (j := 2) (i := 2) hC 2 rfl rfl (show decode prog_15_method_102_code 26 = .ok (.iload_n 2, 1) by decide +kernel) ?_
    refine dc_aloadn (pc := 27) (j := 0) (i := 0) hC 0 rfl rfl (show decode prog_15_method_102_code 27 = .ok (.aload_n 0, 1) by decide +kernel) ?_
    refine md_g87 (pc := 28) hC (show decode prog_15_method_102_code 28 = .ok (.getfield 527, 3) by decide +kernel) ?_
    refine dc_icmp_ge (pc := 31) (tgt := 62) hC (show decode prog_15_method_102_code 31 = .ok (.if_icmp .ge 31, 3) by decide +kernel) (by decide +kernel) h ?_ ?_
    · intro h
      refine dc_iloadn (pc := 34) (j := 1) (i := 1) hC 1 rfl rfl (show decode prog_15_method_102_code 34 = .ok (.iload_n 1, 1) by decide +kernel) ?_
      refine dc_aloadn (pc := 35) (j := 0) (i := 0) hC 0 rfl rfl (show decode prog_15_method_102_code 35 = .ok (.aload_n 0, 1) by decide +kernel) ?_
      refine dc_iloadn (pc := 36) (j := 2) (i := 2) hC 2 rfl rfl (show decode prog_15_method_102_code 36 = .ok (.iload_n 2, 1) by decide +kernel) ?_
      refine mc_Vpi (pc := 37) (As := [.int x2]) (rest := [.int x1]) hC vw_leastAlike_657 (mm_leastAlike_ok l D ad de o a ca S x2) (Nat.le_of_ble_eq_true rfl) (Nat.le_of_ble_eq_true rfl) rfl (Nat.le_of_ble_eq_true rfl) (show decode prog_15_method_102_code 37 = .ok (.invokevirtual 657, 3) by decide +kernel) h ?_
      intro q2 h
      refine dc_aloadn (pc := 40) (j := 0) (i := 0) hC 0 rfl rfl (show decode prog_15_method_102_code 40 = .ok (.aload_n 0, 1) by decide +kernel) ?_
      refine md_g88 (pc := 41) hC (show decode prog_15_method_102_code 41 = .ok (.getfield 148, 3) by decide +kernel) ?_
      refine dc_iloadn (pc := 44) (j := 2) (i := 2) hC 2 rfl rfl (show decode prog_15_method_102_code 44 = .ok (.iload_n 2, 1) by decide +kernel) ?_
      refine md_l88 (pc := 45) hC (show decode prog_15_method_102_code 45 = .ok (.iaload, 1) by decide +kernel) h ?_
      intro j3 h
      refine dc_icmp_ne (pc := 46) (tgt := 53) hC (show decode prog_15_method_102_code 46 = .ok (.if_icmp .ne 7, 3) by decide +kernel) (by decide +kernel) h ?_ ?_
      · intro h
        refine dc_iconst (pc := 49) (v := 1) hC (show decode prog_15_method_102_code 49 = .ok (.iconst 1, 1) by decide +kernel) (by decide +kernel) ?_
        refine dc_goto (pc := 50) (tgt := 54) hC (show decode prog_15_method_102_code 50 = .ok (.goto 4, 3) by decide +kernel) (by decide +kernel) ?_
        exact dc_sub [0, 2] rfl (lab_54 x2 1 x1 h)
      · intro h
        refine dc_iconst (pc := 53) (v := 0) hC (show decode prog_15_method_102_code 53 = .ok (.iconst 0, 1) by decide +kernel) (by decide +kernel) ?_
        exact dc_sub [0, 2] rfl (lab_54 x2 0 x1 h)
    · intro h
      have h : dc_wp (mm_classes_L62 S x1) F := hr_26 x1 (dc_some h)
      exact dc_sub [0, 1] rfl (lab_62 S x1 h)
  have lab_26 : ∀ (S : md_S) (x1 : Int32) (x2 : Int32), dc_wp (mm_classes_L26 S x1 x2) F → dc_G X l { frames := 1, cells := 0, slots := 0, locals := 23 } D 3 0 0 (md_W o a ca S) 26 [(0, .ref o), (1, .int x1), (2, .int x2)] [] := fun S x1 x2 h => loop_26 S  (x1, x2) (dc_bind h)
  have lab_13 : ∀ (S : md_S) (y0 : Int32), dc_wp (mm_classes_L13 S y0) F → dc_G X l { frames := 1, cells := 0, slots := 0, locals := 23 } D 3 0 0 (md_W o a ca S) 13 [(0, .ref o)] [.int y0, .ref o] := by
    intro S y0 h
    delta mm_classes_L13 at h
    refine dc_iconst (pc := 13) (v := 0) hC (show decode prog_15_method_102_code 13 = .ok (.iconst 0, 1) by decide +kernel) (by decide +kernel) ?_
    refine mc_Vmi (pc := 14) (As := [.int y0, .int 0]) (rest := []) hC vw_fails_615 (mm_fails_ok l D ad de o a ca S y0 0) (Nat.le_of_ble_eq_true rfl) (Nat.le_of_ble_eq_true rfl) rfl (Nat.le_of_ble_eq_true rfl) (show decode prog_15_method_102_code 14 = .ok (.invokevirtual 615, 3) by decide +kernel) h ?_
    intro q4 h
    refine dc_if_eq (pc := 17) (tgt := 22) hC (show decode prog_15_method_102_code 17 = .ok (.ifCond .eq 5, 3) by decide +kernel) (by decide +kernel) h ?_ ?_
    · intro h
      refine dc_iconst (pc := 22) (v := 0) hC (show decode prog_15_method_102_code 22 = .ok (.iconst 0, 1) by decide +kernel) (by decide +kernel) ?_
      refine dc_istoren (pc := 23) (j := 1) (i := 1) (lv' := [(1, .int 0), (0, .ref o)]) hC rfl (Nat.le_of_ble_eq_true rfl) rfl (show decode prog_15_method_102_code 23 = .ok (.istore_n 1, 1) by decide +kernel) ?_
      refine dc_iconst (pc := 24) (v := 0) hC (show decode prog_15_method_102_code 24 = .ok (.iconst 0, 1) by decide +kernel) (by decide +kernel) ?_
      refine dc_istoren (pc := 25) (j := 2) (i := 2) (lv' := [(2, .int 0), (1, .int 0), (0, .ref o)]) hC rfl (Nat.le_of_ble_eq_true rfl) rfl (show decode prog_15_method_102_code 25 = .ok (.istore_n 2, 1) by decide +kernel) ?_
      exact dc_sub [2, 1, 0] rfl (lab_26 q4.1 0 0 h)
    · intro h
      refine dc_iconst (pc := 20) (v := 0) hC (show decode prog_15_method_102_code 20 = .ok (.iconst 0, 1) by decide +kernel) (by decide +kernel) ?_
      exact dc_iret (pc := 21) hC hR ⟨_, dc_some h, rfl, rfl⟩ (show decode prog_15_method_102_code 21 = .ok (.ireturn, 1) by decide +kernel)
  show dc_G X l { frames := 1, cells := 0, slots := 0, locals := 23 } D 3 0 0 (md_W o a ca S) 0 [(0, .ref o)] []
  delta mm_classes at h
  refine dc_aloadn (pc := 0) (j := 0) (i := 0) hC 0 rfl rfl (show decode prog_15_method_102_code 0 = .ok (.aload_n 0, 1) by decide +kernel) ?_
  refine dc_aloadn (pc := 1) (j := 0) (i := 0) hC 0 rfl rfl (show decode prog_15_method_102_code 1 = .ok (.aload_n 0, 1) by decide +kernel) ?_
  refine md_g85 (pc := 2) hC (show decode prog_15_method_102_code 2 = .ok (.getfield 518, 3) by decide +kernel) ?_
  refine dc_if_ne (pc := 5) (tgt := 12) hC (show decode prog_15_method_102_code 5 = .ok (.ifCond .ne 7, 3) by decide +kernel) (by decide +kernel) h ?_ ?_
  · intro h
    refine dc_iconst (pc := 8) (v := 1) hC (show decode prog_15_method_102_code 8 = .ok (.iconst 1, 1) by decide +kernel) (by decide +kernel) ?_
    refine dc_goto (pc := 9) (tgt := 13) hC (show decode prog_15_method_102_code 9 = .ok (.goto 4, 3) by decide +kernel) (by decide +kernel) ?_
    exact lab_13 S 1 h
  · intro h
    refine dc_iconst (pc := 12) (v := 0) hC (show decode prog_15_method_102_code 12 = .ok (.iconst 0, 1) by decide +kernel) (by decide +kernel) ?_
    exact lab_13 S 0 h
noncomputable def mm_alike_L25 (S : md_S) (y0 : Int32) : Option (md_S × Int32) :=
  some (S, y0)
noncomputable def mm_alike (S : md_S) (p1 : Int32) : Option (md_S × Int32) :=
  dc_let (md_i S 0 0) fun S1 => (mm_placeOf S1 p1).bind fun q2 => if q2 = (-1) then (mm_alike_L25 S1 (-1)) else ((mm_leastAlike S1 q2).bind fun q3 => mm_alike_L25 S1 q3)
set_option maxHeartbeats 4000000 in
set_option maxRecDepth 100000 in
/-- alike(I)I -/
theorem mm_alike_ok (l : Launch) (D : va_G) (ad : Nat → Nat) (de : Nat) (o : Nat) (a : Nat → Nat) (ca : Nat → ClassId) (S : md_S) (p1 : Int32) (F : (md_S × Int32) → Prop) (h : dc_wp (mm_alike S p1) F) : dc_Ci l ⟨"SignalEngineModel", "alike", "(I)I"⟩ prog_15_method_103_code 3 (some (.int)) 2 43 D (md_T ca) ad de [.ref o, .int p1] (md_W o a ca S) (fun r w => ∃ q, F q ∧ r = q.2 ∧ w = md_W o a ca q.1) 0 0 := by
  refine dc_enteri (by decide +kernel) (Nat.le_of_ble_eq_true rfl) ?_
  intro X hC hR
  have lab_25 : ∀ (S : md_S) (y0 : Int32), dc_wp (mm_alike_L25 S y0) F → dc_G X l { frames := 2, cells := 0, slots := 0, locals := 43 } D 3 0 0 (md_W o a ca S) 25 [(0, .ref o)] [.int y0] := by
    intro S y0 h
    delta mm_alike_L25 at h
    exact dc_iret (pc := 25) hC hR ⟨_, dc_some h, rfl, rfl⟩ (show decode prog_15_method_103_code 25 = .ok (.ireturn, 1) by decide +kernel)
  show dc_G X l { frames := 2, cells := 0, slots := 0, locals := 43 } D 3 0 0 (md_W o a ca S) 0 [(0, .ref o), (1, .int p1)] []
  delta mm_alike at h
  refine dc_aloadn (pc := 0) (j := 0) (i := 0) hC 0 rfl rfl (show decode prog_15_method_103_code 0 = .ok (.aload_n 0, 1) by decide +kernel) ?_
  refine dc_iconst (pc := 1) (v := 0) hC (show decode prog_15_method_103_code 1 = .ok (.iconst 0, 1) by decide +kernel) (by decide +kernel) ?_
  refine md_p0 (pc := 2) hC (show decode prog_15_method_103_code 2 = .ok (.putfield 206, 3) by decide +kernel) ?_
  refine dc_letS h ?_
  intro S1 h
  refine dc_aloadn (pc := 5) (j := 0) (i := 0) hC 0 rfl rfl (show decode prog_15_method_103_code 5 = .ok (.aload_n 0, 1) by decide +kernel) ?_
  refine dc_iloadn (pc := 6) (j := 1) (i := 1) hC 1 rfl rfl (show decode prog_15_method_103_code 6 = .ok (.iload_n 1, 1) by decide +kernel) ?_
  refine mc_Vpi (pc := 7) (As := [.int p1]) (rest := []) hC vw_placeOf_648 (mm_placeOf_ok l D ad de o a ca S1 p1) (Nat.le_of_ble_eq_true rfl) (Nat.le_of_ble_eq_true rfl) rfl (Nat.le_of_ble_eq_true rfl) (show decode prog_15_method_103_code 7 = .ok (.invokevirtual 648, 3) by decide +kernel) h ?_
  intro q2 h
  refine dc_istoren (pc := 10) (j := 2) (i := 2) (lv' := [(2, .int q2), (0, .ref o), (1, .int p1)]) hC rfl (Nat.le_of_ble_eq_true rfl) rfl (show decode prog_15_method_103_code 10 = .ok (.istore_n 2, 1) by decide +kernel) ?_
  refine dc_iloadn (pc := 11) (j := 2) (i := 2) hC 0 rfl rfl (show decode prog_15_method_103_code 11 = .ok (.iload_n 2, 1) by decide +kernel) ?_
  refine dc_iconst (pc := 12) (v := (-1)) hC (show decode prog_15_method_103_code 12 = .ok (.iconst (-1), 1) by decide +kernel) (by decide +kernel) ?_
  refine dc_icmp_ne (pc := 13) (tgt := 20) hC (show decode prog_15_method_103_code 13 = .ok (.if_icmp .ne 7, 3) by decide +kernel) (by decide +kernel) h ?_ ?_
  · intro h
    refine dc_iconst (pc := 16) (v := (-1)) hC (show decode prog_15_method_103_code 16 = .ok (.iconst (-1), 1) by decide +kernel) (by decide +kernel) ?_
    refine dc_goto (pc := 17) (tgt := 25) hC (show decode prog_15_method_103_code 17 = .ok (.goto 8, 3) by decide +kernel) (by decide +kernel) ?_
    exact dc_sub [1] rfl (lab_25 S1 (-1) h)
  · intro h
    refine dc_aloadn (pc := 20) (j := 0) (i := 0) hC 1 rfl rfl (show decode prog_15_method_103_code 20 = .ok (.aload_n 0, 1) by decide +kernel) ?_
    refine dc_iloadn (pc := 21) (j := 2) (i := 2) hC 0 rfl rfl (show decode prog_15_method_103_code 21 = .ok (.iload_n 2, 1) by decide +kernel) ?_
    refine mc_Vpi (pc := 22) (As := [.int q2]) (rest := []) hC vw_leastAlike_657 (mm_leastAlike_ok l D ad de o a ca S1 q2) (Nat.le_of_ble_eq_true rfl) (Nat.le_of_ble_eq_true rfl) rfl (Nat.le_of_ble_eq_true rfl) (show decode prog_15_method_103_code 22 = .ok (.invokevirtual 657, 3) by decide +kernel) h ?_
    intro q3 h
    exact dc_sub [1] rfl (lab_25 S1 q3 h)
noncomputable def mm_tables_L264 (S : md_S) : Option (md_S) :=
  some S
noncomputable def mm_tables_L257 (S : md_S) (x1 : Int32) (y0 : Int64) (y1 : Int32) : Option ((md_S × Int32) ⊕ ((md_S))) :=
  (dc_ix y1 8192).bind fun j1 => dc_let (md_t S j1 y0) fun S2 => some (.inl (S2, (x1 + 1)))
noncomputable def mm_tables_L225 (S : md_S) (x1 : Int32) (x5 : Int32) (x6 : Int64) : Option ((md_S × Int32) ⊕ ((md_S))) :=
  if x5 = 257 then (mm_tables_L257 S x1 (x6 ||| ((1 : Int64) <<< (Int32.toInt64 ((S.1 46) + (S.1 47)) &&& 63))) x1) else (mm_tables_L257 S x1 x6 x1)
noncomputable def mm_tables_L208 (S : md_S) (x1 : Int32) (x5 : Int32) (x8 : Int32) (y0 : Int64) (y1 : Int64) : Option ((Int64 × Int32) ⊕ ((Int64))) :=
  dc_let ((y1 ||| (y0 <<< (Int32.toInt64 ((S.1 46) + x8) &&& 63))) : Int64) fun v3 => some (.inl (v3, (x8 + 1)))
noncomputable def mm_tables_L207 (S : md_S) (x1 : Int32) (x5 : Int32) (x8 : Int32) (y0 : Int64) : Option ((Int64 × Int32) ⊕ ((Int64))) :=
  mm_tables_L208 S x1 x5 x8 0 y0
noncomputable def mm_tables_b167 (S : md_S) (x1 : Int32) (x5 : Int32) (x6 : Int64) (x8 : Int32) : Option ((Int64 × Int32) ⊕ ((Int64))) :=
  if x8 < (S.1 47) then (if x5 = (-1) then (some (.inr x6)) else (if x5 = 257 then (mm_tables_L207 S x1 x5 x8 x6) else (if ((x5 >>> (x8 &&& (31 : Int32))) &&& 1) = 1 then (mm_tables_L208 S x1 x5 x8 1 x6) else (mm_tables_L207 S x1 x5 x8 x6)))) else (some (.inr x6))
noncomputable def mm_tables_s167 (S : md_S) (x1 : Int32) (x5 : Int32) (q : Int64 × Int32) : Option ((Int64 × Int32) ⊕ ((Int64))) :=
  mm_tables_b167 S x1 x5 q.1 q.2
noncomputable def mm_tables_L167 (S : md_S) (x1 : Int32) (x5 : Int32) (x6 : Int64) (x8 : Int32) : Option ((md_S × Int32) ⊕ ((md_S))) :=
  (dc_it (mm_tables_s167 S x1 x5) (x6, x8)).bind (fun (z : Int64) => mm_tables_L225 S x1 x5 z)
noncomputable def mm_tables_L162 (S : md_S) (x1 : Int32) (x5 : Int32) (y0 : Int64) : Option ((md_S × Int32) ⊕ ((md_S))) :=
  mm_tables_L167 S x1 x5 y0 0
noncomputable def mm_tables_L137 (S : md_S) (x1 : Int32) (x3 : Int32) (x4 : Int32) (y0 : Int32) : Option ((md_S × Int32) ⊕ ((md_S))) :=
  if y0 = (-1) then (mm_tables_L162 S x1 y0 0) else ((dc_ix ((16 * x4) + x3) 4112).bind fun j4 => mm_tables_L162 S x1 y0 (Int32.toInt64 (S.2.1 93 j4)))
noncomputable def mm_tables_L121 (S : md_S) (x1 : Int32) (x3 : Int32) (x4 : Int32) : Option ((md_S × Int32) ⊕ ((md_S))) :=
  mm_tables_L137 S x1 x3 x4 (-1)
noncomputable def mm_tables_L103 (S : md_S) (x1 : Int32) (x3 : Int32) (y0 : Int32) : Option ((md_S × Int32) ⊕ ((md_S))) :=
  if y0 = (-1) then (mm_tables_L121 S x1 x3 y0) else (if x3 < ((1 : Int32) <<< ((S.1 45) &&& (31 : Int32))) then ((dc_ix ((16 * y0) + x3) 4112).bind fun j5 => mm_tables_L137 S x1 x3 y0 (S.2.1 92 j5)) else (mm_tables_L121 S x1 x3 y0))
noncomputable def mm_tables_L73 (S : md_S) (x1 : Int32) (x2 : Int32) (x3 : Int32) : Option ((md_S × Int32) ⊕ ((md_S))) :=
  if x1 < 4096 then ((mm_find S x2).bind fun q6 => mm_tables_L103 S x1 x3 q6) else (if x2 = 0 then ((mm_find S 256).bind fun q7 => mm_tables_L103 S x1 x3 q7) else (mm_tables_L103 S x1 x3 (-1)))
noncomputable def mm_tables_b47 (S : md_S) (x1 : Int32) (x2 : Int32) (x3 : Int32) (x4 : Int32) : Option ((Int32 × Int32) ⊕ ((Int32))) :=
  if x4 < 4 then (dc_let ((x3 ||| (((x1 >>> ((3 - x4) &&& (31 : Int32))) &&& 1) <<< (x4 &&& (31 : Int32)))) : Int32) fun v8 => some (.inl (v8, (x4 + 1)))) else (some (.inr x3))
noncomputable def mm_tables_s47 (S : md_S) (x1 : Int32) (x2 : Int32) (q : Int32 × Int32) : Option ((Int32 × Int32) ⊕ ((Int32))) :=
  mm_tables_b47 S x1 x2 q.1 q.2
noncomputable def mm_tables_L47 (S : md_S) (x1 : Int32) (x2 : Int32) (x3 : Int32) (x4 : Int32) : Option ((md_S × Int32) ⊕ ((md_S))) :=
  (dc_it (mm_tables_s47 S x1 x2) (x3, x4)).bind (fun (z : Int32) => mm_tables_L73 S x1 x2 z)
noncomputable def mm_tables_L44 (S : md_S) (x1 : Int32) (x2 : Int32) (x3 : Int32) : Option ((md_S × Int32) ⊕ ((md_S))) :=
  mm_tables_L47 S x1 x2 x3 0
noncomputable def mm_tables_b16 (S : md_S) (x1 : Int32) (x2 : Int32) (x3 : Int32) (x4 : Int32) : Option ((Int32 × Int32) ⊕ ((Int32))) :=
  if x4 < 8 then (dc_let ((x2 ||| (((x1 >>> ((11 - x4) &&& (31 : Int32))) &&& 1) <<< (x4 &&& (31 : Int32)))) : Int32) fun v9 => some (.inl (v9, (x4 + 1)))) else (some (.inr x2))
noncomputable def mm_tables_s16 (S : md_S) (x1 : Int32) (x3 : Int32) (q : Int32 × Int32) : Option ((Int32 × Int32) ⊕ ((Int32))) :=
  mm_tables_b16 S x1 q.1 x3 q.2
noncomputable def mm_tables_L16 (S : md_S) (x1 : Int32) (x2 : Int32) (x3 : Int32) (x4 : Int32) : Option ((md_S × Int32) ⊕ ((md_S))) :=
  (dc_it (mm_tables_s16 S x1 x3) (x2, x4)).bind (fun (z : Int32) => mm_tables_L44 S x1 z x3)
noncomputable def mm_tables_b2 (S : md_S) (x1 : Int32) : Option ((md_S × Int32) ⊕ ((md_S))) :=
  if x1 < 8192 then (mm_tables_L16 S x1 0 0 0) else (some (.inr S))
noncomputable def mm_tables_s2 (q : md_S × Int32) : Option ((md_S × Int32) ⊕ ((md_S))) :=
  mm_tables_b2 q.1 q.2
noncomputable def mm_tables_L2 (S : md_S) (x1 : Int32) : Option (md_S) :=
  (dc_it (mm_tables_s2) (S, x1)).bind (fun (z : md_S) => mm_tables_L264 z)
noncomputable def mm_tables (S : md_S) : Option (md_S) :=
  mm_tables_L2 S 0
set_option maxHeartbeats 4000000 in
set_option maxRecDepth 100000 in
/-- tables()V -/
theorem mm_tables_ok (l : Launch) (D : va_G) (ad : Nat → Nat) (de : Nat) (o : Nat) (a : Nat → Nat) (ca : Nat → ClassId) (S : md_S) (F : md_S → Prop) (h : dc_wp (mm_tables S) F) : dc_Cv l ⟨"SignalEngineModel", "tables", "()V"⟩ prog_15_method_104_code 9 none 1 22 D (md_T ca) ad de [.ref o] (md_W o a ca S) (fun w => ∃ q, F q ∧ w = md_W o a ca q) 0 0 := by
  refine dc_enterv (by decide +kernel) (Nat.le_of_ble_eq_true rfl) ?_
  intro X hC hR
  have lab_264 : ∀ (S : md_S), dc_wp (mm_tables_L264 S) F → dc_G X l { frames := 1, cells := 0, slots := 0, locals := 22 } D 9 0 0 (md_W o a ca S) 264 [(0, .ref o)] [] := by
    intro S  h
    delta mm_tables_L264 at h
    exact dc_vret (pc := 264) hC hR ⟨_, dc_some h, rfl⟩ (show decode prog_15_method_104_code 264 = .ok (.return_, 1) by decide +kernel)
  have loop_2 : ∀ (q : md_S × Int32), dc_wp (dc_it (mm_tables_s2) q) (fun z => dc_wp ((fun (z : md_S) => mm_tables_L264 z) z) F) → dc_G X l { frames := 1, cells := 0, slots := 0, locals := 22 } D 9 0 0 (md_W o a ca q.1) 2 [(0, .ref o), (1, .int q.2)] [] := by
    refine dc_loopF ?_
    intro F_2 hl_2 hr_2
    have lab_257 : ∀ (S : md_S) (x1 : Int32) (y0 : Int64) (y1 : Int32), dc_wp (mm_tables_L257 S x1 y0 y1) F_2 → dc_G X l { frames := 1, cells := 0, slots := 0, locals := 22 } D 9 0 0 (md_W o a ca S) 257 [(0, .ref o), (1, .int x1)] [.long y0, .int y1, .ref (a 98)] := by
      intro S x1 y0 y1 h
      delta mm_tables_L257 at h
      refine md_s98 (pc := 257) hC (show decode prog_15_method_104_code 257 = .ok (.lastore, 1) by decide +kernel) h ?_
      intro j1 h
      refine dc_letS h ?_
      intro S2 h
      refine dc_iinc (pc := 258) (i := 1) (v := (x1 + 1)) (lv' := [(1, .int (x1 + 1)), (0, .ref o)]) hC 1 rfl rfl (Nat.le_of_ble_eq_true rfl) rfl (show decode prog_15_method_104_code 258 = .ok (.iinc 1 1, 3) by decide +kernel) ?_
      refine dc_goto (pc := 261) (tgt := 2) hC (show decode prog_15_method_104_code 261 = .ok (.goto (-259), 3) by decide +kernel) (by decide +kernel) ?_
      exact dc_sub [1, 0] rfl (hl_2 (S2, (x1 + 1)) (dc_some h))
    have lab_225 : ∀ (S : md_S) (x1 : Int32) (x5 : Int32) (x6 : Int64), dc_wp (mm_tables_L225 S x1 x5 x6) F_2 → dc_G X l { frames := 1, cells := 0, slots := 0, locals := 22 } D 9 0 0 (md_W o a ca S) 225 [(0, .ref o), (1, .int x1), (5, .int x5), (6, .long x6)] [] := by
      intro S x1 x5 x6 h
      delta mm_tables_L225 at h
      refine dc_aloadn (pc := 225) (j := 0) (i := 0) hC 0 rfl rfl (show decode prog_15_method_104_code 225 = .ok (.aload_n 0, 1) by decide +kernel) ?_
      refine md_g98 (pc := 226) hC (show decode prog_15_method_104_code 226 = .ok (.getfield 180, 3) by decide +kernel) ?_
      refine dc_iloadn (pc := 229) (j := 1) (i := 1) hC 1 rfl rfl (show decode prog_15_method_104_code 229 = .ok (.iload_n 1, 1) by decide +kernel) ?_
      refine dc_iload (pc := 230) (i := 5) hC 2 rfl (show decode prog_15_method_104_code 230 = .ok (.iload 5, 2) by decide +kernel) ?_
      refine dc_sipush (pc := 232) (v := 257) hC (show decode prog_15_method_104_code 232 = .ok (.sipush 257, 3) by decide +kernel) (by decide +kernel) ?_
      refine dc_icmp_ne (pc := 235) (tgt := 255) hC (show decode prog_15_method_104_code 235 = .ok (.if_icmp .ne 20, 3) by decide +kernel) (by decide +kernel) h ?_ ?_
      · intro h
        refine dc_lload (pc := 238) (i := 6) hC 3 rfl (show decode prog_15_method_104_code 238 = .ok (.lload 6, 2) by decide +kernel) ?_
        refine dc_lconst (pc := 240) (v := 1) hC (show decode prog_15_method_104_code 240 = .ok (.lconst 1, 1) by decide +kernel) (by decide +kernel) ?_
        refine dc_aloadn (pc := 241) (j := 0) (i := 0) hC 0 rfl rfl (show decode prog_15_method_104_code 241 = .ok (.aload_n 0, 1) by decide +kernel) ?_
        refine md_g46 (pc := 242) hC (show decode prog_15_method_104_code 242 = .ok (.getfield 530, 3) by decide +kernel) ?_
        refine dc_aloadn (pc := 245) (j := 0) (i := 0) hC 0 rfl rfl (show decode prog_15_method_104_code 245 = .ok (.aload_n 0, 1) by decide +kernel) ?_
        refine md_g47 (pc := 246) hC (show decode prog_15_method_104_code 246 = .ok (.getfield 498, 3) by decide +kernel) ?_
        refine dc_iadd (pc := 249) hC (show decode prog_15_method_104_code 249 = .ok (.iadd, 1) by decide +kernel) ?_
        refine dc_lshl (pc := 250) hC (show decode prog_15_method_104_code 250 = .ok (.lshl, 1) by decide +kernel) ?_
        refine dc_lor (pc := 251) hC (show decode prog_15_method_104_code 251 = .ok (.lor, 1) by decide +kernel) ?_
        refine dc_goto (pc := 252) (tgt := 257) hC (show decode prog_15_method_104_code 252 = .ok (.goto 5, 3) by decide +kernel) (by decide +kernel) ?_
        exact dc_sub [0, 1] rfl (lab_257 S x1 (x6 ||| ((1 : Int64) <<< (Int32.toInt64 ((S.1 46) + (S.1 47)) &&& 63))) x1 h)
      · intro h
        refine dc_lload (pc := 255) (i := 6) hC 3 rfl (show decode prog_15_method_104_code 255 = .ok (.lload 6, 2) by decide +kernel) ?_
        exact dc_sub [0, 1] rfl (lab_257 S x1 x6 x1 h)
    have loop_167 : ∀ (S : md_S) (x1 : Int32) (x5 : Int32) (q : Int64 × Int32), dc_wp (dc_it (mm_tables_s167 S x1 x5) q) (fun z => dc_wp ((fun (z : Int64) => mm_tables_L225 S x1 x5 z) z) F_2) → dc_G X l { frames := 1, cells := 0, slots := 0, locals := 22 } D 9 0 0 (md_W o a ca S) 167 [(0, .ref o), (1, .int x1), (5, .int x5), (6, .long q.1), (8, .int q.2)] [] := by
      intro S x1 x5
      refine dc_loopF ?_
      intro F_167 hl_167 hr_167
      have lab_208 : ∀ (x8 : Int32) (y0 : Int64) (y1 : Int64), dc_wp (mm_tables_L208 S x1 x5 x8 y0 y1) F_167 → dc_G X l { frames := 1, cells := 0, slots := 0, locals := 22 } D 9 0 0 (md_W o a ca S) 208 [(0, .ref o), (1, .int x1), (5, .int x5), (8, .int x8)] [.long y0, .long y1] := by
        intro x8 y0 y1 h
        delta mm_tables_L208 at h
        refine dc_aloadn (pc := 208) (j := 0) (i := 0) hC 0 rfl rfl (show decode prog_15_method_104_code 208 = .ok (.aload_n 0, 1) by decide +kernel) ?_
        refine md_g46 (pc := 209) hC (show decode prog_15_method_104_code 209 = .ok (.getfield 530, 3) by decide +kernel) ?_
        refine dc_iload (pc := 212) (i := 8) hC 3 rfl (show decode prog_15_method_104_code 212 = .ok (.iload 8, 2) by decide +kernel) ?_
        refine dc_iadd (pc := 214) hC (show decode prog_15_method_104_code 214 = .ok (.iadd, 1) by decide +kernel) ?_
        refine dc_lshl (pc := 215) hC (show decode prog_15_method_104_code 215 = .ok (.lshl, 1) by decide +kernel) ?_
        refine dc_lor (pc := 216) hC (show decode prog_15_method_104_code 216 = .ok (.lor, 1) by decide +kernel) ?_
        refine dc_letL h ?_
        intro v3 h
        refine dc_lstore (pc := 217) (i := 6) (lv' := [(6, .long v3), (0, .ref o), (1, .int x1), (5, .int x5), (8, .int x8)]) hC (Nat.le_of_ble_eq_true rfl) rfl (show decode prog_15_method_104_code 217 = .ok (.lstore 6, 2) by decide +kernel) ?_
        refine dc_iinc (pc := 219) (i := 8) (v := (x8 + 1)) (lv' := [(8, .int (x8 + 1)), (6, .long v3), (0, .ref o), (1, .int x1), (5, .int x5)]) hC 4 rfl rfl (Nat.le_of_ble_eq_true rfl) rfl (show decode prog_15_method_104_code 219 = .ok (.iinc 8 1, 3) by decide +kernel) ?_
        refine dc_goto (pc := 222) (tgt := 167) hC (show decode prog_15_method_104_code 222 = .ok (.goto (-55), 3) by decide +kernel) (by decide +kernel) ?_
        exact dc_sub [2, 3, 4, 1, 0] rfl (hl_167 (v3, (x8 + 1)) (dc_some h))
      have lab_207 : ∀ (x8 : Int32) (y0 : Int64), dc_wp (mm_tables_L207 S x1 x5 x8 y0) F_167 → dc_G X l { frames := 1, cells := 0, slots := 0, locals := 22 } D 9 0 0 (md_W o a ca S) 207 [(0, .ref o), (1, .int x1), (5, .int x5), (8, .int x8)] [.long y0] := by
        intro x8 y0 h
        delta mm_tables_L207 at h
        refine dc_lconst (pc := 207) (v := 0) hC (show decode prog_15_method_104_code 207 = .ok (.lconst 0, 1) by decide +kernel) (by decide +kernel) ?_
        exact lab_208 x8 0 y0 h
      rintro ⟨x6, x8⟩ h
      have h : dc_wp (mm_tables_b167 S x1 x5 x6 x8) F_167 := h
      delta mm_tables_b167 at h
      refine dc_iload (pc := 167) (i := 8) hC 4 rfl (show decode prog_15_method_104_code 167 = .ok (.iload 8, 2) by decide +kernel) ?_
      refine dc_aloadn (pc := 169) (j := 0) (i := 0) hC 0 rfl rfl (show decode prog_15_method_104_code 169 = .ok (.aload_n 0, 1) by decide +kernel) ?_
      refine md_g47 (pc := 170) hC (show decode prog_15_method_104_code 170 = .ok (.getfield 498, 3) by decide +kernel) ?_
      refine dc_icmp_ge (pc := 173) (tgt := 225) hC (show decode prog_15_method_104_code 173 = .ok (.if_icmp .ge 52, 3) by decide +kernel) (by decide +kernel) h ?_ ?_
      · intro h
        refine dc_iload (pc := 176) (i := 5) hC 2 rfl (show decode prog_15_method_104_code 176 = .ok (.iload 5, 2) by decide +kernel) ?_
        refine dc_iconst (pc := 178) (v := (-1)) hC (show decode prog_15_method_104_code 178 = .ok (.iconst (-1), 1) by decide +kernel) (by decide +kernel) ?_
        refine dc_icmp_eq (pc := 179) (tgt := 225) hC (show decode prog_15_method_104_code 179 = .ok (.if_icmp .eq 46, 3) by decide +kernel) (by decide +kernel) h ?_ ?_
        · intro h
          have h : dc_wp (mm_tables_L225 S x1 x5 x6) F_2 := hr_167 x6 (dc_some h)
          exact dc_sub [0, 1, 2, 3] rfl (lab_225 S x1 x5 x6 h)
        · intro h
          refine dc_lload (pc := 182) (i := 6) hC 3 rfl (show decode prog_15_method_104_code 182 = .ok (.lload 6, 2) by decide +kernel) ?_
          refine dc_iload (pc := 184) (i := 5) hC 2 rfl (show decode prog_15_method_104_code 184 = .ok (.iload 5, 2) by decide +kernel) ?_
          refine dc_sipush (pc := 186) (v := 257) hC (show decode prog_15_method_104_code 186 = .ok (.sipush 257, 3) by decide +kernel) (by decide +kernel) ?_
          refine dc_icmp_eq (pc := 189) (tgt := 207) hC (show decode prog_15_method_104_code 189 = .ok (.if_icmp .eq 18, 3) by decide +kernel) (by decide +kernel) h ?_ ?_
          · intro h
            exact dc_sub [0, 1, 2, 4] rfl (lab_207 x8 x6 h)
          · intro h
            refine dc_iload (pc := 192) (i := 5) hC 2 rfl (show decode prog_15_method_104_code 192 = .ok (.iload 5, 2) by decide +kernel) ?_
            refine dc_iload (pc := 194) (i := 8) hC 4 rfl (show decode prog_15_method_104_code 194 = .ok (.iload 8, 2) by decide +kernel) ?_
            refine dc_ishr (pc := 196) hC (show decode prog_15_method_104_code 196 = .ok (.ishr, 1) by decide +kernel) ?_
            refine dc_iconst (pc := 197) (v := 1) hC (show decode prog_15_method_104_code 197 = .ok (.iconst 1, 1) by decide +kernel) (by decide +kernel) ?_
            refine dc_iand (pc := 198) hC (show decode prog_15_method_104_code 198 = .ok (.iand, 1) by decide +kernel) ?_
            refine dc_iconst (pc := 199) (v := 1) hC (show decode prog_15_method_104_code 199 = .ok (.iconst 1, 1) by decide +kernel) (by decide +kernel) ?_
            refine dc_icmp_ne (pc := 200) (tgt := 207) hC (show decode prog_15_method_104_code 200 = .ok (.if_icmp .ne 7, 3) by decide +kernel) (by decide +kernel) h ?_ ?_
            · intro h
              refine dc_lconst (pc := 203) (v := 1) hC (show decode prog_15_method_104_code 203 = .ok (.lconst 1, 1) by decide +kernel) (by decide +kernel) ?_
              refine dc_goto (pc := 204) (tgt := 208) hC (show decode prog_15_method_104_code 204 = .ok (.goto 4, 3) by decide +kernel) (by decide +kernel) ?_
              exact dc_sub [0, 1, 2, 4] rfl (lab_208 x8 1 x6 h)
            · intro h
              exact dc_sub [0, 1, 2, 4] rfl (lab_207 x8 x6 h)
      · intro h
        have h : dc_wp (mm_tables_L225 S x1 x5 x6) F_2 := hr_167 x6 (dc_some h)
        exact dc_sub [0, 1, 2, 3] rfl (lab_225 S x1 x5 x6 h)
    have lab_167 : ∀ (S : md_S) (x1 : Int32) (x5 : Int32) (x6 : Int64) (x8 : Int32), dc_wp (mm_tables_L167 S x1 x5 x6 x8) F_2 → dc_G X l { frames := 1, cells := 0, slots := 0, locals := 22 } D 9 0 0 (md_W o a ca S) 167 [(0, .ref o), (1, .int x1), (5, .int x5), (6, .long x6), (8, .int x8)] [] := fun S x1 x5 x6 x8 h => loop_167 S x1 x5 (x6, x8) (dc_bind h)
    have lab_162 : ∀ (S : md_S) (x1 : Int32) (x5 : Int32) (y0 : Int64), dc_wp (mm_tables_L162 S x1 x5 y0) F_2 → dc_G X l { frames := 1, cells := 0, slots := 0, locals := 22 } D 9 0 0 (md_W o a ca S) 162 [(0, .ref o), (1, .int x1), (5, .int x5)] [.long y0] := by
      intro S x1 x5 y0 h
      delta mm_tables_L162 at h
      refine dc_lstore (pc := 162) (i := 6) (lv' := [(6, .long y0), (0, .ref o), (1, .int x1), (5, .int x5)]) hC (Nat.le_of_ble_eq_true rfl) rfl (show decode prog_15_method_104_code 162 = .ok (.lstore 6, 2) by decide +kernel) ?_
      refine dc_iconst (pc := 164) (v := 0) hC (show decode prog_15_method_104_code 164 = .ok (.iconst 0, 1) by decide +kernel) (by decide +kernel) ?_
      refine dc_istore (pc := 165) (i := 8) (lv' := [(8, .int 0), (6, .long y0), (0, .ref o), (1, .int x1), (5, .int x5)]) hC (Nat.le_of_ble_eq_true rfl) rfl (show decode prog_15_method_104_code 165 = .ok (.istore 8, 2) by decide +kernel) ?_
      exact dc_sub [2, 3, 4, 1, 0] rfl (lab_167 S x1 x5 y0 0 h)
    have lab_137 : ∀ (S : md_S) (x1 : Int32) (x3 : Int32) (x4 : Int32) (y0 : Int32), dc_wp (mm_tables_L137 S x1 x3 x4 y0) F_2 → dc_G X l { frames := 1, cells := 0, slots := 0, locals := 22 } D 9 0 0 (md_W o a ca S) 137 [(0, .ref o), (1, .int x1), (3, .int x3), (4, .int x4)] [.int y0] := by
      intro S x1 x3 x4 y0 h
      delta mm_tables_L137 at h
      refine dc_istore (pc := 137) (i := 5) (lv' := [(5, .int y0), (0, .ref o), (1, .int x1), (3, .int x3), (4, .int x4)]) hC (Nat.le_of_ble_eq_true rfl) rfl (show decode prog_15_method_104_code 137 = .ok (.istore 5, 2) by decide +kernel) ?_
      refine dc_iload (pc := 139) (i := 5) hC 0 rfl (show decode prog_15_method_104_code 139 = .ok (.iload 5, 2) by decide +kernel) ?_
      refine dc_iconst (pc := 141) (v := (-1)) hC (show decode prog_15_method_104_code 141 = .ok (.iconst (-1), 1) by decide +kernel) (by decide +kernel) ?_
      refine dc_icmp_ne (pc := 142) (tgt := 149) hC (show decode prog_15_method_104_code 142 = .ok (.if_icmp .ne 7, 3) by decide +kernel) (by decide +kernel) h ?_ ?_
      · intro h
        refine dc_lconst (pc := 145) (v := 0) hC (show decode prog_15_method_104_code 145 = .ok (.lconst 0, 1) by decide +kernel) (by decide +kernel) ?_
        refine dc_goto (pc := 146) (tgt := 162) hC (show decode prog_15_method_104_code 146 = .ok (.goto 16, 3) by decide +kernel) (by decide +kernel) ?_
        exact dc_sub [1, 2, 0] rfl (lab_162 S x1 y0 0 h)
      · intro h
        refine dc_aloadn (pc := 149) (j := 0) (i := 0) hC 1 rfl rfl (show decode prog_15_method_104_code 149 = .ok (.aload_n 0, 1) by decide +kernel) ?_
        refine md_g93 (pc := 150) hC (show decode prog_15_method_104_code 150 = .ok (.getfield 163, 3) by decide +kernel) ?_
        refine dc_bipush (pc := 153) (v := 16) hC (show decode prog_15_method_104_code 153 = .ok (.bipush 16, 2) by decide +kernel) (by decide +kernel) ?_
        refine dc_iload (pc := 155) (i := 4) hC 4 rfl (show decode prog_15_method_104_code 155 = .ok (.iload 4, 2) by decide +kernel) ?_
        refine dc_imul (pc := 157) hC (show decode prog_15_method_104_code 157 = .ok (.imul, 1) by decide +kernel) ?_
        refine dc_iloadn (pc := 158) (j := 3) (i := 3) hC 3 rfl rfl (show decode prog_15_method_104_code 158 = .ok (.iload_n 3, 1) by decide +kernel) ?_
        refine dc_iadd (pc := 159) hC (show decode prog_15_method_104_code 159 = .ok (.iadd, 1) by decide +kernel) ?_
        refine md_l93 (pc := 160) hC (show decode prog_15_method_104_code 160 = .ok (.iaload, 1) by decide +kernel) h ?_
        intro j4 h
        refine dc_i2l (pc := 161) hC (show decode prog_15_method_104_code 161 = .ok (.i2l, 1) by decide +kernel) ?_
        exact dc_sub [1, 2, 0] rfl (lab_162 S x1 y0 (Int32.toInt64 (S.2.1 93 j4)) h)
    have lab_121 : ∀ (S : md_S) (x1 : Int32) (x3 : Int32) (x4 : Int32), dc_wp (mm_tables_L121 S x1 x3 x4) F_2 → dc_G X l { frames := 1, cells := 0, slots := 0, locals := 22 } D 9 0 0 (md_W o a ca S) 121 [(0, .ref o), (1, .int x1), (3, .int x3), (4, .int x4)] [] := by
      intro S x1 x3 x4 h
      delta mm_tables_L121 at h
      refine dc_iconst (pc := 121) (v := (-1)) hC (show decode prog_15_method_104_code 121 = .ok (.iconst (-1), 1) by decide +kernel) (by decide +kernel) ?_
      refine dc_goto (pc := 122) (tgt := 137) hC (show decode prog_15_method_104_code 122 = .ok (.goto 15, 3) by decide +kernel) (by decide +kernel) ?_
      exact lab_137 S x1 x3 x4 (-1) h
    have lab_103 : ∀ (S : md_S) (x1 : Int32) (x3 : Int32) (y0 : Int32), dc_wp (mm_tables_L103 S x1 x3 y0) F_2 → dc_G X l { frames := 1, cells := 0, slots := 0, locals := 22 } D 9 0 0 (md_W o a ca S) 103 [(0, .ref o), (1, .int x1), (3, .int x3)] [.int y0] := by
      intro S x1 x3 y0 h
      delta mm_tables_L103 at h
      refine dc_istore (pc := 103) (i := 4) (lv' := [(4, .int y0), (0, .ref o), (1, .int x1), (3, .int x3)]) hC (Nat.le_of_ble_eq_true rfl) rfl (show decode prog_15_method_104_code 103 = .ok (.istore 4, 2) by decide +kernel) ?_
      refine dc_iload (pc := 105) (i := 4) hC 0 rfl (show decode prog_15_method_104_code 105 = .ok (.iload 4, 2) by decide +kernel) ?_
      refine dc_iconst (pc := 107) (v := (-1)) hC (show decode prog_15_method_104_code 107 = .ok (.iconst (-1), 1) by decide +kernel) (by decide +kernel) ?_
      refine dc_icmp_eq (pc := 108) (tgt := 121) hC (show decode prog_15_method_104_code 108 = .ok (.if_icmp .eq 13, 3) by decide +kernel) (by decide +kernel) h ?_ ?_
      · intro h
        exact dc_sub [1, 2, 3, 0] rfl (lab_121 S x1 x3 y0 h)
      · intro h
        refine dc_iloadn (pc := 111) (j := 3) (i := 3) hC 3 rfl rfl (show decode prog_15_method_104_code 111 = .ok (.iload_n 3, 1) by decide +kernel) ?_
        refine dc_iconst (pc := 112) (v := 1) hC (show decode prog_15_method_104_code 112 = .ok (.iconst 1, 1) by decide +kernel) (by decide +kernel) ?_
        refine dc_aloadn (pc := 113) (j := 0) (i := 0) hC 1 rfl rfl (show decode prog_15_method_104_code 113 = .ok (.aload_n 0, 1) by decide +kernel) ?_
        refine md_g45 (pc := 114) hC (show decode prog_15_method_104_code 114 = .ok (.getfield 533, 3) by decide +kernel) ?_
        refine dc_ishl (pc := 117) hC (show decode prog_15_method_104_code 117 = .ok (.ishl, 1) by decide +kernel) ?_
        refine dc_icmp_lt (pc := 118) (tgt := 125) hC (show decode prog_15_method_104_code 118 = .ok (.if_icmp .lt 7, 3) by decide +kernel) (by decide +kernel) h ?_ ?_
        · intro h
          refine dc_aloadn (pc := 125) (j := 0) (i := 0) hC 1 rfl rfl (show decode prog_15_method_104_code 125 = .ok (.aload_n 0, 1) by decide +kernel) ?_
          refine md_g92 (pc := 126) hC (show decode prog_15_method_104_code 126 = .ok (.getfield 160, 3) by decide +kernel) ?_
          refine dc_bipush (pc := 129) (v := 16) hC (show decode prog_15_method_104_code 129 = .ok (.bipush 16, 2) by decide +kernel) (by decide +kernel) ?_
          refine dc_iload (pc := 131) (i := 4) hC 0 rfl (show decode prog_15_method_104_code 131 = .ok (.iload 4, 2) by decide +kernel) ?_
          refine dc_imul (pc := 133) hC (show decode prog_15_method_104_code 133 = .ok (.imul, 1) by decide +kernel) ?_
          refine dc_iloadn (pc := 134) (j := 3) (i := 3) hC 3 rfl rfl (show decode prog_15_method_104_code 134 = .ok (.iload_n 3, 1) by decide +kernel) ?_
          refine dc_iadd (pc := 135) hC (show decode prog_15_method_104_code 135 = .ok (.iadd, 1) by decide +kernel) ?_
          refine md_l92 (pc := 136) hC (show decode prog_15_method_104_code 136 = .ok (.iaload, 1) by decide +kernel) h ?_
          intro j5 h
          exact dc_sub [1, 2, 3, 0] rfl (lab_137 S x1 x3 y0 (S.2.1 92 j5) h)
        · intro h
          exact dc_sub [1, 2, 3, 0] rfl (lab_121 S x1 x3 y0 h)
    have lab_73 : ∀ (S : md_S) (x1 : Int32) (x2 : Int32) (x3 : Int32), dc_wp (mm_tables_L73 S x1 x2 x3) F_2 → dc_G X l { frames := 1, cells := 0, slots := 0, locals := 22 } D 9 0 0 (md_W o a ca S) 73 [(0, .ref o), (1, .int x1), (2, .int x2), (3, .int x3)] [] := by
      intro S x1 x2 x3 h
      delta mm_tables_L73 at h
      refine dc_iloadn (pc := 73) (j := 1) (i := 1) hC 1 rfl rfl (show decode prog_15_method_104_code 73 = .ok (.iload_n 1, 1) by decide +kernel) ?_
      refine dc_sipush (pc := 74) (v := 4096) hC (show decode prog_15_method_104_code 74 = .ok (.sipush 4096, 3) by decide +kernel) (by decide +kernel) ?_
      refine dc_icmp_ge (pc := 77) (tgt := 88) hC (show decode prog_15_method_104_code 77 = .ok (.if_icmp .ge 11, 3) by decide +kernel) (by decide +kernel) h ?_ ?_
      · intro h
        refine dc_aloadn (pc := 80) (j := 0) (i := 0) hC 0 rfl rfl (show decode prog_15_method_104_code 80 = .ok (.aload_n 0, 1) by decide +kernel) ?_
        refine dc_iloadn (pc := 81) (j := 2) (i := 2) hC 2 rfl rfl (show decode prog_15_method_104_code 81 = .ok (.iload_n 2, 1) by decide +kernel) ?_
        refine mc_Vpi (pc := 82) (As := [.int x2]) (rest := []) hC vw_find_631 (mm_find_ok l D ad de o a ca S x2) (Nat.le_of_ble_eq_true rfl) (Nat.le_of_ble_eq_true rfl) rfl (Nat.le_of_ble_eq_true rfl) (show decode prog_15_method_104_code 82 = .ok (.invokevirtual 631, 3) by decide +kernel) h ?_
        intro q6 h
        refine dc_goto (pc := 85) (tgt := 103) hC (show decode prog_15_method_104_code 85 = .ok (.goto 18, 3) by decide +kernel) (by decide +kernel) ?_
        exact dc_sub [0, 1, 3] rfl (lab_103 S x1 x3 q6 h)
      · intro h
        refine dc_iloadn (pc := 88) (j := 2) (i := 2) hC 2 rfl rfl (show decode prog_15_method_104_code 88 = .ok (.iload_n 2, 1) by decide +kernel) ?_
        refine dc_if_ne (pc := 89) (tgt := 102) hC (show decode prog_15_method_104_code 89 = .ok (.ifCond .ne 13, 3) by decide +kernel) (by decide +kernel) h ?_ ?_
        · intro h
          refine dc_aloadn (pc := 92) (j := 0) (i := 0) hC 0 rfl rfl (show decode prog_15_method_104_code 92 = .ok (.aload_n 0, 1) by decide +kernel) ?_
          refine dc_sipush (pc := 93) (v := 256) hC (show decode prog_15_method_104_code 93 = .ok (.sipush 256, 3) by decide +kernel) (by decide +kernel) ?_
          refine mc_Vpi (pc := 96) (As := [.int 256]) (rest := []) hC vw_find_631 (mm_find_ok l D ad de o a ca S 256) (Nat.le_of_ble_eq_true rfl) (Nat.le_of_ble_eq_true rfl) rfl (Nat.le_of_ble_eq_true rfl) (show decode prog_15_method_104_code 96 = .ok (.invokevirtual 631, 3) by decide +kernel) h ?_
          intro q7 h
          refine dc_goto (pc := 99) (tgt := 103) hC (show decode prog_15_method_104_code 99 = .ok (.goto 4, 3) by decide +kernel) (by decide +kernel) ?_
          exact dc_sub [0, 1, 3] rfl (lab_103 S x1 x3 q7 h)
        · intro h
          refine dc_iconst (pc := 102) (v := (-1)) hC (show decode prog_15_method_104_code 102 = .ok (.iconst (-1), 1) by decide +kernel) (by decide +kernel) ?_
          exact dc_sub [0, 1, 3] rfl (lab_103 S x1 x3 (-1) h)
    have loop_47 : ∀ (S : md_S) (x1 : Int32) (x2 : Int32) (q : Int32 × Int32), dc_wp (dc_it (mm_tables_s47 S x1 x2) q) (fun z => dc_wp ((fun (z : Int32) => mm_tables_L73 S x1 x2 z) z) F_2) → dc_G X l { frames := 1, cells := 0, slots := 0, locals := 22 } D 9 0 0 (md_W o a ca S) 47 [(0, .ref o), (1, .int x1), (2, .int x2), (3, .int q.1), (4, .int q.2)] [] := by
      intro S x1 x2
      refine dc_loopF ?_
      intro F_47 hl_47 hr_47
      rintro ⟨x3, x4⟩ h
      have h : dc_wp (mm_tables_b47 S x1 x2 x3 x4) F_47 := h
      delta mm_tables_b47 at h
      refine dc_iload (pc := 47) (i := 4) hC 4 rfl (show decode prog_15_method_104_code 47 = .ok (.iload 4, 2) by decide +kernel) ?_
      refine dc_iconst (pc := 49) (v := 4) hC (show decode prog_15_method_104_code 49 = .ok (.iconst 4, 1) by decide +kernel) (by decide +kernel) ?_
      refine dc_icmp_ge (pc := 50) (tgt := 73) hC (show decode prog_15_method_104_code 50 = .ok (.if_icmp .ge 23, 3) by decide +kernel) (by decide +kernel) h ?_ ?_
      · intro h
        refine dc_iloadn (pc := 53) (j := 3) (i := 3) hC 3 rfl rfl (show decode prog_15_method_104_code 53 = .ok (.iload_n 3, 1) by decide +kernel) ?_
        refine dc_iloadn (pc := 54) (j := 1) (i := 1) hC 1 rfl rfl (show decode prog_15_method_104_code 54 = .ok (.iload_n 1, 1) by decide +kernel) ?_
        refine dc_iconst (pc := 55) (v := 3) hC (show decode prog_15_method_104_code 55 = .ok (.iconst 3, 1) by decide +kernel) (by decide +kernel) ?_
        refine dc_iload (pc := 56) (i := 4) hC 4 rfl (show decode prog_15_method_104_code 56 = .ok (.iload 4, 2) by decide +kernel) ?_
        refine dc_isub (pc := 58) hC (show decode prog_15_method_104_code 58 = .ok (.isub, 1) by decide +kernel) ?_
        refine dc_ishr (pc := 59) hC (show decode prog_15_method_104_code 59 = .ok (.ishr, 1) by decide +kernel) ?_
        refine dc_iconst (pc := 60) (v := 1) hC (show decode prog_15_method_104_code 60 = .ok (.iconst 1, 1) by decide +kernel) (by decide +kernel) ?_
        refine dc_iand (pc := 61) hC (show decode prog_15_method_104_code 61 = .ok (.iand, 1) by decide +kernel) ?_
        refine dc_iload (pc := 62) (i := 4) hC 4 rfl (show decode prog_15_method_104_code 62 = .ok (.iload 4, 2) by decide +kernel) ?_
        refine dc_ishl (pc := 64) hC (show decode prog_15_method_104_code 64 = .ok (.ishl, 1) by decide +kernel) ?_
        refine dc_ior (pc := 65) hC (show decode prog_15_method_104_code 65 = .ok (.ior, 1) by decide +kernel) ?_
        refine dc_letI h ?_
        intro v8 h
        refine dc_istoren (pc := 66) (j := 3) (i := 3) (lv' := [(3, .int v8), (0, .ref o), (1, .int x1), (2, .int x2), (4, .int x4)]) hC rfl (Nat.le_of_ble_eq_true rfl) rfl (show decode prog_15_method_104_code 66 = .ok (.istore_n 3, 1) by decide +kernel) ?_
        refine dc_iinc (pc := 67) (i := 4) (v := (x4 + 1)) (lv' := [(4, .int (x4 + 1)), (3, .int v8), (0, .ref o), (1, .int x1), (2, .int x2)]) hC 4 rfl rfl (Nat.le_of_ble_eq_true rfl) rfl (show decode prog_15_method_104_code 67 = .ok (.iinc 4 1, 3) by decide +kernel) ?_
        refine dc_goto (pc := 70) (tgt := 47) hC (show decode prog_15_method_104_code 70 = .ok (.goto (-23), 3) by decide +kernel) (by decide +kernel) ?_
        exact dc_sub [2, 3, 4, 1, 0] rfl (hl_47 (v8, (x4 + 1)) (dc_some h))
      · intro h
        have h : dc_wp (mm_tables_L73 S x1 x2 x3) F_2 := hr_47 x3 (dc_some h)
        exact dc_sub [0, 1, 2, 3] rfl (lab_73 S x1 x2 x3 h)
    have lab_47 : ∀ (S : md_S) (x1 : Int32) (x2 : Int32) (x3 : Int32) (x4 : Int32), dc_wp (mm_tables_L47 S x1 x2 x3 x4) F_2 → dc_G X l { frames := 1, cells := 0, slots := 0, locals := 22 } D 9 0 0 (md_W o a ca S) 47 [(0, .ref o), (1, .int x1), (2, .int x2), (3, .int x3), (4, .int x4)] [] := fun S x1 x2 x3 x4 h => loop_47 S x1 x2 (x3, x4) (dc_bind h)
    have lab_44 : ∀ (S : md_S) (x1 : Int32) (x2 : Int32) (x3 : Int32), dc_wp (mm_tables_L44 S x1 x2 x3) F_2 → dc_G X l { frames := 1, cells := 0, slots := 0, locals := 22 } D 9 0 0 (md_W o a ca S) 44 [(0, .ref o), (1, .int x1), (2, .int x2), (3, .int x3)] [] := by
      intro S x1 x2 x3 h
      delta mm_tables_L44 at h
      refine dc_iconst (pc := 44) (v := 0) hC (show decode prog_15_method_104_code 44 = .ok (.iconst 0, 1) by decide +kernel) (by decide +kernel) ?_
      refine dc_istore (pc := 45) (i := 4) (lv' := [(4, .int 0), (0, .ref o), (1, .int x1), (2, .int x2), (3, .int x3)]) hC (Nat.le_of_ble_eq_true rfl) rfl (show decode prog_15_method_104_code 45 = .ok (.istore 4, 2) by decide +kernel) ?_
      exact dc_sub [1, 2, 3, 4, 0] rfl (lab_47 S x1 x2 x3 0 h)
    have loop_16 : ∀ (S : md_S) (x1 : Int32) (x3 : Int32) (q : Int32 × Int32), dc_wp (dc_it (mm_tables_s16 S x1 x3) q) (fun z => dc_wp ((fun (z : Int32) => mm_tables_L44 S x1 z x3) z) F_2) → dc_G X l { frames := 1, cells := 0, slots := 0, locals := 22 } D 9 0 0 (md_W o a ca S) 16 [(0, .ref o), (1, .int x1), (2, .int q.1), (3, .int x3), (4, .int q.2)] [] := by
      intro S x1 x3
      refine dc_loopF ?_
      intro F_16 hl_16 hr_16
      rintro ⟨x2, x4⟩ h
      have h : dc_wp (mm_tables_b16 S x1 x2 x3 x4) F_16 := h
      delta mm_tables_b16 at h
      refine dc_iload (pc := 16) (i := 4) hC 4 rfl (show decode prog_15_method_104_code 16 = .ok (.iload 4, 2) by decide +kernel) ?_
      refine dc_bipush (pc := 18) (v := 8) hC (show decode prog_15_method_104_code 18 = .ok (.bipush 8, 2) by decide +kernel) (by decide +kernel) ?_
      refine dc_icmp_ge (pc := 20) (tgt := 44) hC (show decode prog_15_method_104_code 20 = .ok (.if_icmp .ge 24, 3) by decide +kernel) (by decide +kernel) h ?_ ?_
      · intro h
        refine dc_iloadn (pc := 23) (j := 2) (i := 2) hC 2 rfl rfl (show decode prog_15_method_104_code 23 = .ok (.iload_n 2, 1) by decide +kernel) ?_
        refine dc_iloadn (pc := 24) (j := 1) (i := 1) hC 1 rfl rfl (show decode prog_15_method_104_code 24 = .ok (.iload_n 1, 1) by decide +kernel) ?_
        refine dc_bipush (pc := 25) (v := 11) hC (show decode prog_15_method_104_code 25 = .ok (.bipush 11, 2) by decide +kernel) (by decide +kernel) ?_
        refine dc_iload (pc := 27) (i := 4) hC 4 rfl (show decode prog_15_method_104_code 27 = .ok (.iload 4, 2) by decide +kernel) ?_
        refine dc_isub (pc := 29) hC (show decode prog_15_method_104_code 29 = .ok (.isub, 1) by decide +kernel) ?_
        refine dc_ishr (pc := 30) hC (show decode prog_15_method_104_code 30 = .ok (.ishr, 1) by decide +kernel) ?_
        refine dc_iconst (pc := 31) (v := 1) hC (show decode prog_15_method_104_code 31 = .ok (.iconst 1, 1) by decide +kernel) (by decide +kernel) ?_
        refine dc_iand (pc := 32) hC (show decode prog_15_method_104_code 32 = .ok (.iand, 1) by decide +kernel) ?_
        refine dc_iload (pc := 33) (i := 4) hC 4 rfl (show decode prog_15_method_104_code 33 = .ok (.iload 4, 2) by decide +kernel) ?_
        refine dc_ishl (pc := 35) hC (show decode prog_15_method_104_code 35 = .ok (.ishl, 1) by decide +kernel) ?_
        refine dc_ior (pc := 36) hC (show decode prog_15_method_104_code 36 = .ok (.ior, 1) by decide +kernel) ?_
        refine dc_letI h ?_
        intro v9 h
        refine dc_istoren (pc := 37) (j := 2) (i := 2) (lv' := [(2, .int v9), (0, .ref o), (1, .int x1), (3, .int x3), (4, .int x4)]) hC rfl (Nat.le_of_ble_eq_true rfl) rfl (show decode prog_15_method_104_code 37 = .ok (.istore_n 2, 1) by decide +kernel) ?_
        refine dc_iinc (pc := 38) (i := 4) (v := (x4 + 1)) (lv' := [(4, .int (x4 + 1)), (2, .int v9), (0, .ref o), (1, .int x1), (3, .int x3)]) hC 4 rfl rfl (Nat.le_of_ble_eq_true rfl) rfl (show decode prog_15_method_104_code 38 = .ok (.iinc 4 1, 3) by decide +kernel) ?_
        refine dc_goto (pc := 41) (tgt := 16) hC (show decode prog_15_method_104_code 41 = .ok (.goto (-25), 3) by decide +kernel) (by decide +kernel) ?_
        exact dc_sub [2, 3, 1, 4, 0] rfl (hl_16 (v9, (x4 + 1)) (dc_some h))
      · intro h
        have h : dc_wp (mm_tables_L44 S x1 x2 x3) F_2 := hr_16 x2 (dc_some h)
        exact dc_sub [0, 1, 2, 3] rfl (lab_44 S x1 x2 x3 h)
    have lab_16 : ∀ (S : md_S) (x1 : Int32) (x2 : Int32) (x3 : Int32) (x4 : Int32), dc_wp (mm_tables_L16 S x1 x2 x3 x4) F_2 → dc_G X l { frames := 1, cells := 0, slots := 0, locals := 22 } D 9 0 0 (md_W o a ca S) 16 [(0, .ref o), (1, .int x1), (2, .int x2), (3, .int x3), (4, .int x4)] [] := fun S x1 x2 x3 x4 h => loop_16 S x1 x3 (x2, x4) (dc_bind h)
    rintro ⟨S, x1⟩ h
    have h : dc_wp (mm_tables_b2 S x1) F_2 := h
    delta mm_tables_b2 at h
    refine dc_iloadn (pc := 2) (j := 1) (i := 1) hC 1 rfl rfl (show decode prog_15_method_104_code 2 = .ok (.iload_n 1, 1) by decide +kernel) ?_
    refine dc_sipush (pc := 3) (v := 8192) hC (show decode prog_15_method_104_code 3 = .ok (.sipush 8192, 3) by decide +kernel) (by decide +kernel) ?_
    refine dc_icmp_ge (pc := 6) (tgt := 264) hC (show decode prog_15_method_104_code 6 = .ok (.if_icmp .ge 258, 3) by decide +kernel) (by decide +kernel) h ?_ ?_
    · intro h
      refine dc_iconst (pc := 9) (v := 0) hC (show decode prog_15_method_104_code 9 = .ok (.iconst 0, 1) by decide +kernel) (by decide +kernel) ?_
      refine dc_istoren (pc := 10) (j := 2) (i := 2) (lv' := [(2, .int 0), (0, .ref o), (1, .int x1)]) hC rfl (Nat.le_of_ble_eq_true rfl) rfl (show decode prog_15_method_104_code 10 = .ok (.istore_n 2, 1) by decide +kernel) ?_
      refine dc_iconst (pc := 11) (v := 0) hC (show decode prog_15_method_104_code 11 = .ok (.iconst 0, 1) by decide +kernel) (by decide +kernel) ?_
      refine dc_istoren (pc := 12) (j := 3) (i := 3) (lv' := [(3, .int 0), (2, .int 0), (0, .ref o), (1, .int x1)]) hC rfl (Nat.le_of_ble_eq_true rfl) rfl (show decode prog_15_method_104_code 12 = .ok (.istore_n 3, 1) by decide +kernel) ?_
      refine dc_iconst (pc := 13) (v := 0) hC (show decode prog_15_method_104_code 13 = .ok (.iconst 0, 1) by decide +kernel) (by decide +kernel) ?_
      refine dc_istore (pc := 14) (i := 4) (lv' := [(4, .int 0), (3, .int 0), (2, .int 0), (0, .ref o), (1, .int x1)]) hC (Nat.le_of_ble_eq_true rfl) rfl (show decode prog_15_method_104_code 14 = .ok (.istore 4, 2) by decide +kernel) ?_
      exact dc_sub [3, 4, 2, 1, 0] rfl (lab_16 S x1 0 0 0 h)
    · intro h
      have h : dc_wp (mm_tables_L264 S) F := hr_2 S (dc_some h)
      exact dc_sub [0] rfl (lab_264 S h)
  have lab_2 : ∀ (S : md_S) (x1 : Int32), dc_wp (mm_tables_L2 S x1) F → dc_G X l { frames := 1, cells := 0, slots := 0, locals := 22 } D 9 0 0 (md_W o a ca S) 2 [(0, .ref o), (1, .int x1)] [] := fun S x1 h => loop_2  (S, x1) (dc_bind h)
  show dc_G X l { frames := 1, cells := 0, slots := 0, locals := 22 } D 9 0 0 (md_W o a ca S) 0 [(0, .ref o)] []
  delta mm_tables at h
  refine dc_iconst (pc := 0) (v := 0) hC (show decode prog_15_method_104_code 0 = .ok (.iconst 0, 1) by decide +kernel) (by decide +kernel) ?_
  refine dc_istoren (pc := 1) (j := 1) (i := 1) (lv' := [(1, .int 0), (0, .ref o)]) hC rfl (Nat.le_of_ble_eq_true rfl) rfl (show decode prog_15_method_104_code 1 = .ok (.istore_n 1, 1) by decide +kernel) ?_
  exact dc_sub [1, 0] rfl (lab_2 S 0 h)
